abbrev q_Mo_firstAlike (K : Nat → ClassId) (m0 : Nat) (th : Nat) (T : Nat) (hd : Nat) (r1 : Nat) (r2 : Nat) (r3 : Nat) (r4 : Nat) (cm : Nat) (r5 : Nat) (r6 : Nat) (sg : Nat) (r7 : Nat) (sn : Nat) (r8 : Nat) (r9 : Nat) (rd : Nat → Nat) (ru : Nat → Int32) (rl : Nat → Int32) (wh : Nat → Int) (t : Nat) : Int32 → va_W → Prop := fun r u => ∃ f9 : Nat, u = [(m0, .inr (8, [.int (nI th), .int (nI T), .int (nI hd), .ref r1, .ref r2, .ref r3, .ref r4, .int (nI cm), .ref r5, .ref r6, .int (nI sg), .ref r7, .int (nI sn), .ref r8, .ref r9])), (r1, .inl (K 0, 520, .inl (nA rd))), (r3, .inl (K 0, 520, .inl ru)), (r4, .inl (K 0, 520, .inl rl)), (r5, .inl (K 0, 600, .inl (zA wh)))] ∧ r = nI f9 ∧ (f9 ≤ t) ∧ (f9 = t ↔ ∀ k, k < t → ¬ (ru k = ru t ∧ rl k = rl t ∧ wh (rd k) = wh (rd t)))
set_option maxHeartbeats 4000000 in
set_option maxRecDepth 100000 in
theorem lp_Mo_firstAlike_2 {p : Program} {l : Launch} {e : Env} {s : State} {m : MethodId} {below : List Frame} {meth : Method} {c : Code} {A : Nat → Prop} {D : va_G} {K : Nat → ClassId} (m0 : Nat) (th : Nat) (T : Nat) (hd : Nat) (r1 : Nat) (r2 : Nat) (r3 : Nat) (r4 : Nat) (cm : Nat) (r5 : Nat) (r6 : Nat) (sg : Nat) (r7 : Nat) (sn : Nat) (r8 : Nat) (r9 : Nat) (rd : Nat → Nat) (ru : Nat → Int32) (rl : Nat → Int32) (wh : Nat → Int) (t : Nat) (hcm : cm ≤ 600) (hw : ∀ d, d < cm → -2 ≤ wh d ∧ wh d ≤ 1000) (hhd : hd < 520) (hrd : ∀ i, i < hd → rd i < cm) (ht : t < hd) (hF : Fx p s m meth c y_Mo_firstAlike b_Mo_firstAlike 3 (some .int) D K) {b0 : Nat} (hA : AS K s A b0) : ∀ fuel : Nat, ∀ k : Nat, (k ≤ t) → (∀ i, i < k → ¬ (ru i = ru t ∧ rl i = rl t ∧ wh (rd i) = wh (rd t))) → t - k < fuel → ∀ (H : Heap) (locs : List Loc), va_P D classes [(m0, .inr (8, [.int (nI th), .int (nI T), .int (nI hd), .ref r1, .ref r2, .ref r3, .ref r4, .int (nI cm), .ref r5, .ref r6, .int (nI sg), .ref r7, .int (nI sn), .ref r8, .ref r9])), (r1, .inl (K 0, 520, .inl (nA rd))), (r3, .inl (K 0, 520, .inl ru)), (r4, .inl (K 0, 520, .inl rl)), (r5, .inl (K 0, 600, .inl (zA wh)))] H → va_D A [(m0, .inr (8, [.int (nI th), .int (nI T), .int (nI hd), .ref r1, .ref r2, .ref r3, .ref r4, .int (nI cm), .ref r5, .ref r6, .int (nI sg), .ref r7, .int (nI sn), .ref r8, .ref r9])), (r1, .inl (K 0, 520, .inl (nA rd))), (r3, .inl (K 0, 520, .inl ru)), (r4, .inl (K 0, 520, .inl rl)), (r5, .inl (K 0, 600, .inl (zA wh)))] → va_S A s.heap H locs → ∀ ls : Array Slot, lv_has ls 3 [(0, .ref m0), (1, .int (nI t)), (2, .int (nI k))] → W p l e ({ frames := 0, cells := 0, slots := 0, locals := 0 } : Room) s m ([.ref m0, .int (nI t)] : List Value).toArray below meth c H locs 0 0 (MQ below (va_Qi (q_Mo_firstAlike K m0 th T hd r1 r2 r3 r4 cm r5 r6 sg r7 sn r8 r9 rd ru rl wh t) (fun u t => va_P D classes u t.heap ∧ va_D A u) A) ([.ref m0, .int (nI t)] : List Value).toArray s 0 0 A) (F0 m 2 ls []) := by
  have hF2 := hF
  obtain ⟨hx, hb, hr, hml, hown, htw, hK, hlocks, hname⟩ := hF
  intro fuel
  induction fuel with
  | zero => intros; omega
  | succ fuel ih =>
    have jn_64 : ∀ k : Nat, (k < t) → (t - k < fuel + 1) → (∀ i, i < k + 1 → ¬ (ru i = ru t ∧ rl i = rl t ∧ wh (rd i) = wh (rd t))) → ∀ (H : Heap) (locs : List Loc), va_P D classes [(m0, .inr (8, [.int (nI th), .int (nI T), .int (nI hd), .ref r1, .ref r2, .ref r3, .ref r4, .int (nI cm), .ref r5, .ref r6, .int (nI sg), .ref r7, .int (nI sn), .ref r8, .ref r9])), (r1, .inl (K 0, 520, .inl (nA rd))), (r3, .inl (K 0, 520, .inl ru)), (r4, .inl (K 0, 520, .inl rl)), (r5, .inl (K 0, 600, .inl (zA wh)))] H → va_D A [(m0, .inr (8, [.int (nI th), .int (nI T), .int (nI hd), .ref r1, .ref r2, .ref r3, .ref r4, .int (nI cm), .ref r5, .ref r6, .int (nI sg), .ref r7, .int (nI sn), .ref r8, .ref r9])), (r1, .inl (K 0, 520, .inl (nA rd))), (r3, .inl (K 0, 520, .inl ru)), (r4, .inl (K 0, 520, .inl rl)), (r5, .inl (K 0, 600, .inl (zA wh)))] → va_S A s.heap H locs → ∀ ls : Array Slot, lv_has ls 3 [(0, .ref m0), (1, .int (nI t)), (2, .int (nI k))] → W p l e ({ frames := 0, cells := 0, slots := 0, locals := 0 } : Room) s m ([.ref m0, .int (nI t)] : List Value).toArray below meth c H locs 0 0 (MQ below (va_Qi (q_Mo_firstAlike K m0 th T hd r1 r2 r3 r4 cm r5 r6 sg r7 sn r8 r9 rd ru rl wh t) (fun u t => va_P D classes u t.heap ∧ va_D A u) A) ([.ref m0, .int (nI t)] : List Value).toArray s 0 0 A) (F0 m 64 ls []) := by
      intro k hk1 hfu hno H locs hP hD hS ls hl
      refine lv_iinc (v := nI (k + 1)) (lv' := [(2, .int (nI (k + 1))), (0, .ref m0), (1, .int (nI t))]) hx hb d_Mo_firstAlike_64 hl (k := 2) rfl (inc_nI _ _) (by decide) rfl (fun ls hl => ?_)
      refine lv_goto (tgt := 2) hx hb d_Mo_firstAlike_67 (by decide) ?_
      exact ih (k + 1) (by first | assumption | omega) (by first | assumption | omega) (by omega) _ _ hP hD hS _ (lv_sub hl [1, 2, 0] rfl)
    intro k hk1 hno hfu H locs hP hD hS ls hl
    refine lv_iload_n hx hb d_Mo_firstAlike_2 rfl (lv_at hl 2 rfl) ?_
    refine lv_iload_n hx hb d_Mo_firstAlike_3 rfl (lv_at hl 1 rfl) ?_
    refine xc_ge (tgt := 70) (a := k) (b := t) hx hb (by omega) (by omega) d_Mo_firstAlike_4 (by decide) (fun c_4 => ?_) (fun c_4 => ?_)
    · refine lv_iload_n hx hb d_Mo_firstAlike_70 rfl (lv_at hl 1 rfl) ?_
      exact xr_iret hx hb hr hlocks hP hD hS (Nat.le_of_ble_eq_true rfl) (Nat.le_of_ble_eq_true rfl) (⟨t, rfl, rfl, Nat.le_refl _, ⟨fun _ i hi => hno i (by omega), fun _ => rfl⟩⟩) d_Mo_firstAlike_71
    · refine lv_aload_n hx hb d_Mo_firstAlike_7 rfl (lv_at hl 0 rfl) ?_
      refine xg hx hb hown htw hK hP 0 5 rfl k_Mo (by decide) fl_Mo_16 rfl d_Mo_firstAlike_8 ?_
      refine lv_iload_n hx hb d_Mo_firstAlike_11 rfl (lv_at hl 2 rfl) ?_
      refine xald_i hx hb hK hP 2 rfl (by omega) (by omega) d_Mo_firstAlike_12 ?_
      refine lv_aload_n hx hb d_Mo_firstAlike_13 rfl (lv_at hl 0 rfl) ?_
      refine xg hx hb hown htw hK hP 0 5 rfl k_Mo (by decide) fl_Mo_16 rfl d_Mo_firstAlike_14 ?_
      refine lv_iload_n hx hb d_Mo_firstAlike_17 rfl (lv_at hl 1 rfl) ?_
      refine xald_i hx hb hK hP 2 rfl (by omega) (by omega) d_Mo_firstAlike_18 ?_
      refine lv_icmp_ne (tgt := 64) hx hb d_Mo_firstAlike_19 (by decide) (fun c_19 => ?_) (fun c_19 => ?_)
      · exact jn_64 k (by first | assumption | omega) (by first | assumption | omega) (by exact fun i hi w => by rcases Nat.lt_or_ge i k with v | v; (exact hno i v w); (have e : i = k := by omega); (rw [e] at w; exact c_19 w.1)) _ _ hP hD hS _ (lv_sub hl [0, 1, 2] rfl)
      · refine lv_aload_n hx hb d_Mo_firstAlike_22 rfl (lv_at hl 0 rfl) ?_
        refine xg hx hb hown htw hK hP 0 6 rfl k_Mo (by decide) fl_Mo_19 rfl d_Mo_firstAlike_23 ?_
        refine lv_iload_n hx hb d_Mo_firstAlike_26 rfl (lv_at hl 2 rfl) ?_
        refine xald_i hx hb hK hP 3 rfl (by omega) (by omega) d_Mo_firstAlike_27 ?_
        refine lv_aload_n hx hb d_Mo_firstAlike_28 rfl (lv_at hl 0 rfl) ?_
        refine xg hx hb hown htw hK hP 0 6 rfl k_Mo (by decide) fl_Mo_19 rfl d_Mo_firstAlike_29 ?_
        refine lv_iload_n hx hb d_Mo_firstAlike_32 rfl (lv_at hl 1 rfl) ?_
        refine xald_i hx hb hK hP 3 rfl (by omega) (by omega) d_Mo_firstAlike_33 ?_
        refine lv_icmp_ne (tgt := 64) hx hb d_Mo_firstAlike_34 (by decide) (fun c_34 => ?_) (fun c_34 => ?_)
        · exact jn_64 k (by first | assumption | omega) (by first | assumption | omega) (by exact fun i hi w => by rcases Nat.lt_or_ge i k with v | v; (exact hno i v w); (have e : i = k := by omega); (rw [e] at w; exact c_34 w.2.1)) _ _ hP hD hS _ (lv_sub hl [0, 1, 2] rfl)
        · refine lv_aload_n hx hb d_Mo_firstAlike_37 rfl (lv_at hl 0 rfl) ?_
          refine xg hx hb hown htw hK hP 0 8 rfl k_Mo (by decide) fl_Mo_22 rfl d_Mo_firstAlike_38 ?_
          refine lv_aload_n hx hb d_Mo_firstAlike_41 rfl (lv_at hl 0 rfl) ?_
          refine xg hx hb hown htw hK hP 0 3 rfl k_Mo (by decide) fl_Mo_7 rfl d_Mo_firstAlike_42 ?_
          refine lv_iload_n hx hb d_Mo_firstAlike_45 rfl (lv_at hl 2 rfl) ?_
          refine xald_i hx hb hK hP 1 rfl (by omega) (by omega) d_Mo_firstAlike_46 ?_
          refine xi (y := nI (rd k)) rfl ?_
          refine xald_i hx hb hK hP 4 rfl (by have := hrd k (by omega); omega) (by omega) d_Mo_firstAlike_47 ?_
          refine xi (y := zI (wh (rd k))) rfl ?_
          refine lv_aload_n hx hb d_Mo_firstAlike_48 rfl (lv_at hl 0 rfl) ?_
          refine xg hx hb hown htw hK hP 0 8 rfl k_Mo (by decide) fl_Mo_22 rfl d_Mo_firstAlike_49 ?_
          refine lv_aload_n hx hb d_Mo_firstAlike_52 rfl (lv_at hl 0 rfl) ?_
          refine xg hx hb hown htw hK hP 0 3 rfl k_Mo (by decide) fl_Mo_7 rfl d_Mo_firstAlike_53 ?_
          refine lv_iload_n hx hb d_Mo_firstAlike_56 rfl (lv_at hl 1 rfl) ?_
          refine xald_i hx hb hK hP 1 rfl (by omega) (by omega) d_Mo_firstAlike_57 ?_
          refine xi (y := nI (rd t)) rfl ?_
          refine xald_i hx hb hK hP 4 rfl (by have := hrd t (by omega); omega) (by omega) d_Mo_firstAlike_58 ?_
          refine xi (y := zI (wh (rd t))) rfl ?_
          refine xcz_ne (tgt := 64) (a := wh (rd k)) (b := wh (rd t)) hx hb (rfl) (rfl) (by have := hw _ (hrd k (by omega)); omega) (by have := hw _ (hrd k (by omega)); omega) (by have := hw _ (hrd t (by omega)); omega) (by have := hw _ (hrd t (by omega)); omega) d_Mo_firstAlike_59 (by decide) (fun c_59 => ?_) (fun c_59 => ?_)
          · exact jn_64 k (by first | assumption | omega) (by first | assumption | omega) (by exact fun i hi w => by rcases Nat.lt_or_ge i k with v | v; (exact hno i v w); (have e : i = k := by omega); (rw [e] at w; exact c_59 w.2.2)) _ _ hP hD hS _ (lv_sub hl [0, 1, 2] rfl)
          · refine lv_iload_n hx hb d_Mo_firstAlike_62 rfl (lv_at hl 2 rfl) ?_
            exact xr_iret hx hb hr hlocks hP hD hS (Nat.le_of_ble_eq_true rfl) (Nat.le_of_ble_eq_true rfl) (⟨k, rfl, rfl, by omega, ⟨fun w => by omega, fun w => absurd ⟨c_19, c_34, c_59⟩ (w k c_4)⟩⟩) d_Mo_firstAlike_63
set_option maxHeartbeats 4000000 in
set_option maxRecDepth 100000 in
theorem c_Mo_firstAlike (l : Launch) (D : va_G) (K : Nat → ClassId) (m0 : Nat) (th : Nat) (T : Nat) (hd : Nat) (r1 : Nat) (r2 : Nat) (r3 : Nat) (r4 : Nat) (cm : Nat) (r5 : Nat) (r6 : Nat) (sg : Nat) (r7 : Nat) (sn : Nat) (r8 : Nat) (r9 : Nat) (rd : Nat → Nat) (ru : Nat → Int32) (rl : Nat → Int32) (wh : Nat → Int) (t : Nat) (hcm : cm ≤ 600) (hw : ∀ d, d < cm → -2 ≤ wh d ∧ wh d ≤ 1000) (hhd : hd < 520) (hrd : ∀ i, i < hd → rd i < cm) (ht : t < hd) : CI l y_Mo_firstAlike b_Mo_firstAlike 3 .int ({ frames := 0, cells := 0, slots := 0, locals := 0 } : Room) D K [.ref m0, .int (nI t)] [(m0, .inr (8, [.int (nI th), .int (nI T), .int (nI hd), .ref r1, .ref r2, .ref r3, .ref r4, .int (nI cm), .ref r5, .ref r6, .int (nI sg), .ref r7, .int (nI sn), .ref r8, .ref r9])), (r1, .inl (K 0, 520, .inl (nA rd))), (r3, .inl (K 0, 520, .inl ru)), (r4, .inl (K 0, 520, .inl rl)), (r5, .inl (K 0, 600, .inl (zA wh)))] (q_Mo_firstAlike K m0 th T hd r1 r2 r3 r4 cm r5 r6 sg r7 sn r8 r9 rd ru rl wh t) := by
  refine CI_of (by decide) (Nat.le_of_ble_eq_true rfl) ?_
  intro p e s m below meth c A b0 ls hF hA hP hD hl
  have hF2 := hF
  obtain ⟨hx, hb, hr, hml, hown, htw, hK, hlocks, hname⟩ := hF
  have hS : va_S A s.heap s.heap [] := va_S.rf
  have hl : lv_has ls 3 [(0, .ref m0), (1, .int (nI t))] := hl
  refine lv_iconst (v := nI 0) hx hb d_Mo_firstAlike_0 (by decide) ?_
  refine lv_istore_n (lv' := [(2, .int (nI 0)), (0, .ref m0), (1, .int (nI t))]) hx hb d_Mo_firstAlike_1 rfl hl (by decide) rfl (fun ls hl => ?_)
  exact lp_Mo_firstAlike_2 (l := l) m0 th T hd r1 r2 r3 r4 cm r5 r6 sg r7 sn r8 r9 rd ru rl wh t hcm hw hhd hrd ht hF2 hA _ 0 (by first | assumption | omega) (by exact fun i hi => by omega) (Nat.lt_succ_self _) _ _ hP hD hS _ (lv_sub hl [1, 2, 0] rfl)

abbrev q_Mo_segment_bad (K : Nat → ClassId) (m0 : Nat) (th : Nat) (T : Nat) (hd : Nat) (r1 : Nat) (r2 : Nat) (r3 : Nat) (r4 : Nat) (cm : Nat) (r5 : Nat) (r6 : Nat) (sg : Nat) (r7 : Nat) (sn : Nat) (r8 : Nat) (r9 : Nat) (x : Int32) (y : Int32) : Int32 → va_W → Prop := fun r u => u = [(m0, .inr (8, [.int (nI 0), .int (nI T), .int (nI hd), .ref r1, .ref r2, .ref r3, .ref r4, .int (nI cm), .ref r5, .ref r6, .int (nI sg), .ref r7, .int (nI sn), .ref r8, .ref r9]))] ∧ r = zI (-1)
set_option maxHeartbeats 4000000 in
set_option maxRecDepth 100000 in
theorem c_Mo_segment_bad (l : Launch) (D : va_G) (K : Nat → ClassId) (m0 : Nat) (th : Nat) (T : Nat) (hd : Nat) (r1 : Nat) (r2 : Nat) (r3 : Nat) (r4 : Nat) (cm : Nat) (r5 : Nat) (r6 : Nat) (sg : Nat) (r7 : Nat) (sn : Nat) (r8 : Nat) (r9 : Nat) (x : Int32) (y : Int32) (hsg : sg ≤ 1000) (hbad : x < 0 ∨ nI sg ≤ x ∨ y < 0 ∨ nI 3 < y) : CI l y_Mo_segment b_Mo_segment 5 .int ({ frames := 0, cells := 0, slots := 0, locals := 0 } : Room) D K [.ref m0, .int x, .int y] [(m0, .inr (8, [.int (nI th), .int (nI T), .int (nI hd), .ref r1, .ref r2, .ref r3, .ref r4, .int (nI cm), .ref r5, .ref r6, .int (nI sg), .ref r7, .int (nI sn), .ref r8, .ref r9]))] (q_Mo_segment_bad K m0 th T hd r1 r2 r3 r4 cm r5 r6 sg r7 sn r8 r9 x y) := by
  refine CI_of (by decide) (Nat.le_of_ble_eq_true rfl) ?_
  intro p e s m below meth c A b0 ls hF hA hP hD hl
  have hF2 := hF
  obtain ⟨hx, hb, hr, hml, hown, htw, hK, hlocks, hname⟩ := hF
  have hS : va_S A s.heap s.heap [] := va_S.rf
  have hl : lv_has ls 5 [(0, .ref m0), (1, .int x), (2, .int y)] := hl
  refine lv_aload_n hx hb d_Mo_segment_0 rfl (lv_at hl 0 rfl) ?_
  refine lv_iconst (v := nI 0) hx hb d_Mo_segment_1 (by decide) ?_
  refine xpt hx hb hown htw hK hP hD hS 0 0 rfl k_Mo (by decide) fl_Mo_38 rfl rfl rfl (Nat.le_of_ble_eq_true rfl) d_Mo_segment_2 (fun H locs hP hD hS => ?_)
  have hP : va_P D classes [(m0, .inr (8, [.int (nI 0), .int (nI T), .int (nI hd), .ref r1, .ref r2, .ref r3, .ref r4, .int (nI cm), .ref r5, .ref r6, .int (nI sg), .ref r7, .int (nI sn), .ref r8, .ref r9]))] H := hP
  have hD : va_D A [(m0, .inr (8, [.int (nI 0), .int (nI T), .int (nI hd), .ref r1, .ref r2, .ref r3, .ref r4, .int (nI cm), .ref r5, .ref r6, .int (nI sg), .ref r7, .int (nI sn), .ref r8, .ref r9]))] := hD
  refine lv_iload_n hx hb d_Mo_segment_5 rfl (lv_at hl 1 rfl) ?_
  refine lv_if_lt (tgt := 26) hx hb d_Mo_segment_6 (by decide) (fun c_6 => ?_) (fun c_6 => ?_)
  · refine lv_iconst (v := zI (-1)) hx hb d_Mo_segment_26 (by decide) ?_
    exact xr_iret hx hb hr hlocks hP hD hS (Nat.le_of_ble_eq_true rfl) (Nat.le_of_ble_eq_true rfl) (⟨rfl, rfl⟩) d_Mo_segment_27
  · refine lv_iload_n hx hb d_Mo_segment_9 rfl (lv_at hl 1 rfl) ?_
    refine lv_aload_n hx hb d_Mo_segment_10 rfl (lv_at hl 0 rfl) ?_
    refine xg hx hb hown htw hK hP 0 10 rfl k_Mo (by decide) fl_Mo_58 rfl d_Mo_segment_11 ?_
    refine lv_icmp_ge (tgt := 26) hx hb d_Mo_segment_14 (by decide) (fun c_14 => ?_) (fun c_14 => ?_)
    · refine lv_iconst (v := zI (-1)) hx hb d_Mo_segment_26 (by decide) ?_
      exact xr_iret hx hb hr hlocks hP hD hS (Nat.le_of_ble_eq_true rfl) (Nat.le_of_ble_eq_true rfl) (⟨rfl, rfl⟩) d_Mo_segment_27
    · refine lv_iload_n hx hb d_Mo_segment_17 rfl (lv_at hl 2 rfl) ?_
      refine lv_if_lt (tgt := 26) hx hb d_Mo_segment_18 (by decide) (fun c_18 => ?_) (fun c_18 => ?_)
      · refine lv_iconst (v := zI (-1)) hx hb d_Mo_segment_26 (by decide) ?_
        exact xr_iret hx hb hr hlocks hP hD hS (Nat.le_of_ble_eq_true rfl) (Nat.le_of_ble_eq_true rfl) (⟨rfl, rfl⟩) d_Mo_segment_27
      · refine lv_iload_n hx hb d_Mo_segment_21 rfl (lv_at hl 2 rfl) ?_
        refine lv_iconst (v := nI 3) hx hb d_Mo_segment_22 (by decide) ?_
        refine lv_icmp_le (tgt := 28) hx hb d_Mo_segment_23 (by decide) (fun c_23 => ?_) (fun c_23 => ?_)
        · exact absurd hbad (fun q => q.elim c_6 (fun q => q.elim c_14 (fun q => q.elim c_18 (fun q => absurd c_23 (Int32.not_le.mpr q)))))
        · refine lv_iconst (v := zI (-1)) hx hb d_Mo_segment_26 (by decide) ?_
          exact xr_iret hx hb hr hlocks hP hD hS (Nat.le_of_ble_eq_true rfl) (Nat.le_of_ble_eq_true rfl) (⟨rfl, rfl⟩) d_Mo_segment_27

abbrev q_Mo_segment_0 (K : Nat → ClassId) (m0 : Nat) (th : Nat) (T : Nat) (hd : Nat) (r1 : Nat) (r2 : Nat) (r3 : Nat) (r4 : Nat) (cm : Nat) (r5 : Nat) (r6 : Nat) (sg : Nat) (r7 : Nat) (sn : Nat) (r8 : Nat) (r9 : Nat) (lv : Nat → Nat) (q : Nat) : Int32 → va_W → Prop := fun r u => u = [(m0, .inr (8, [.int (nI 0), .int (nI T), .int (nI hd), .ref r1, .ref r2, .ref r3, .ref r4, .int (nI cm), .ref r5, .ref r6, .int (nI sg), .ref r7, .int (nI sn), .ref r8, .ref r9])), (r7, .inl (K 0, 64, .inl (nA lv)))] ∧ r = nI (lv q)
set_option maxHeartbeats 4000000 in
set_option maxRecDepth 100000 in
theorem c_Mo_segment_0 (l : Launch) (D : va_G) (K : Nat → ClassId) (m0 : Nat) (th : Nat) (T : Nat) (hd : Nat) (r1 : Nat) (r2 : Nat) (r3 : Nat) (r4 : Nat) (cm : Nat) (r5 : Nat) (r6 : Nat) (sg : Nat) (r7 : Nat) (sn : Nat) (r8 : Nat) (r9 : Nat) (lv : Nat → Nat) (q : Nat) (hq : q < sg) (hsg : sg ≤ 63) : CI l y_Mo_segment b_Mo_segment 5 .int ({ frames := 0, cells := 0, slots := 0, locals := 0 } : Room) D K [.ref m0, .int (nI q), .int (nI 0)] [(m0, .inr (8, [.int (nI th), .int (nI T), .int (nI hd), .ref r1, .ref r2, .ref r3, .ref r4, .int (nI cm), .ref r5, .ref r6, .int (nI sg), .ref r7, .int (nI sn), .ref r8, .ref r9])), (r7, .inl (K 0, 64, .inl (nA lv)))] (q_Mo_segment_0 K m0 th T hd r1 r2 r3 r4 cm r5 r6 sg r7 sn r8 r9 lv q) := by
  refine CI_of (by decide) (Nat.le_of_ble_eq_true rfl) ?_
  intro p e s m below meth c A b0 ls hF hA hP hD hl
  have hF2 := hF
  obtain ⟨hx, hb, hr, hml, hown, htw, hK, hlocks, hname⟩ := hF
  have hS : va_S A s.heap s.heap [] := va_S.rf
  have hl : lv_has ls 5 [(0, .ref m0), (1, .int (nI q)), (2, .int (nI 0))] := hl
  refine lv_aload_n hx hb d_Mo_segment_0 rfl (lv_at hl 0 rfl) ?_
  refine lv_iconst (v := nI 0) hx hb d_Mo_segment_1 (by decide) ?_
  refine xpt hx hb hown htw hK hP hD hS 0 0 rfl k_Mo (by decide) fl_Mo_38 rfl rfl rfl (Nat.le_of_ble_eq_true rfl) d_Mo_segment_2 (fun H locs hP hD hS => ?_)
  have hP : va_P D classes [(m0, .inr (8, [.int (nI 0), .int (nI T), .int (nI hd), .ref r1, .ref r2, .ref r3, .ref r4, .int (nI cm), .ref r5, .ref r6, .int (nI sg), .ref r7, .int (nI sn), .ref r8, .ref r9])), (r7, .inl (K 0, 64, .inl (nA lv)))] H := hP
  have hD : va_D A [(m0, .inr (8, [.int (nI 0), .int (nI T), .int (nI hd), .ref r1, .ref r2, .ref r3, .ref r4, .int (nI cm), .ref r5, .ref r6, .int (nI sg), .ref r7, .int (nI sn), .ref r8, .ref r9])), (r7, .inl (K 0, 64, .inl (nA lv)))] := hD
  refine lv_iload_n hx hb d_Mo_segment_5 rfl (lv_at hl 1 rfl) ?_
  refine xz_lt (a := q) hx hb (by omega) d_Mo_segment_6 26 (by decide) ?_
  refine lv_iload_n hx hb d_Mo_segment_9 rfl (lv_at hl 1 rfl) ?_
  refine lv_aload_n hx hb d_Mo_segment_10 rfl (lv_at hl 0 rfl) ?_
  refine xg hx hb hown htw hK hP 0 10 rfl k_Mo (by decide) fl_Mo_58 rfl d_Mo_segment_11 ?_
  refine xc_ge (tgt := 26) (a := q) (b := sg) hx hb (by omega) (by omega) d_Mo_segment_14 (by decide) (fun c_14 => ?_) (fun c_14 => ?_)
  · omega
  · refine lv_iload_n hx hb d_Mo_segment_17 rfl (lv_at hl 2 rfl) ?_
    refine xz_lt (a := 0) hx hb (by omega) d_Mo_segment_18 26 (by decide) ?_
    refine lv_iload_n hx hb d_Mo_segment_21 rfl (lv_at hl 2 rfl) ?_
    refine lv_iconst (v := nI 3) hx hb d_Mo_segment_22 (by decide) ?_
    refine xc_le (tgt := 28) (a := 0) (b := 3) hx hb (by omega) (by omega) d_Mo_segment_23 (by decide) (fun c_23 => ?_) (fun c_23 => ?_)
    · refine lv_iload_n hx hb d_Mo_segment_28 rfl (lv_at hl 2 rfl) ?_
      refine xz_ne (tgt := 39) (a := 0) hx hb (by omega) d_Mo_segment_29 (by decide) (fun c_29 => ?_) (fun c_29 => ?_)
      · omega
      · refine lv_aload_n hx hb d_Mo_segment_32 rfl (lv_at hl 0 rfl) ?_
        refine xg hx hb hown htw hK hP 0 11 rfl k_Mo (by decide) fl_Mo_29 rfl d_Mo_segment_33 ?_
        refine lv_iload_n hx hb d_Mo_segment_36 rfl (lv_at hl 1 rfl) ?_
        refine xald_i hx hb hK hP 1 rfl (by omega) (by omega) d_Mo_segment_37 ?_
        refine xi (y := nI (lv q)) rfl ?_
        exact xr_iret hx hb hr hlocks hP hD hS (Nat.le_of_ble_eq_true rfl) (Nat.le_of_ble_eq_true rfl) (⟨rfl, rfl⟩) d_Mo_segment_38
    · omega

abbrev q_Mo_segment_1 (K : Nat → ClassId) (m0 : Nat) (th : Nat) (T : Nat) (hd : Nat) (r1 : Nat) (r2 : Nat) (r3 : Nat) (r4 : Nat) (cm : Nat) (r5 : Nat) (r6 : Nat) (sg : Nat) (r7 : Nat) (sn : Nat) (r8 : Nat) (r9 : Nat) (wh : Nat → Int) (q : Nat) : Int32 → va_W → Prop := fun r u => u = [(m0, .inr (8, [.int (nI 0), .int (nI T), .int (nI hd), .ref r1, .ref r2, .ref r3, .ref r4, .int (nI cm), .ref r5, .ref r6, .int (nI sg), .ref r7, .int (nI sn), .ref r8, .ref r9])), (r5, .inl (K 0, 600, .inl (zA wh)))] ∧ r = nI (cnz wh ((q : Nat) : Int) cm)
set_option maxHeartbeats 4000000 in
set_option maxRecDepth 100000 in
theorem c_Mo_segment_1 (l : Launch) (D : va_G) (K : Nat → ClassId) (m0 : Nat) (th : Nat) (T : Nat) (hd : Nat) (r1 : Nat) (r2 : Nat) (r3 : Nat) (r4 : Nat) (cm : Nat) (r5 : Nat) (r6 : Nat) (sg : Nat) (r7 : Nat) (sn : Nat) (r8 : Nat) (r9 : Nat) (wh : Nat → Int) (q : Nat) (hq : q < sg) (hsg : sg ≤ 63) (hcm : cm ≤ 600) (hw : ∀ d, d < cm → -2 ≤ wh d ∧ wh d ≤ 1000) : CI l y_Mo_segment b_Mo_segment 5 .int ({ frames := 1, cells := 0, slots := 0, locals := 23 } : Room) D K [.ref m0, .int (nI q), .int (nI 1)] [(m0, .inr (8, [.int (nI th), .int (nI T), .int (nI hd), .ref r1, .ref r2, .ref r3, .ref r4, .int (nI cm), .ref r5, .ref r6, .int (nI sg), .ref r7, .int (nI sn), .ref r8, .ref r9])), (r5, .inl (K 0, 600, .inl (zA wh)))] (q_Mo_segment_1 K m0 th T hd r1 r2 r3 r4 cm r5 r6 sg r7 sn r8 r9 wh q) := by
  refine CI_of (by decide) (Nat.le_of_ble_eq_true rfl) ?_
  intro p e s m below meth c A b0 ls hF hA hP hD hl
  have hF2 := hF
  obtain ⟨hx, hb, hr, hml, hown, htw, hK, hlocks, hname⟩ := hF
  have hS : va_S A s.heap s.heap [] := va_S.rf
  have hl : lv_has ls 5 [(0, .ref m0), (1, .int (nI q)), (2, .int (nI 1))] := hl
  refine lv_aload_n hx hb d_Mo_segment_0 rfl (lv_at hl 0 rfl) ?_
  refine lv_iconst (v := nI 0) hx hb d_Mo_segment_1 (by decide) ?_
  refine xpt hx hb hown htw hK hP hD hS 0 0 rfl k_Mo (by decide) fl_Mo_38 rfl rfl rfl (Nat.le_of_ble_eq_true rfl) d_Mo_segment_2 (fun H locs hP hD hS => ?_)
  have hP : va_P D classes [(m0, .inr (8, [.int (nI 0), .int (nI T), .int (nI hd), .ref r1, .ref r2, .ref r3, .ref r4, .int (nI cm), .ref r5, .ref r6, .int (nI sg), .ref r7, .int (nI sn), .ref r8, .ref r9])), (r5, .inl (K 0, 600, .inl (zA wh)))] H := hP
  have hD : va_D A [(m0, .inr (8, [.int (nI 0), .int (nI T), .int (nI hd), .ref r1, .ref r2, .ref r3, .ref r4, .int (nI cm), .ref r5, .ref r6, .int (nI sg), .ref r7, .int (nI sn), .ref r8, .ref r9])), (r5, .inl (K 0, 600, .inl (zA wh)))] := hD
  refine lv_iload_n hx hb d_Mo_segment_5 rfl (lv_at hl 1 rfl) ?_
  refine xz_lt (a := q) hx hb (by omega) d_Mo_segment_6 26 (by decide) ?_
  refine lv_iload_n hx hb d_Mo_segment_9 rfl (lv_at hl 1 rfl) ?_
  refine lv_aload_n hx hb d_Mo_segment_10 rfl (lv_at hl 0 rfl) ?_
  refine xg hx hb hown htw hK hP 0 10 rfl k_Mo (by decide) fl_Mo_58 rfl d_Mo_segment_11 ?_
  refine xc_ge (tgt := 26) (a := q) (b := sg) hx hb (by omega) (by omega) d_Mo_segment_14 (by decide) (fun c_14 => ?_) (fun c_14 => ?_)
  · omega
  · refine lv_iload_n hx hb d_Mo_segment_17 rfl (lv_at hl 2 rfl) ?_
    refine xz_lt (a := 1) hx hb (by omega) d_Mo_segment_18 26 (by decide) ?_
    refine lv_iload_n hx hb d_Mo_segment_21 rfl (lv_at hl 2 rfl) ?_
    refine lv_iconst (v := nI 3) hx hb d_Mo_segment_22 (by decide) ?_
    refine xc_le (tgt := 28) (a := 1) (b := 3) hx hb (by omega) (by omega) d_Mo_segment_23 (by decide) (fun c_23 => ?_) (fun c_23 => ?_)
    · refine lv_iload_n hx hb d_Mo_segment_28 rfl (lv_at hl 2 rfl) ?_
      refine xz_ne (tgt := 39) (a := 1) hx hb (by omega) d_Mo_segment_29 (by decide) (fun c_29 => ?_) (fun c_29 => ?_)
      · refine lv_iload_n hx hb d_Mo_segment_39 rfl (lv_at hl 2 rfl) ?_
        refine lv_iconst (v := nI 1) hx hb d_Mo_segment_40 (by decide) ?_
        refine xc_ne (tgt := 50) (a := 1) (b := 1) hx hb (by omega) (by omega) d_Mo_segment_41 (by decide) (fun c_41 => ?_) (fun c_41 => ?_)
        · omega
        · refine lv_aload_n hx hb d_Mo_segment_44 rfl (lv_at hl 0 rfl) ?_
          refine lv_iload_n hx hb d_Mo_segment_45 rfl (lv_at hl 1 rfl) ?_
          refine xi (y := zI ((q : Nat) : Int)) (nI_zI _) ?_
          refine xcV_i (As := [.int (zI ((q : Nat) : Int))]) (rest := []) (wr := []) hx hb hml hown htw hK hA hl.1 hP hD hS (c_Mo_inside l D K m0 0 T hd r1 r2 r3 r4 cm r5 r6 sg r7 sn r8 r9 wh ((q : Nat) : Int) (by first | assumption | omega) (by first | assumption | omega) (by first | assumption | omega) (by first | assumption | omega)) [0, 1] [] rfl rfl (by decide) (by decide) (by decide) 0 rfl k_Mo ml_Mo_51 w_Mo_inside rfl ⟨by decide, by decide⟩ rfl (Nat.le_of_ble_eq_true rfl) ⟨by decide, by decide⟩ d_Mo_segment_46 (fun r u H locs hpost hP hD hS => ?_)
          obtain ⟨rfl, rfl⟩ := hpost
          have hP : va_P D classes [(m0, .inr (8, [.int (nI 0), .int (nI T), .int (nI hd), .ref r1, .ref r2, .ref r3, .ref r4, .int (nI cm), .ref r5, .ref r6, .int (nI sg), .ref r7, .int (nI sn), .ref r8, .ref r9])), (r5, .inl (K 0, 600, .inl (zA wh)))] H := hP
          have hD : va_D A [(m0, .inr (8, [.int (nI 0), .int (nI T), .int (nI hd), .ref r1, .ref r2, .ref r3, .ref r4, .int (nI cm), .ref r5, .ref r6, .int (nI sg), .ref r7, .int (nI sn), .ref r8, .ref r9])), (r5, .inl (K 0, 600, .inl (zA wh)))] := hD
          exact xr_iret hx hb hr hlocks hP hD hS (Nat.le_of_ble_eq_true rfl) (Nat.le_of_ble_eq_true rfl) (⟨rfl, rfl⟩) d_Mo_segment_49
      · omega
    · omega

abbrev q_Mo_segment_2 (K : Nat → ClassId) (m0 : Nat) (th : Nat) (T : Nat) (hd : Nat) (r1 : Nat) (r2 : Nat) (r3 : Nat) (r4 : Nat) (cm : Nat) (r5 : Nat) (r6 : Nat) (sg : Nat) (r7 : Nat) (sn : Nat) (r8 : Nat) (r9 : Nat) (rd : Nat → Nat) (ru : Nat → Int32) (rl : Nat → Int32) (wh : Nat → Int) (q : Nat) : Int32 → va_W → Prop := fun r u => u = [(m0, .inr (8, [.int (nI 0), .int (nI T), .int (nI hd), .ref r1, .ref r2, .ref r3, .ref r4, .int (nI cm), .ref r5, .ref r6, .int (nI sg), .ref r7, .int (nI sn), .ref r8, .ref r9])), (r1, .inl (K 0, 520, .inl (nA rd))), (r3, .inl (K 0, 520, .inl ru)), (r4, .inl (K 0, 520, .inl rl)), (r5, .inl (K 0, 600, .inl (zA wh)))] ∧ r = nI (cnP (fun i9 => wh (rd i9) = ((q : Nat) : Int) ∧ ∀ k9, k9 < i9 → ¬ (ru k9 = ru i9 ∧ rl k9 = rl i9 ∧ wh (rd k9) = wh (rd i9))) hd)
set_option maxHeartbeats 4000000 in
set_option maxRecDepth 100000 in
theorem lp_Mo_segment_2_55 {p : Program} {l : Launch} {e : Env} {s : State} {m : MethodId} {below : List Frame} {meth : Method} {c : Code} {A : Nat → Prop} {D : va_G} {K : Nat → ClassId} (m0 : Nat) (th : Nat) (T : Nat) (hd : Nat) (r1 : Nat) (r2 : Nat) (r3 : Nat) (r4 : Nat) (cm : Nat) (r5 : Nat) (r6 : Nat) (sg : Nat) (r7 : Nat) (sn : Nat) (r8 : Nat) (r9 : Nat) (rd : Nat → Nat) (ru : Nat → Int32) (rl : Nat → Int32) (wh : Nat → Int) (q : Nat) (hq : q < sg) (hsg : sg ≤ 63) (hcm : cm ≤ 600) (hw : ∀ d, d < cm → -2 ≤ wh d ∧ wh d ≤ 1000) (hhd : hd < 520) (hrd : ∀ i, i < hd → rd i < cm) (hF : Fx p s m meth c y_Mo_segment b_Mo_segment 5 (some .int) D K) {b0 : Nat} (hA : AS K s A b0) : ∀ fuel : Nat, ∀ k : Nat, (k ≤ hd) → hd - k < fuel → ∀ (H : Heap) (locs : List Loc), va_P D classes [(m0, .inr (8, [.int (nI 0), .int (nI T), .int (nI hd), .ref r1, .ref r2, .ref r3, .ref r4, .int (nI cm), .ref r5, .ref r6, .int (nI sg), .ref r7, .int (nI sn), .ref r8, .ref r9])), (r1, .inl (K 0, 520, .inl (nA rd))), (r3, .inl (K 0, 520, .inl ru)), (r4, .inl (K 0, 520, .inl rl)), (r5, .inl (K 0, 600, .inl (zA wh)))] H → va_D A [(m0, .inr (8, [.int (nI 0), .int (nI T), .int (nI hd), .ref r1, .ref r2, .ref r3, .ref r4, .int (nI cm), .ref r5, .ref r6, .int (nI sg), .ref r7, .int (nI sn), .ref r8, .ref r9])), (r1, .inl (K 0, 520, .inl (nA rd))), (r3, .inl (K 0, 520, .inl ru)), (r4, .inl (K 0, 520, .inl rl)), (r5, .inl (K 0, 600, .inl (zA wh)))] → va_S A s.heap H locs → ∀ ls : Array Slot, lv_has ls 5 [(0, .ref m0), (1, .int (nI q)), (2, .int (nI 2)), (3, .int (nI (cnP (fun i9 => wh (rd i9) = ((q : Nat) : Int) ∧ ∀ k9, k9 < i9 → ¬ (ru k9 = ru i9 ∧ rl k9 = rl i9 ∧ wh (rd k9) = wh (rd i9))) k))), (4, .int (nI k))] → W p l e ({ frames := 1, cells := 0, slots := 0, locals := 22 } : Room) s m ([.ref m0, .int (nI q), .int (nI 2)] : List Value).toArray below meth c H locs 0 0 (MQ below (va_Qi (q_Mo_segment_2 K m0 th T hd r1 r2 r3 r4 cm r5 r6 sg r7 sn r8 r9 rd ru rl wh q) (fun u t => va_P D classes u t.heap ∧ va_D A u) A) ([.ref m0, .int (nI q), .int (nI 2)] : List Value).toArray s 0 0 A) (F0 m 55 ls []) := by
  have hF2 := hF
  obtain ⟨hx, hb, hr, hml, hown, htw, hK, hlocks, hname⟩ := hF
  intro fuel
  induction fuel with
  | zero => intros; omega
  | succ fuel ih =>
    have jn_99 : ∀ k : Nat, ∀ cc2 : Nat, (k < hd) → (hd - k < fuel + 1) → (cc2 = cnP (fun i9 => wh (rd i9) = ((q : Nat) : Int) ∧ ∀ k9, k9 < i9 → ¬ (ru k9 = ru i9 ∧ rl k9 = rl i9 ∧ wh (rd k9) = wh (rd i9))) (k + 1)) → ∀ (H : Heap) (locs : List Loc), va_P D classes [(m0, .inr (8, [.int (nI 0), .int (nI T), .int (nI hd), .ref r1, .ref r2, .ref r3, .ref r4, .int (nI cm), .ref r5, .ref r6, .int (nI sg), .ref r7, .int (nI sn), .ref r8, .ref r9])), (r1, .inl (K 0, 520, .inl (nA rd))), (r3, .inl (K 0, 520, .inl ru)), (r4, .inl (K 0, 520, .inl rl)), (r5, .inl (K 0, 600, .inl (zA wh)))] H → va_D A [(m0, .inr (8, [.int (nI 0), .int (nI T), .int (nI hd), .ref r1, .ref r2, .ref r3, .ref r4, .int (nI cm), .ref r5, .ref r6, .int (nI sg), .ref r7, .int (nI sn), .ref r8, .ref r9])), (r1, .inl (K 0, 520, .inl (nA rd))), (r3, .inl (K 0, 520, .inl ru)), (r4, .inl (K 0, 520, .inl rl)), (r5, .inl (K 0, 600, .inl (zA wh)))] → va_S A s.heap H locs → ∀ ls : Array Slot, lv_has ls 5 [(0, .ref m0), (1, .int (nI q)), (2, .int (nI 2)), (3, .int (nI cc2)), (4, .int (nI k))] → W p l e ({ frames := 1, cells := 0, slots := 0, locals := 22 } : Room) s m ([.ref m0, .int (nI q), .int (nI 2)] : List Value).toArray below meth c H locs 0 0 (MQ below (va_Qi (q_Mo_segment_2 K m0 th T hd r1 r2 r3 r4 cm r5 r6 sg r7 sn r8 r9 rd ru rl wh q) (fun u t => va_P D classes u t.heap ∧ va_D A u) A) ([.ref m0, .int (nI q), .int (nI 2)] : List Value).toArray s 0 0 A) (F0 m 99 ls []) := by
      intro k cc2 hk1 hfu hcc H locs hP hD hS ls hl
      subst hcc
      refine lv_iinc (v := nI (k + 1)) (lv' := [(4, .int (nI (k + 1))), (0, .ref m0), (1, .int (nI q)), (2, .int (nI 2)), (3, .int (nI (cnP (fun i9 => wh (rd i9) = ((q : Nat) : Int) ∧ ∀ k9, k9 < i9 → ¬ (ru k9 = ru i9 ∧ rl k9 = rl i9 ∧ wh (rd k9) = wh (rd i9))) (k + 1))))]) hx hb d_Mo_segment_99 hl (k := 4) rfl (inc_nI _ _) (by decide) rfl (fun ls hl => ?_)
      refine lv_goto (tgt := 55) hx hb d_Mo_segment_102 (by decide) ?_
      exact ih (k + 1) (by first | assumption | omega) (by omega) _ _ hP hD hS _ (lv_sub hl [1, 2, 3, 4, 0] rfl)
    intro k hk1 hfu H locs hP hD hS ls hl
    refine lv_iload hx hb d_Mo_segment_55 (lv_at hl 4 rfl) ?_
    refine lv_aload_n hx hb d_Mo_segment_57 rfl (lv_at hl 0 rfl) ?_
    refine xg hx hb hown htw hK hP 0 2 rfl k_Mo (by decide) fl_Mo_42 rfl d_Mo_segment_58 ?_
    refine xc_ge (tgt := 105) (a := k) (b := hd) hx hb (by omega) (by omega) d_Mo_segment_61 (by decide) (fun c_61 => ?_) (fun c_61 => ?_)
    · have hk2 : hd = k := by omega
      subst hk2
      refine lv_iload_n hx hb d_Mo_segment_105 rfl (lv_at hl 3 rfl) ?_
      exact xr_iret hx hb hr hlocks hP hD hS (Nat.le_of_ble_eq_true rfl) (Nat.le_of_ble_eq_true rfl) (⟨rfl, rfl⟩) d_Mo_segment_106
    · refine lv_aload_n hx hb d_Mo_segment_64 rfl (lv_at hl 0 rfl) ?_
      refine xg hx hb hown htw hK hP 0 8 rfl k_Mo (by decide) fl_Mo_22 rfl d_Mo_segment_65 ?_
      refine lv_aload_n hx hb d_Mo_segment_68 rfl (lv_at hl 0 rfl) ?_
      refine xg hx hb hown htw hK hP 0 3 rfl k_Mo (by decide) fl_Mo_7 rfl d_Mo_segment_69 ?_
      refine lv_iload hx hb d_Mo_segment_72 (lv_at hl 4 rfl) ?_
      refine xald_i hx hb hK hP 1 rfl (by omega) (by omega) d_Mo_segment_74 ?_
      refine xi (y := nI (rd k)) rfl ?_
      refine xald_i hx hb hK hP 4 rfl (by have := hrd k (by omega); omega) (by omega) d_Mo_segment_75 ?_
      refine xi (y := zI (wh (rd k))) rfl ?_
      refine lv_iload_n hx hb d_Mo_segment_76 rfl (lv_at hl 1 rfl) ?_
      refine xcz_ne (tgt := 99) (a := wh (rd k)) (b := ((q : Nat) : Int)) hx hb (rfl) (nI_zI _) (by have := hw _ (hrd k (by omega)); omega) (by have := hw _ (hrd k (by omega)); omega) (by omega) (by omega) d_Mo_segment_77 (by decide) (fun c_77 => ?_) (fun c_77 => ?_)
      · exact jn_99 k (cnP (fun i9 => wh (rd i9) = ((q : Nat) : Int) ∧ ∀ k9, k9 < i9 → ¬ (ru k9 = ru i9 ∧ rl k9 = rl i9 ∧ wh (rd k9) = wh (rd i9))) k) (by first | assumption | omega) (by first | assumption | omega) (by exact (cnP_n (P := (fun i9 => wh (rd i9) = ((q : Nat) : Int) ∧ ∀ k9, k9 < i9 → ¬ (ru k9 = ru i9 ∧ rl k9 = rl i9 ∧ wh (rd k9) = wh (rd i9)))) (n := k) (fun w => c_77 w.1)).symm) _ _ hP hD hS _ (lv_sub hl [0, 1, 2, 3, 4] rfl)
      · refine lv_iload_n hx hb d_Mo_segment_80 rfl (lv_at hl 2 rfl) ?_
        refine lv_iconst (v := nI 3) hx hb d_Mo_segment_81 (by decide) ?_
        refine xc_eq (tgt := 96) (a := 2) (b := 3) hx hb (by omega) (by omega) d_Mo_segment_82 (by decide) (fun c_82 => ?_) (fun c_82 => ?_)
        · omega
        · refine lv_aload_n hx hb d_Mo_segment_85 rfl (lv_at hl 0 rfl) ?_
          refine lv_iload hx hb d_Mo_segment_86 (lv_at hl 4 rfl) ?_
          refine xcV_i (As := [.int (nI k)]) (rest := []) (wr := []) hx hb hml hown htw hK hA hl.1 hP hD hS (c_Mo_firstAlike l D K m0 0 T hd r1 r2 r3 r4 cm r5 r6 sg r7 sn r8 r9 rd ru rl wh k (by first | assumption | omega) (by first | assumption | omega) (by first | assumption | omega) (by first | assumption | omega) (by first | assumption | omega)) [0, 1, 2, 3, 4] [] rfl rfl (by decide) (by decide) (by decide) 0 rfl k_Mo ml_Mo_112 w_Mo_firstAlike rfl ⟨by decide, by decide⟩ rfl (Nat.le_of_ble_eq_true rfl) ⟨by decide, by decide⟩ d_Mo_segment_88 (fun r u H locs hpost hP hD hS => ?_)
          obtain ⟨f9_88, rfl, rfl, hf1_88, hf2_88⟩ := hpost
          have hP : va_P D classes [(m0, .inr (8, [.int (nI 0), .int (nI T), .int (nI hd), .ref r1, .ref r2, .ref r3, .ref r4, .int (nI cm), .ref r5, .ref r6, .int (nI sg), .ref r7, .int (nI sn), .ref r8, .ref r9])), (r1, .inl (K 0, 520, .inl (nA rd))), (r3, .inl (K 0, 520, .inl ru)), (r4, .inl (K 0, 520, .inl rl)), (r5, .inl (K 0, 600, .inl (zA wh)))] H := hP
          have hD : va_D A [(m0, .inr (8, [.int (nI 0), .int (nI T), .int (nI hd), .ref r1, .ref r2, .ref r3, .ref r4, .int (nI cm), .ref r5, .ref r6, .int (nI sg), .ref r7, .int (nI sn), .ref r8, .ref r9])), (r1, .inl (K 0, 520, .inl (nA rd))), (r3, .inl (K 0, 520, .inl ru)), (r4, .inl (K 0, 520, .inl rl)), (r5, .inl (K 0, 600, .inl (zA wh)))] := hD
          refine lv_iload hx hb d_Mo_segment_91 (lv_at hl 4 rfl) ?_
          refine xc_ne (tgt := 99) (a := f9_88) (b := k) hx hb (by omega) (by omega) d_Mo_segment_93 (by decide) (fun c_93 => ?_) (fun c_93 => ?_)
          · exact jn_99 k (cnP (fun i9 => wh (rd i9) = ((q : Nat) : Int) ∧ ∀ k9, k9 < i9 → ¬ (ru k9 = ru i9 ∧ rl k9 = rl i9 ∧ wh (rd k9) = wh (rd i9))) k) (by first | assumption | omega) (by first | assumption | omega) (by exact (cnP_n (P := (fun i9 => wh (rd i9) = ((q : Nat) : Int) ∧ ∀ k9, k9 < i9 → ¬ (ru k9 = ru i9 ∧ rl k9 = rl i9 ∧ wh (rd k9) = wh (rd i9)))) (n := k) (fun w => c_93 (hf2_88.mpr w.2))).symm) _ _ hP hD hS _ (lv_sub hl [0, 1, 2, 3, 4] rfl)
          · refine lv_iinc (v := nI ((cnP (fun i9 => wh (rd i9) = ((q : Nat) : Int) ∧ ∀ k9, k9 < i9 → ¬ (ru k9 = ru i9 ∧ rl k9 = rl i9 ∧ wh (rd k9) = wh (rd i9))) k) + 1)) (lv' := [(3, .int (nI ((cnP (fun i9 => wh (rd i9) = ((q : Nat) : Int) ∧ ∀ k9, k9 < i9 → ¬ (ru k9 = ru i9 ∧ rl k9 = rl i9 ∧ wh (rd k9) = wh (rd i9))) k) + 1))), (0, .ref m0), (1, .int (nI q)), (2, .int (nI 2)), (4, .int (nI k))]) hx hb d_Mo_segment_96 hl (k := 3) rfl (inc_nI _ _) (by decide) rfl (fun ls hl => ?_)
            exact jn_99 k ((cnP (fun i9 => wh (rd i9) = ((q : Nat) : Int) ∧ ∀ k9, k9 < i9 → ¬ (ru k9 = ru i9 ∧ rl k9 = rl i9 ∧ wh (rd k9) = wh (rd i9))) k) + 1) (by first | assumption | omega) (by first | assumption | omega) (by exact (cnP_y (P := (fun i9 => wh (rd i9) = ((q : Nat) : Int) ∧ ∀ k9, k9 < i9 → ¬ (ru k9 = ru i9 ∧ rl k9 = rl i9 ∧ wh (rd k9) = wh (rd i9)))) (n := k) ⟨c_77, hf2_88.mp c_93⟩).symm) _ _ hP hD hS _ (lv_sub hl [1, 2, 3, 0, 4] rfl)
set_option maxHeartbeats 4000000 in
set_option maxRecDepth 100000 in
theorem c_Mo_segment_2 (l : Launch) (D : va_G) (K : Nat → ClassId) (m0 : Nat) (th : Nat) (T : Nat) (hd : Nat) (r1 : Nat) (r2 : Nat) (r3 : Nat) (r4 : Nat) (cm : Nat) (r5 : Nat) (r6 : Nat) (sg : Nat) (r7 : Nat) (sn : Nat) (r8 : Nat) (r9 : Nat) (rd : Nat → Nat) (ru : Nat → Int32) (rl : Nat → Int32) (wh : Nat → Int) (q : Nat) (hq : q < sg) (hsg : sg ≤ 63) (hcm : cm ≤ 600) (hw : ∀ d, d < cm → -2 ≤ wh d ∧ wh d ≤ 1000) (hhd : hd < 520) (hrd : ∀ i, i < hd → rd i < cm) : CI l y_Mo_segment b_Mo_segment 5 .int ({ frames := 1, cells := 0, slots := 0, locals := 22 } : Room) D K [.ref m0, .int (nI q), .int (nI 2)] [(m0, .inr (8, [.int (nI th), .int (nI T), .int (nI hd), .ref r1, .ref r2, .ref r3, .ref r4, .int (nI cm), .ref r5, .ref r6, .int (nI sg), .ref r7, .int (nI sn), .ref r8, .ref r9])), (r1, .inl (K 0, 520, .inl (nA rd))), (r3, .inl (K 0, 520, .inl ru)), (r4, .inl (K 0, 520, .inl rl)), (r5, .inl (K 0, 600, .inl (zA wh)))] (q_Mo_segment_2 K m0 th T hd r1 r2 r3 r4 cm r5 r6 sg r7 sn r8 r9 rd ru rl wh q) := by
  refine CI_of (by decide) (Nat.le_of_ble_eq_true rfl) ?_
  intro p e s m below meth c A b0 ls hF hA hP hD hl
  have hF2 := hF
  obtain ⟨hx, hb, hr, hml, hown, htw, hK, hlocks, hname⟩ := hF
  have hS : va_S A s.heap s.heap [] := va_S.rf
  have hl : lv_has ls 5 [(0, .ref m0), (1, .int (nI q)), (2, .int (nI 2))] := hl
  refine lv_aload_n hx hb d_Mo_segment_0 rfl (lv_at hl 0 rfl) ?_
  refine lv_iconst (v := nI 0) hx hb d_Mo_segment_1 (by decide) ?_
  refine xpt hx hb hown htw hK hP hD hS 0 0 rfl k_Mo (by decide) fl_Mo_38 rfl rfl rfl (Nat.le_of_ble_eq_true rfl) d_Mo_segment_2 (fun H locs hP hD hS => ?_)
  have hP : va_P D classes [(m0, .inr (8, [.int (nI 0), .int (nI T), .int (nI hd), .ref r1, .ref r2, .ref r3, .ref r4, .int (nI cm), .ref r5, .ref r6, .int (nI sg), .ref r7, .int (nI sn), .ref r8, .ref r9])), (r1, .inl (K 0, 520, .inl (nA rd))), (r3, .inl (K 0, 520, .inl ru)), (r4, .inl (K 0, 520, .inl rl)), (r5, .inl (K 0, 600, .inl (zA wh)))] H := hP
  have hD : va_D A [(m0, .inr (8, [.int (nI 0), .int (nI T), .int (nI hd), .ref r1, .ref r2, .ref r3, .ref r4, .int (nI cm), .ref r5, .ref r6, .int (nI sg), .ref r7, .int (nI sn), .ref r8, .ref r9])), (r1, .inl (K 0, 520, .inl (nA rd))), (r3, .inl (K 0, 520, .inl ru)), (r4, .inl (K 0, 520, .inl rl)), (r5, .inl (K 0, 600, .inl (zA wh)))] := hD
  refine lv_iload_n hx hb d_Mo_segment_5 rfl (lv_at hl 1 rfl) ?_
  refine xz_lt (a := q) hx hb (by omega) d_Mo_segment_6 26 (by decide) ?_
  refine lv_iload_n hx hb d_Mo_segment_9 rfl (lv_at hl 1 rfl) ?_
  refine lv_aload_n hx hb d_Mo_segment_10 rfl (lv_at hl 0 rfl) ?_
  refine xg hx hb hown htw hK hP 0 10 rfl k_Mo (by decide) fl_Mo_58 rfl d_Mo_segment_11 ?_
  refine xc_ge (tgt := 26) (a := q) (b := sg) hx hb (by omega) (by omega) d_Mo_segment_14 (by decide) (fun c_14 => ?_) (fun c_14 => ?_)
  · omega
  · refine lv_iload_n hx hb d_Mo_segment_17 rfl (lv_at hl 2 rfl) ?_
    refine xz_lt (a := 2) hx hb (by omega) d_Mo_segment_18 26 (by decide) ?_
    refine lv_iload_n hx hb d_Mo_segment_21 rfl (lv_at hl 2 rfl) ?_
    refine lv_iconst (v := nI 3) hx hb d_Mo_segment_22 (by decide) ?_
    refine xc_le (tgt := 28) (a := 2) (b := 3) hx hb (by omega) (by omega) d_Mo_segment_23 (by decide) (fun c_23 => ?_) (fun c_23 => ?_)
    · refine lv_iload_n hx hb d_Mo_segment_28 rfl (lv_at hl 2 rfl) ?_
      refine xz_ne (tgt := 39) (a := 2) hx hb (by omega) d_Mo_segment_29 (by decide) (fun c_29 => ?_) (fun c_29 => ?_)
      · refine lv_iload_n hx hb d_Mo_segment_39 rfl (lv_at hl 2 rfl) ?_
        refine lv_iconst (v := nI 1) hx hb d_Mo_segment_40 (by decide) ?_
        refine xc_ne (tgt := 50) (a := 2) (b := 1) hx hb (by omega) (by omega) d_Mo_segment_41 (by decide) (fun c_41 => ?_) (fun c_41 => ?_)
        · refine lv_iconst (v := nI 0) hx hb d_Mo_segment_50 (by decide) ?_
          refine lv_istore_n (lv' := [(3, .int (nI 0)), (0, .ref m0), (1, .int (nI q)), (2, .int (nI 2))]) hx hb d_Mo_segment_51 rfl hl (by decide) rfl (fun ls hl => ?_)
          rw [show nI 0 = nI (cnP (fun i9 => wh (rd i9) = ((q : Nat) : Int) ∧ ∀ k9, k9 < i9 → ¬ (ru k9 = ru i9 ∧ rl k9 = rl i9 ∧ wh (rd k9) = wh (rd i9))) 0) from rfl] at hl
          refine lv_iconst (v := nI 0) hx hb d_Mo_segment_52 (by decide) ?_
          refine lv_istore (lv' := [(4, .int (nI 0)), (3, .int (nI (cnP (fun i9 => wh (rd i9) = ((q : Nat) : Int) ∧ ∀ k9, k9 < i9 → ¬ (ru k9 = ru i9 ∧ rl k9 = rl i9 ∧ wh (rd k9) = wh (rd i9))) 0))), (0, .ref m0), (1, .int (nI q)), (2, .int (nI 2))]) hx hb d_Mo_segment_53 hl (by decide) rfl (fun ls hl => ?_)
          exact lp_Mo_segment_2_55 (l := l) m0 th T hd r1 r2 r3 r4 cm r5 r6 sg r7 sn r8 r9 rd ru rl wh q hq hsg hcm hw hhd hrd hF2 hA _ 0 (by first | assumption | omega) (Nat.lt_succ_self _) _ _ hP hD hS _ (lv_sub hl [2, 3, 4, 1, 0] rfl)
        · omega
      · omega
    · omega

abbrev q_Mo_segment_3 (K : Nat → ClassId) (m0 : Nat) (th : Nat) (T : Nat) (hd : Nat) (r1 : Nat) (r2 : Nat) (r3 : Nat) (r4 : Nat) (cm : Nat) (r5 : Nat) (r6 : Nat) (sg : Nat) (r7 : Nat) (sn : Nat) (r8 : Nat) (r9 : Nat) (rd : Nat → Nat) (ru : Nat → Int32) (rl : Nat → Int32) (wh : Nat → Int) (q : Nat) : Int32 → va_W → Prop := fun r u => u = [(m0, .inr (8, [.int (nI 0), .int (nI T), .int (nI hd), .ref r1, .ref r2, .ref r3, .ref r4, .int (nI cm), .ref r5, .ref r6, .int (nI sg), .ref r7, .int (nI sn), .ref r8, .ref r9])), (r1, .inl (K 0, 520, .inl (nA rd))), (r3, .inl (K 0, 520, .inl ru)), (r4, .inl (K 0, 520, .inl rl)), (r5, .inl (K 0, 600, .inl (zA wh)))] ∧ r = nI (cnP (fun i9 => wh (rd i9) = ((q : Nat) : Int)) hd)
set_option maxHeartbeats 4000000 in
set_option maxRecDepth 100000 in
theorem lp_Mo_segment_3_55 {p : Program} {l : Launch} {e : Env} {s : State} {m : MethodId} {below : List Frame} {meth : Method} {c : Code} {A : Nat → Prop} {D : va_G} {K : Nat → ClassId} (m0 : Nat) (th : Nat) (T : Nat) (hd : Nat) (r1 : Nat) (r2 : Nat) (r3 : Nat) (r4 : Nat) (cm : Nat) (r5 : Nat) (r6 : Nat) (sg : Nat) (r7 : Nat) (sn : Nat) (r8 : Nat) (r9 : Nat) (rd : Nat → Nat) (ru : Nat → Int32) (rl : Nat → Int32) (wh : Nat → Int) (q : Nat) (hq : q < sg) (hsg : sg ≤ 63) (hcm : cm ≤ 600) (hw : ∀ d, d < cm → -2 ≤ wh d ∧ wh d ≤ 1000) (hhd : hd < 520) (hrd : ∀ i, i < hd → rd i < cm) (hF : Fx p s m meth c y_Mo_segment b_Mo_segment 5 (some .int) D K) {b0 : Nat} (hA : AS K s A b0) : ∀ fuel : Nat, ∀ k : Nat, (k ≤ hd) → hd - k < fuel → ∀ (H : Heap) (locs : List Loc), va_P D classes [(m0, .inr (8, [.int (nI 0), .int (nI T), .int (nI hd), .ref r1, .ref r2, .ref r3, .ref r4, .int (nI cm), .ref r5, .ref r6, .int (nI sg), .ref r7, .int (nI sn), .ref r8, .ref r9])), (r1, .inl (K 0, 520, .inl (nA rd))), (r3, .inl (K 0, 520, .inl ru)), (r4, .inl (K 0, 520, .inl rl)), (r5, .inl (K 0, 600, .inl (zA wh)))] H → va_D A [(m0, .inr (8, [.int (nI 0), .int (nI T), .int (nI hd), .ref r1, .ref r2, .ref r3, .ref r4, .int (nI cm), .ref r5, .ref r6, .int (nI sg), .ref r7, .int (nI sn), .ref r8, .ref r9])), (r1, .inl (K 0, 520, .inl (nA rd))), (r3, .inl (K 0, 520, .inl ru)), (r4, .inl (K 0, 520, .inl rl)), (r5, .inl (K 0, 600, .inl (zA wh)))] → va_S A s.heap H locs → ∀ ls : Array Slot, lv_has ls 5 [(0, .ref m0), (1, .int (nI q)), (2, .int (nI 3)), (3, .int (nI (cnP (fun i9 => wh (rd i9) = ((q : Nat) : Int)) k))), (4, .int (nI k))] → W p l e ({ frames := 1, cells := 0, slots := 0, locals := 22 } : Room) s m ([.ref m0, .int (nI q), .int (nI 3)] : List Value).toArray below meth c H locs 0 0 (MQ below (va_Qi (q_Mo_segment_3 K m0 th T hd r1 r2 r3 r4 cm r5 r6 sg r7 sn r8 r9 rd ru rl wh q) (fun u t => va_P D classes u t.heap ∧ va_D A u) A) ([.ref m0, .int (nI q), .int (nI 3)] : List Value).toArray s 0 0 A) (F0 m 55 ls []) := by
  have hF2 := hF
  obtain ⟨hx, hb, hr, hml, hown, htw, hK, hlocks, hname⟩ := hF
  intro fuel
  induction fuel with
  | zero => intros; omega
  | succ fuel ih =>
    have jn_99 : ∀ k : Nat, ∀ cc2 : Nat, (k < hd) → (hd - k < fuel + 1) → (cc2 = cnP (fun i9 => wh (rd i9) = ((q : Nat) : Int)) (k + 1)) → ∀ (H : Heap) (locs : List Loc), va_P D classes [(m0, .inr (8, [.int (nI 0), .int (nI T), .int (nI hd), .ref r1, .ref r2, .ref r3, .ref r4, .int (nI cm), .ref r5, .ref r6, .int (nI sg), .ref r7, .int (nI sn), .ref r8, .ref r9])), (r1, .inl (K 0, 520, .inl (nA rd))), (r3, .inl (K 0, 520, .inl ru)), (r4, .inl (K 0, 520, .inl rl)), (r5, .inl (K 0, 600, .inl (zA wh)))] H → va_D A [(m0, .inr (8, [.int (nI 0), .int (nI T), .int (nI hd), .ref r1, .ref r2, .ref r3, .ref r4, .int (nI cm), .ref r5, .ref r6, .int (nI sg), .ref r7, .int (nI sn), .ref r8, .ref r9])), (r1, .inl (K 0, 520, .inl (nA rd))), (r3, .inl (K 0, 520, .inl ru)), (r4, .inl (K 0, 520, .inl rl)), (r5, .inl (K 0, 600, .inl (zA wh)))] → va_S A s.heap H locs → ∀ ls : Array Slot, lv_has ls 5 [(0, .ref m0), (1, .int (nI q)), (2, .int (nI 3)), (3, .int (nI cc2)), (4, .int (nI k))] → W p l e ({ frames := 1, cells := 0, slots := 0, locals := 22 } : Room) s m ([.ref m0, .int (nI q), .int (nI 3)] : List Value).toArray below meth c H locs 0 0 (MQ below (va_Qi (q_Mo_segment_3 K m0 th T hd r1 r2 r3 r4 cm r5 r6 sg r7 sn r8 r9 rd ru rl wh q) (fun u t => va_P D classes u t.heap ∧ va_D A u) A) ([.ref m0, .int (nI q), .int (nI 3)] : List Value).toArray s 0 0 A) (F0 m 99 ls []) := by
      intro k cc2 hk1 hfu hcc H locs hP hD hS ls hl
      subst hcc
      refine lv_iinc (v := nI (k + 1)) (lv' := [(4, .int (nI (k + 1))), (0, .ref m0), (1, .int (nI q)), (2, .int (nI 3)), (3, .int (nI (cnP (fun i9 => wh (rd i9) = ((q : Nat) : Int)) (k + 1))))]) hx hb d_Mo_segment_99 hl (k := 4) rfl (inc_nI _ _) (by decide) rfl (fun ls hl => ?_)
      refine lv_goto (tgt := 55) hx hb d_Mo_segment_102 (by decide) ?_
      exact ih (k + 1) (by first | assumption | omega) (by omega) _ _ hP hD hS _ (lv_sub hl [1, 2, 3, 4, 0] rfl)
    intro k hk1 hfu H locs hP hD hS ls hl
    refine lv_iload hx hb d_Mo_segment_55 (lv_at hl 4 rfl) ?_
    refine lv_aload_n hx hb d_Mo_segment_57 rfl (lv_at hl 0 rfl) ?_
    refine xg hx hb hown htw hK hP 0 2 rfl k_Mo (by decide) fl_Mo_42 rfl d_Mo_segment_58 ?_
    refine xc_ge (tgt := 105) (a := k) (b := hd) hx hb (by omega) (by omega) d_Mo_segment_61 (by decide) (fun c_61 => ?_) (fun c_61 => ?_)
    · have hk2 : hd = k := by omega
      subst hk2
      refine lv_iload_n hx hb d_Mo_segment_105 rfl (lv_at hl 3 rfl) ?_
      exact xr_iret hx hb hr hlocks hP hD hS (Nat.le_of_ble_eq_true rfl) (Nat.le_of_ble_eq_true rfl) (⟨rfl, rfl⟩) d_Mo_segment_106
    · refine lv_aload_n hx hb d_Mo_segment_64 rfl (lv_at hl 0 rfl) ?_
      refine xg hx hb hown htw hK hP 0 8 rfl k_Mo (by decide) fl_Mo_22 rfl d_Mo_segment_65 ?_
      refine lv_aload_n hx hb d_Mo_segment_68 rfl (lv_at hl 0 rfl) ?_
      refine xg hx hb hown htw hK hP 0 3 rfl k_Mo (by decide) fl_Mo_7 rfl d_Mo_segment_69 ?_
      refine lv_iload hx hb d_Mo_segment_72 (lv_at hl 4 rfl) ?_
      refine xald_i hx hb hK hP 1 rfl (by omega) (by omega) d_Mo_segment_74 ?_
      refine xi (y := nI (rd k)) rfl ?_
      refine xald_i hx hb hK hP 4 rfl (by have := hrd k (by omega); omega) (by omega) d_Mo_segment_75 ?_
      refine xi (y := zI (wh (rd k))) rfl ?_
      refine lv_iload_n hx hb d_Mo_segment_76 rfl (lv_at hl 1 rfl) ?_
      refine xcz_ne (tgt := 99) (a := wh (rd k)) (b := ((q : Nat) : Int)) hx hb (rfl) (nI_zI _) (by have := hw _ (hrd k (by omega)); omega) (by have := hw _ (hrd k (by omega)); omega) (by omega) (by omega) d_Mo_segment_77 (by decide) (fun c_77 => ?_) (fun c_77 => ?_)
      · exact jn_99 k (cnP (fun i9 => wh (rd i9) = ((q : Nat) : Int)) k) (by first | assumption | omega) (by first | assumption | omega) (by exact (cnP_n (P := (fun i9 => wh (rd i9) = ((q : Nat) : Int))) (n := k) c_77).symm) _ _ hP hD hS _ (lv_sub hl [0, 1, 2, 3, 4] rfl)
      · refine lv_iload_n hx hb d_Mo_segment_80 rfl (lv_at hl 2 rfl) ?_
        refine lv_iconst (v := nI 3) hx hb d_Mo_segment_81 (by decide) ?_
        refine xc_eq (tgt := 96) (a := 3) (b := 3) hx hb (by omega) (by omega) d_Mo_segment_82 (by decide) (fun c_82 => ?_) (fun c_82 => ?_)
        · refine lv_iinc (v := nI ((cnP (fun i9 => wh (rd i9) = ((q : Nat) : Int)) k) + 1)) (lv' := [(3, .int (nI ((cnP (fun i9 => wh (rd i9) = ((q : Nat) : Int)) k) + 1))), (0, .ref m0), (1, .int (nI q)), (2, .int (nI 3)), (4, .int (nI k))]) hx hb d_Mo_segment_96 hl (k := 3) rfl (inc_nI _ _) (by decide) rfl (fun ls hl => ?_)
          exact jn_99 k ((cnP (fun i9 => wh (rd i9) = ((q : Nat) : Int)) k) + 1) (by first | assumption | omega) (by first | assumption | omega) (by exact (cnP_y (P := (fun i9 => wh (rd i9) = ((q : Nat) : Int))) (n := k) c_77).symm) _ _ hP hD hS _ (lv_sub hl [1, 2, 3, 0, 4] rfl)
        · omega
set_option maxHeartbeats 4000000 in
set_option maxRecDepth 100000 in
theorem c_Mo_segment_3 (l : Launch) (D : va_G) (K : Nat → ClassId) (m0 : Nat) (th : Nat) (T : Nat) (hd : Nat) (r1 : Nat) (r2 : Nat) (r3 : Nat) (r4 : Nat) (cm : Nat) (r5 : Nat) (r6 : Nat) (sg : Nat) (r7 : Nat) (sn : Nat) (r8 : Nat) (r9 : Nat) (rd : Nat → Nat) (ru : Nat → Int32) (rl : Nat → Int32) (wh : Nat → Int) (q : Nat) (hq : q < sg) (hsg : sg ≤ 63) (hcm : cm ≤ 600) (hw : ∀ d, d < cm → -2 ≤ wh d ∧ wh d ≤ 1000) (hhd : hd < 520) (hrd : ∀ i, i < hd → rd i < cm) : CI l y_Mo_segment b_Mo_segment 5 .int ({ frames := 1, cells := 0, slots := 0, locals := 22 } : Room) D K [.ref m0, .int (nI q), .int (nI 3)] [(m0, .inr (8, [.int (nI th), .int (nI T), .int (nI hd), .ref r1, .ref r2, .ref r3, .ref r4, .int (nI cm), .ref r5, .ref r6, .int (nI sg), .ref r7, .int (nI sn), .ref r8, .ref r9])), (r1, .inl (K 0, 520, .inl (nA rd))), (r3, .inl (K 0, 520, .inl ru)), (r4, .inl (K 0, 520, .inl rl)), (r5, .inl (K 0, 600, .inl (zA wh)))] (q_Mo_segment_3 K m0 th T hd r1 r2 r3 r4 cm r5 r6 sg r7 sn r8 r9 rd ru rl wh q) := by
  refine CI_of (by decide) (Nat.le_of_ble_eq_true rfl) ?_
  intro p e s m below meth c A b0 ls hF hA hP hD hl
  have hF2 := hF
  obtain ⟨hx, hb, hr, hml, hown, htw, hK, hlocks, hname⟩ := hF
  have hS : va_S A s.heap s.heap [] := va_S.rf
  have hl : lv_has ls 5 [(0, .ref m0), (1, .int (nI q)), (2, .int (nI 3))] := hl
  refine lv_aload_n hx hb d_Mo_segment_0 rfl (lv_at hl 0 rfl) ?_
  refine lv_iconst (v := nI 0) hx hb d_Mo_segment_1 (by decide) ?_
  refine xpt hx hb hown htw hK hP hD hS 0 0 rfl k_Mo (by decide) fl_Mo_38 rfl rfl rfl (Nat.le_of_ble_eq_true rfl) d_Mo_segment_2 (fun H locs hP hD hS => ?_)
  have hP : va_P D classes [(m0, .inr (8, [.int (nI 0), .int (nI T), .int (nI hd), .ref r1, .ref r2, .ref r3, .ref r4, .int (nI cm), .ref r5, .ref r6, .int (nI sg), .ref r7, .int (nI sn), .ref r8, .ref r9])), (r1, .inl (K 0, 520, .inl (nA rd))), (r3, .inl (K 0, 520, .inl ru)), (r4, .inl (K 0, 520, .inl rl)), (r5, .inl (K 0, 600, .inl (zA wh)))] H := hP
  have hD : va_D A [(m0, .inr (8, [.int (nI 0), .int (nI T), .int (nI hd), .ref r1, .ref r2, .ref r3, .ref r4, .int (nI cm), .ref r5, .ref r6, .int (nI sg), .ref r7, .int (nI sn), .ref r8, .ref r9])), (r1, .inl (K 0, 520, .inl (nA rd))), (r3, .inl (K 0, 520, .inl ru)), (r4, .inl (K 0, 520, .inl rl)), (r5, .inl (K 0, 600, .inl (zA wh)))] := hD
  refine lv_iload_n hx hb d_Mo_segment_5 rfl (lv_at hl 1 rfl) ?_
  refine xz_lt (a := q) hx hb (by omega) d_Mo_segment_6 26 (by decide) ?_
  refine lv_iload_n hx hb d_Mo_segment_9 rfl (lv_at hl 1 rfl) ?_
  refine lv_aload_n hx hb d_Mo_segment_10 rfl (lv_at hl 0 rfl) ?_
  refine xg hx hb hown htw hK hP 0 10 rfl k_Mo (by decide) fl_Mo_58 rfl d_Mo_segment_11 ?_
  refine xc_ge (tgt := 26) (a := q) (b := sg) hx hb (by omega) (by omega) d_Mo_segment_14 (by decide) (fun c_14 => ?_) (fun c_14 => ?_)
  · omega
  · refine lv_iload_n hx hb d_Mo_segment_17 rfl (lv_at hl 2 rfl) ?_
    refine xz_lt (a := 3) hx hb (by omega) d_Mo_segment_18 26 (by decide) ?_
    refine lv_iload_n hx hb d_Mo_segment_21 rfl (lv_at hl 2 rfl) ?_
    refine lv_iconst (v := nI 3) hx hb d_Mo_segment_22 (by decide) ?_
    refine xc_le (tgt := 28) (a := 3) (b := 3) hx hb (by omega) (by omega) d_Mo_segment_23 (by decide) (fun c_23 => ?_) (fun c_23 => ?_)
    · refine lv_iload_n hx hb d_Mo_segment_28 rfl (lv_at hl 2 rfl) ?_
      refine xz_ne (tgt := 39) (a := 3) hx hb (by omega) d_Mo_segment_29 (by decide) (fun c_29 => ?_) (fun c_29 => ?_)
      · refine lv_iload_n hx hb d_Mo_segment_39 rfl (lv_at hl 2 rfl) ?_
        refine lv_iconst (v := nI 1) hx hb d_Mo_segment_40 (by decide) ?_
        refine xc_ne (tgt := 50) (a := 3) (b := 1) hx hb (by omega) (by omega) d_Mo_segment_41 (by decide) (fun c_41 => ?_) (fun c_41 => ?_)
        · refine lv_iconst (v := nI 0) hx hb d_Mo_segment_50 (by decide) ?_
          refine lv_istore_n (lv' := [(3, .int (nI 0)), (0, .ref m0), (1, .int (nI q)), (2, .int (nI 3))]) hx hb d_Mo_segment_51 rfl hl (by decide) rfl (fun ls hl => ?_)
          rw [show nI 0 = nI (cnP (fun i9 => wh (rd i9) = ((q : Nat) : Int)) 0) from rfl] at hl
          refine lv_iconst (v := nI 0) hx hb d_Mo_segment_52 (by decide) ?_
          refine lv_istore (lv' := [(4, .int (nI 0)), (3, .int (nI (cnP (fun i9 => wh (rd i9) = ((q : Nat) : Int)) 0))), (0, .ref m0), (1, .int (nI q)), (2, .int (nI 3))]) hx hb d_Mo_segment_53 hl (by decide) rfl (fun ls hl => ?_)
          exact lp_Mo_segment_3_55 (l := l) m0 th T hd r1 r2 r3 r4 cm r5 r6 sg r7 sn r8 r9 rd ru rl wh q hq hsg hcm hw hhd hrd hF2 hA _ 0 (by first | assumption | omega) (Nat.lt_succ_self _) _ _ hP hD hS _ (lv_sub hl [2, 3, 4, 1, 0] rfl)
        · omega
      · omega
    · omega

abbrev q_Mo_count_1 (K : Nat → ClassId) (m0 : Nat) (th : Nat) (T : Nat) (hd : Nat) (r1 : Nat) (r2 : Nat) (r3 : Nat) (r4 : Nat) (cm : Nat) (r5 : Nat) (r6 : Nat) (sg : Nat) (r7 : Nat) (sn : Nat) (r8 : Nat) (r9 : Nat) : Int32 → va_W → Prop := fun r u => u = [(m0, .inr (8, [.int (nI 0), .int (nI T), .int (nI hd), .ref r1, .ref r2, .ref r3, .ref r4, .int (nI cm), .ref r5, .ref r6, .int (nI sg), .ref r7, .int (nI sn), .ref r8, .ref r9]))] ∧ r = nI cm
set_option maxHeartbeats 4000000 in
set_option maxRecDepth 100000 in
theorem c_Mo_count_1 (l : Launch) (D : va_G) (K : Nat → ClassId) (m0 : Nat) (th : Nat) (T : Nat) (hd : Nat) (r1 : Nat) (r2 : Nat) (r3 : Nat) (r4 : Nat) (cm : Nat) (r5 : Nat) (r6 : Nat) (sg : Nat) (r7 : Nat) (sn : Nat) (r8 : Nat) (r9 : Nat)  : CI l y_Mo_count b_Mo_count 4 .int ({ frames := 0, cells := 0, slots := 0, locals := 0 } : Room) D K [.ref m0, .int (nI 1)] [(m0, .inr (8, [.int (nI th), .int (nI T), .int (nI hd), .ref r1, .ref r2, .ref r3, .ref r4, .int (nI cm), .ref r5, .ref r6, .int (nI sg), .ref r7, .int (nI sn), .ref r8, .ref r9]))] (q_Mo_count_1 K m0 th T hd r1 r2 r3 r4 cm r5 r6 sg r7 sn r8 r9) := by
  refine CI_of (by decide) (Nat.le_of_ble_eq_true rfl) ?_
  intro p e s m below meth c A b0 ls hF hA hP hD hl
  have hF2 := hF
  obtain ⟨hx, hb, hr, hml, hown, htw, hK, hlocks, hname⟩ := hF
  have hS : va_S A s.heap s.heap [] := va_S.rf
  have hl : lv_has ls 4 [(0, .ref m0), (1, .int (nI 1))] := hl
  refine lv_aload_n hx hb d_Mo_count_0 rfl (lv_at hl 0 rfl) ?_
  refine lv_iconst (v := nI 0) hx hb d_Mo_count_1 (by decide) ?_
  refine xpt hx hb hown htw hK hP hD hS 0 0 rfl k_Mo (by decide) fl_Mo_38 rfl rfl rfl (Nat.le_of_ble_eq_true rfl) d_Mo_count_2 (fun H locs hP hD hS => ?_)
  have hP : va_P D classes [(m0, .inr (8, [.int (nI 0), .int (nI T), .int (nI hd), .ref r1, .ref r2, .ref r3, .ref r4, .int (nI cm), .ref r5, .ref r6, .int (nI sg), .ref r7, .int (nI sn), .ref r8, .ref r9]))] H := hP
  have hD : va_D A [(m0, .inr (8, [.int (nI 0), .int (nI T), .int (nI hd), .ref r1, .ref r2, .ref r3, .ref r4, .int (nI cm), .ref r5, .ref r6, .int (nI sg), .ref r7, .int (nI sn), .ref r8, .ref r9]))] := hD
  refine lv_iload_n hx hb d_Mo_count_5 rfl (lv_at hl 1 rfl) ?_
  refine lv_iconst (v := nI 1) hx hb d_Mo_count_6 (by decide) ?_
  refine xc_ne (tgt := 15) (a := 1) (b := 1) hx hb (by omega) (by omega) d_Mo_count_7 (by decide) (fun c_7 => ?_) (fun c_7 => ?_)
  · omega
  · refine lv_aload_n hx hb d_Mo_count_10 rfl (lv_at hl 0 rfl) ?_
    refine xg hx hb hown htw hK hP 0 7 rfl k_Mo (by decide) fl_Mo_48 rfl d_Mo_count_11 ?_
    exact xr_iret hx hb hr hlocks hP hD hS (Nat.le_of_ble_eq_true rfl) (Nat.le_of_ble_eq_true rfl) (⟨rfl, rfl⟩) d_Mo_count_14

abbrev q_Mo_count_2 (K : Nat → ClassId) (m0 : Nat) (th : Nat) (T : Nat) (hd : Nat) (r1 : Nat) (r2 : Nat) (r3 : Nat) (r4 : Nat) (cm : Nat) (r5 : Nat) (r6 : Nat) (sg : Nat) (r7 : Nat) (sn : Nat) (r8 : Nat) (r9 : Nat) (wh : Nat → Int) : Int32 → va_W → Prop := fun r u => u = [(m0, .inr (8, [.int (nI 0), .int (nI T), .int (nI hd), .ref r1, .ref r2, .ref r3, .ref r4, .int (nI cm), .ref r5, .ref r6, .int (nI sg), .ref r7, .int (nI sn), .ref r8, .ref r9])), (r5, .inl (K 0, 600, .inl (zA wh)))] ∧ r = nI (cnz wh (-1) cm)
set_option maxHeartbeats 4000000 in
set_option maxRecDepth 100000 in
theorem c_Mo_count_2 (l : Launch) (D : va_G) (K : Nat → ClassId) (m0 : Nat) (th : Nat) (T : Nat) (hd : Nat) (r1 : Nat) (r2 : Nat) (r3 : Nat) (r4 : Nat) (cm : Nat) (r5 : Nat) (r6 : Nat) (sg : Nat) (r7 : Nat) (sn : Nat) (r8 : Nat) (r9 : Nat) (wh : Nat → Int) (hcm : cm ≤ 600) (hw : ∀ d, d < cm → -2 ≤ wh d ∧ wh d ≤ 1000) : CI l y_Mo_count b_Mo_count 4 .int ({ frames := 1, cells := 0, slots := 0, locals := 23 } : Room) D K [.ref m0, .int (nI 2)] [(m0, .inr (8, [.int (nI th), .int (nI T), .int (nI hd), .ref r1, .ref r2, .ref r3, .ref r4, .int (nI cm), .ref r5, .ref r6, .int (nI sg), .ref r7, .int (nI sn), .ref r8, .ref r9])), (r5, .inl (K 0, 600, .inl (zA wh)))] (q_Mo_count_2 K m0 th T hd r1 r2 r3 r4 cm r5 r6 sg r7 sn r8 r9 wh) := by
  refine CI_of (by decide) (Nat.le_of_ble_eq_true rfl) ?_
  intro p e s m below meth c A b0 ls hF hA hP hD hl
  have hF2 := hF
  obtain ⟨hx, hb, hr, hml, hown, htw, hK, hlocks, hname⟩ := hF
  have hS : va_S A s.heap s.heap [] := va_S.rf
  have hl : lv_has ls 4 [(0, .ref m0), (1, .int (nI 2))] := hl
  refine lv_aload_n hx hb d_Mo_count_0 rfl (lv_at hl 0 rfl) ?_
  refine lv_iconst (v := nI 0) hx hb d_Mo_count_1 (by decide) ?_
  refine xpt hx hb hown htw hK hP hD hS 0 0 rfl k_Mo (by decide) fl_Mo_38 rfl rfl rfl (Nat.le_of_ble_eq_true rfl) d_Mo_count_2 (fun H locs hP hD hS => ?_)
  have hP : va_P D classes [(m0, .inr (8, [.int (nI 0), .int (nI T), .int (nI hd), .ref r1, .ref r2, .ref r3, .ref r4, .int (nI cm), .ref r5, .ref r6, .int (nI sg), .ref r7, .int (nI sn), .ref r8, .ref r9])), (r5, .inl (K 0, 600, .inl (zA wh)))] H := hP
  have hD : va_D A [(m0, .inr (8, [.int (nI 0), .int (nI T), .int (nI hd), .ref r1, .ref r2, .ref r3, .ref r4, .int (nI cm), .ref r5, .ref r6, .int (nI sg), .ref r7, .int (nI sn), .ref r8, .ref r9])), (r5, .inl (K 0, 600, .inl (zA wh)))] := hD
  refine lv_iload_n hx hb d_Mo_count_5 rfl (lv_at hl 1 rfl) ?_
  refine lv_iconst (v := nI 1) hx hb d_Mo_count_6 (by decide) ?_
  refine xc_ne (tgt := 15) (a := 2) (b := 1) hx hb (by omega) (by omega) d_Mo_count_7 (by decide) (fun c_7 => ?_) (fun c_7 => ?_)
  · refine lv_iload_n hx hb d_Mo_count_15 rfl (lv_at hl 1 rfl) ?_
    refine lv_iconst (v := nI 2) hx hb d_Mo_count_16 (by decide) ?_
    refine xc_ne (tgt := 26) (a := 2) (b := 2) hx hb (by omega) (by omega) d_Mo_count_17 (by decide) (fun c_17 => ?_) (fun c_17 => ?_)
    · omega
    · refine lv_aload_n hx hb d_Mo_count_20 rfl (lv_at hl 0 rfl) ?_
      refine lv_iconst (v := zI (-1)) hx hb d_Mo_count_21 (by decide) ?_
      refine xcV_i (As := [.int (zI (-1))]) (rest := []) (wr := []) hx hb hml hown htw hK hA hl.1 hP hD hS (c_Mo_inside l D K m0 0 T hd r1 r2 r3 r4 cm r5 r6 sg r7 sn r8 r9 wh (-1) (by first | assumption | omega) (by first | assumption | omega) (by decide) (by decide)) [0, 1] [] rfl rfl (by decide) (by decide) (by decide) 0 rfl k_Mo ml_Mo_51 w_Mo_inside rfl ⟨by decide, by decide⟩ rfl (Nat.le_of_ble_eq_true rfl) ⟨by decide, by decide⟩ d_Mo_count_22 (fun r u H locs hpost hP hD hS => ?_)
      obtain ⟨rfl, rfl⟩ := hpost
      have hP : va_P D classes [(m0, .inr (8, [.int (nI 0), .int (nI T), .int (nI hd), .ref r1, .ref r2, .ref r3, .ref r4, .int (nI cm), .ref r5, .ref r6, .int (nI sg), .ref r7, .int (nI sn), .ref r8, .ref r9])), (r5, .inl (K 0, 600, .inl (zA wh)))] H := hP
      have hD : va_D A [(m0, .inr (8, [.int (nI 0), .int (nI T), .int (nI hd), .ref r1, .ref r2, .ref r3, .ref r4, .int (nI cm), .ref r5, .ref r6, .int (nI sg), .ref r7, .int (nI sn), .ref r8, .ref r9])), (r5, .inl (K 0, 600, .inl (zA wh)))] := hD
      exact xr_iret hx hb hr hlocks hP hD hS (Nat.le_of_ble_eq_true rfl) (Nat.le_of_ble_eq_true rfl) (⟨rfl, rfl⟩) d_Mo_count_25
  · omega

abbrev q_Mo_count_3 (K : Nat → ClassId) (m0 : Nat) (th : Nat) (T : Nat) (hd : Nat) (r1 : Nat) (r2 : Nat) (r3 : Nat) (r4 : Nat) (cm : Nat) (r5 : Nat) (r6 : Nat) (sg : Nat) (r7 : Nat) (sn : Nat) (r8 : Nat) (r9 : Nat) : Int32 → va_W → Prop := fun r u => u = [(m0, .inr (8, [.int (nI 0), .int (nI T), .int (nI hd), .ref r1, .ref r2, .ref r3, .ref r4, .int (nI cm), .ref r5, .ref r6, .int (nI sg), .ref r7, .int (nI sn), .ref r8, .ref r9]))] ∧ r = nI (T - hd)
set_option maxHeartbeats 4000000 in
set_option maxRecDepth 100000 in
theorem c_Mo_count_3 (l : Launch) (D : va_G) (K : Nat → ClassId) (m0 : Nat) (th : Nat) (T : Nat) (hd : Nat) (r1 : Nat) (r2 : Nat) (r3 : Nat) (r4 : Nat) (cm : Nat) (r5 : Nat) (r6 : Nat) (sg : Nat) (r7 : Nat) (sn : Nat) (r8 : Nat) (r9 : Nat) (hhd : hd ≤ T) : CI l y_Mo_count b_Mo_count 4 .int ({ frames := 0, cells := 0, slots := 0, locals := 0 } : Room) D K [.ref m0, .int (nI 3)] [(m0, .inr (8, [.int (nI th), .int (nI T), .int (nI hd), .ref r1, .ref r2, .ref r3, .ref r4, .int (nI cm), .ref r5, .ref r6, .int (nI sg), .ref r7, .int (nI sn), .ref r8, .ref r9]))] (q_Mo_count_3 K m0 th T hd r1 r2 r3 r4 cm r5 r6 sg r7 sn r8 r9) := by
  refine CI_of (by decide) (Nat.le_of_ble_eq_true rfl) ?_
  intro p e s m below meth c A b0 ls hF hA hP hD hl
  have hF2 := hF
  obtain ⟨hx, hb, hr, hml, hown, htw, hK, hlocks, hname⟩ := hF
  have hS : va_S A s.heap s.heap [] := va_S.rf
  have hl : lv_has ls 4 [(0, .ref m0), (1, .int (nI 3))] := hl
  refine lv_aload_n hx hb d_Mo_count_0 rfl (lv_at hl 0 rfl) ?_
  refine lv_iconst (v := nI 0) hx hb d_Mo_count_1 (by decide) ?_
  refine xpt hx hb hown htw hK hP hD hS 0 0 rfl k_Mo (by decide) fl_Mo_38 rfl rfl rfl (Nat.le_of_ble_eq_true rfl) d_Mo_count_2 (fun H locs hP hD hS => ?_)
  have hP : va_P D classes [(m0, .inr (8, [.int (nI 0), .int (nI T), .int (nI hd), .ref r1, .ref r2, .ref r3, .ref r4, .int (nI cm), .ref r5, .ref r6, .int (nI sg), .ref r7, .int (nI sn), .ref r8, .ref r9]))] H := hP
  have hD : va_D A [(m0, .inr (8, [.int (nI 0), .int (nI T), .int (nI hd), .ref r1, .ref r2, .ref r3, .ref r4, .int (nI cm), .ref r5, .ref r6, .int (nI sg), .ref r7, .int (nI sn), .ref r8, .ref r9]))] := hD
  refine lv_iload_n hx hb d_Mo_count_5 rfl (lv_at hl 1 rfl) ?_
  refine lv_iconst (v := nI 1) hx hb d_Mo_count_6 (by decide) ?_
  refine xc_ne (tgt := 15) (a := 3) (b := 1) hx hb (by omega) (by omega) d_Mo_count_7 (by decide) (fun c_7 => ?_) (fun c_7 => ?_)
  · refine lv_iload_n hx hb d_Mo_count_15 rfl (lv_at hl 1 rfl) ?_
    refine lv_iconst (v := nI 2) hx hb d_Mo_count_16 (by decide) ?_
    refine xc_ne (tgt := 26) (a := 3) (b := 2) hx hb (by omega) (by omega) d_Mo_count_17 (by decide) (fun c_17 => ?_) (fun c_17 => ?_)
    · refine lv_iload_n hx hb d_Mo_count_26 rfl (lv_at hl 1 rfl) ?_
      refine lv_iconst (v := nI 3) hx hb d_Mo_count_27 (by decide) ?_
      refine xc_ne (tgt := 41) (a := 3) (b := 3) hx hb (by omega) (by omega) d_Mo_count_28 (by decide) (fun c_28 => ?_) (fun c_28 => ?_)
      · omega
      · refine lv_aload_n hx hb d_Mo_count_31 rfl (lv_at hl 0 rfl) ?_
        refine xg hx hb hown htw hK hP 0 1 rfl k_Mo (by decide) fl_Mo_45 rfl d_Mo_count_32 ?_
        refine lv_aload_n hx hb d_Mo_count_35 rfl (lv_at hl 0 rfl) ?_
        refine xg hx hb hown htw hK hP 0 2 rfl k_Mo (by decide) fl_Mo_42 rfl d_Mo_count_36 ?_
        refine lv_isub hx hb d_Mo_count_39 ?_
        refine xi (nI_sub (a := T) (b := hd) (by omega)) ?_
        exact xr_iret hx hb hr hlocks hP hD hS (Nat.le_of_ble_eq_true rfl) (Nat.le_of_ble_eq_true rfl) (⟨rfl, rfl⟩) d_Mo_count_40
    · omega
  · omega

abbrev q_Mo_count_4 (K : Nat → ClassId) (m0 : Nat) (th : Nat) (T : Nat) (hd : Nat) (r1 : Nat) (r2 : Nat) (r3 : Nat) (r4 : Nat) (cm : Nat) (r5 : Nat) (r6 : Nat) (sg : Nat) (r7 : Nat) (sn : Nat) (r8 : Nat) (r9 : Nat) : Int32 → va_W → Prop := fun r u => u = [(m0, .inr (8, [.int (nI 0), .int (nI T), .int (nI hd), .ref r1, .ref r2, .ref r3, .ref r4, .int (nI cm), .ref r5, .ref r6, .int (nI sg), .ref r7, .int (nI sn), .ref r8, .ref r9]))] ∧ r = nI sg
set_option maxHeartbeats 4000000 in
set_option maxRecDepth 100000 in
theorem c_Mo_count_4 (l : Launch) (D : va_G) (K : Nat → ClassId) (m0 : Nat) (th : Nat) (T : Nat) (hd : Nat) (r1 : Nat) (r2 : Nat) (r3 : Nat) (r4 : Nat) (cm : Nat) (r5 : Nat) (r6 : Nat) (sg : Nat) (r7 : Nat) (sn : Nat) (r8 : Nat) (r9 : Nat)  : CI l y_Mo_count b_Mo_count 4 .int ({ frames := 0, cells := 0, slots := 0, locals := 0 } : Room) D K [.ref m0, .int (nI 4)] [(m0, .inr (8, [.int (nI th), .int (nI T), .int (nI hd), .ref r1, .ref r2, .ref r3, .ref r4, .int (nI cm), .ref r5, .ref r6, .int (nI sg), .ref r7, .int (nI sn), .ref r8, .ref r9]))] (q_Mo_count_4 K m0 th T hd r1 r2 r3 r4 cm r5 r6 sg r7 sn r8 r9) := by
  refine CI_of (by decide) (Nat.le_of_ble_eq_true rfl) ?_
  intro p e s m below meth c A b0 ls hF hA hP hD hl
  have hF2 := hF
  obtain ⟨hx, hb, hr, hml, hown, htw, hK, hlocks, hname⟩ := hF
  have hS : va_S A s.heap s.heap [] := va_S.rf
  have hl : lv_has ls 4 [(0, .ref m0), (1, .int (nI 4))] := hl
  refine lv_aload_n hx hb d_Mo_count_0 rfl (lv_at hl 0 rfl) ?_
  refine lv_iconst (v := nI 0) hx hb d_Mo_count_1 (by decide) ?_
  refine xpt hx hb hown htw hK hP hD hS 0 0 rfl k_Mo (by decide) fl_Mo_38 rfl rfl rfl (Nat.le_of_ble_eq_true rfl) d_Mo_count_2 (fun H locs hP hD hS => ?_)
  have hP : va_P D classes [(m0, .inr (8, [.int (nI 0), .int (nI T), .int (nI hd), .ref r1, .ref r2, .ref r3, .ref r4, .int (nI cm), .ref r5, .ref r6, .int (nI sg), .ref r7, .int (nI sn), .ref r8, .ref r9]))] H := hP
  have hD : va_D A [(m0, .inr (8, [.int (nI 0), .int (nI T), .int (nI hd), .ref r1, .ref r2, .ref r3, .ref r4, .int (nI cm), .ref r5, .ref r6, .int (nI sg), .ref r7, .int (nI sn), .ref r8, .ref r9]))] := hD
  refine lv_iload_n hx hb d_Mo_count_5 rfl (lv_at hl 1 rfl) ?_
  refine lv_iconst (v := nI 1) hx hb d_Mo_count_6 (by decide) ?_
  refine xc_ne (tgt := 15) (a := 4) (b := 1) hx hb (by omega) (by omega) d_Mo_count_7 (by decide) (fun c_7 => ?_) (fun c_7 => ?_)
  · refine lv_iload_n hx hb d_Mo_count_15 rfl (lv_at hl 1 rfl) ?_
    refine lv_iconst (v := nI 2) hx hb d_Mo_count_16 (by decide) ?_
    refine xc_ne (tgt := 26) (a := 4) (b := 2) hx hb (by omega) (by omega) d_Mo_count_17 (by decide) (fun c_17 => ?_) (fun c_17 => ?_)
    · refine lv_iload_n hx hb d_Mo_count_26 rfl (lv_at hl 1 rfl) ?_
      refine lv_iconst (v := nI 3) hx hb d_Mo_count_27 (by decide) ?_
      refine xc_ne (tgt := 41) (a := 4) (b := 3) hx hb (by omega) (by omega) d_Mo_count_28 (by decide) (fun c_28 => ?_) (fun c_28 => ?_)
      · refine lv_iload_n hx hb d_Mo_count_41 rfl (lv_at hl 1 rfl) ?_
        refine lv_iconst (v := nI 4) hx hb d_Mo_count_42 (by decide) ?_
        refine xc_ne (tgt := 51) (a := 4) (b := 4) hx hb (by omega) (by omega) d_Mo_count_43 (by decide) (fun c_43 => ?_) (fun c_43 => ?_)
        · omega
        · refine lv_aload_n hx hb d_Mo_count_46 rfl (lv_at hl 0 rfl) ?_
          refine xg hx hb hown htw hK hP 0 10 rfl k_Mo (by decide) fl_Mo_58 rfl d_Mo_count_47 ?_
          exact xr_iret hx hb hr hlocks hP hD hS (Nat.le_of_ble_eq_true rfl) (Nat.le_of_ble_eq_true rfl) (⟨rfl, rfl⟩) d_Mo_count_50
      · omega
    · omega
  · omega

abbrev q_Mo_count_5 (K : Nat → ClassId) (m0 : Nat) (th : Nat) (T : Nat) (hd : Nat) (r1 : Nat) (r2 : Nat) (r3 : Nat) (r4 : Nat) (cm : Nat) (r5 : Nat) (r6 : Nat) (sg : Nat) (r7 : Nat) (sn : Nat) (r8 : Nat) (r9 : Nat) : Int32 → va_W → Prop := fun r u => u = [(m0, .inr (8, [.int (nI 0), .int (nI T), .int (nI hd), .ref r1, .ref r2, .ref r3, .ref r4, .int (nI cm), .ref r5, .ref r6, .int (nI sg), .ref r7, .int (nI sn), .ref r8, .ref r9]))] ∧ r = nI sn
set_option maxHeartbeats 4000000 in
set_option maxRecDepth 100000 in
theorem c_Mo_count_5 (l : Launch) (D : va_G) (K : Nat → ClassId) (m0 : Nat) (th : Nat) (T : Nat) (hd : Nat) (r1 : Nat) (r2 : Nat) (r3 : Nat) (r4 : Nat) (cm : Nat) (r5 : Nat) (r6 : Nat) (sg : Nat) (r7 : Nat) (sn : Nat) (r8 : Nat) (r9 : Nat)  : CI l y_Mo_count b_Mo_count 4 .int ({ frames := 0, cells := 0, slots := 0, locals := 0 } : Room) D K [.ref m0, .int (nI 5)] [(m0, .inr (8, [.int (nI th), .int (nI T), .int (nI hd), .ref r1, .ref r2, .ref r3, .ref r4, .int (nI cm), .ref r5, .ref r6, .int (nI sg), .ref r7, .int (nI sn), .ref r8, .ref r9]))] (q_Mo_count_5 K m0 th T hd r1 r2 r3 r4 cm r5 r6 sg r7 sn r8 r9) := by
  refine CI_of (by decide) (Nat.le_of_ble_eq_true rfl) ?_
  intro p e s m below meth c A b0 ls hF hA hP hD hl
  have hF2 := hF
  obtain ⟨hx, hb, hr, hml, hown, htw, hK, hlocks, hname⟩ := hF
  have hS : va_S A s.heap s.heap [] := va_S.rf
  have hl : lv_has ls 4 [(0, .ref m0), (1, .int (nI 5))] := hl
  refine lv_aload_n hx hb d_Mo_count_0 rfl (lv_at hl 0 rfl) ?_
  refine lv_iconst (v := nI 0) hx hb d_Mo_count_1 (by decide) ?_
  refine xpt hx hb hown htw hK hP hD hS 0 0 rfl k_Mo (by decide) fl_Mo_38 rfl rfl rfl (Nat.le_of_ble_eq_true rfl) d_Mo_count_2 (fun H locs hP hD hS => ?_)
  have hP : va_P D classes [(m0, .inr (8, [.int (nI 0), .int (nI T), .int (nI hd), .ref r1, .ref r2, .ref r3, .ref r4, .int (nI cm), .ref r5, .ref r6, .int (nI sg), .ref r7, .int (nI sn), .ref r8, .ref r9]))] H := hP
  have hD : va_D A [(m0, .inr (8, [.int (nI 0), .int (nI T), .int (nI hd), .ref r1, .ref r2, .ref r3, .ref r4, .int (nI cm), .ref r5, .ref r6, .int (nI sg), .ref r7, .int (nI sn), .ref r8, .ref r9]))] := hD
  refine lv_iload_n hx hb d_Mo_count_5 rfl (lv_at hl 1 rfl) ?_
  refine lv_iconst (v := nI 1) hx hb d_Mo_count_6 (by decide) ?_
  refine xc_ne (tgt := 15) (a := 5) (b := 1) hx hb (by omega) (by omega) d_Mo_count_7 (by decide) (fun c_7 => ?_) (fun c_7 => ?_)
  · refine lv_iload_n hx hb d_Mo_count_15 rfl (lv_at hl 1 rfl) ?_
    refine lv_iconst (v := nI 2) hx hb d_Mo_count_16 (by decide) ?_
    refine xc_ne (tgt := 26) (a := 5) (b := 2) hx hb (by omega) (by omega) d_Mo_count_17 (by decide) (fun c_17 => ?_) (fun c_17 => ?_)
    · refine lv_iload_n hx hb d_Mo_count_26 rfl (lv_at hl 1 rfl) ?_
      refine lv_iconst (v := nI 3) hx hb d_Mo_count_27 (by decide) ?_
      refine xc_ne (tgt := 41) (a := 5) (b := 3) hx hb (by omega) (by omega) d_Mo_count_28 (by decide) (fun c_28 => ?_) (fun c_28 => ?_)
      · refine lv_iload_n hx hb d_Mo_count_41 rfl (lv_at hl 1 rfl) ?_
        refine lv_iconst (v := nI 4) hx hb d_Mo_count_42 (by decide) ?_
        refine xc_ne (tgt := 51) (a := 5) (b := 4) hx hb (by omega) (by omega) d_Mo_count_43 (by decide) (fun c_43 => ?_) (fun c_43 => ?_)
        · refine lv_iload_n hx hb d_Mo_count_51 rfl (lv_at hl 1 rfl) ?_
          refine lv_iconst (v := nI 5) hx hb d_Mo_count_52 (by decide) ?_
          refine xc_ne (tgt := 61) (a := 5) (b := 5) hx hb (by omega) (by omega) d_Mo_count_53 (by decide) (fun c_53 => ?_) (fun c_53 => ?_)
          · omega
          · refine lv_aload_n hx hb d_Mo_count_56 rfl (lv_at hl 0 rfl) ?_
            refine xg hx hb hown htw hK hP 0 12 rfl k_Mo (by decide) fl_Mo_73 rfl d_Mo_count_57 ?_
            exact xr_iret hx hb hr hlocks hP hD hS (Nat.le_of_ble_eq_true rfl) (Nat.le_of_ble_eq_true rfl) (⟨rfl, rfl⟩) d_Mo_count_60
        · omega
      · omega
    · omega
  · omega

abbrev q_Mo_count_6y (K : Nat → ClassId) (m0 : Nat) (th : Nat) (T : Nat) (hd : Nat) (r1 : Nat) (r2 : Nat) (r3 : Nat) (r4 : Nat) (cm : Nat) (r5 : Nat) (r6 : Nat) (sg : Nat) (r7 : Nat) (sn : Nat) (r8 : Nat) (r9 : Nat) (sz : Nat → Nat) : Int32 → va_W → Prop := fun r u => u = [(m0, .inr (8, [.int (nI 0), .int (nI T), .int (nI hd), .ref r1, .ref r2, .ref r3, .ref r4, .int (nI cm), .ref r5, .ref r6, .int (nI sg), .ref r7, .int (nI sn), .ref r8, .ref r9])), (r9, .inl (K 0, 9, .inl (nA sz)))] ∧ r = nI (sz (sn - 1))
set_option maxHeartbeats 4000000 in
set_option maxRecDepth 100000 in
theorem c_Mo_count_6y (l : Launch) (D : va_G) (K : Nat → ClassId) (m0 : Nat) (th : Nat) (T : Nat) (hd : Nat) (r1 : Nat) (r2 : Nat) (r3 : Nat) (r4 : Nat) (cm : Nat) (r5 : Nat) (r6 : Nat) (sg : Nat) (r7 : Nat) (sn : Nat) (r8 : Nat) (r9 : Nat) (sz : Nat → Nat) (hsn : 0 < sn) (hsn2 : sn ≤ 8) : CI l y_Mo_count b_Mo_count 4 .int ({ frames := 0, cells := 0, slots := 0, locals := 0 } : Room) D K [.ref m0, .int (nI 6)] [(m0, .inr (8, [.int (nI th), .int (nI T), .int (nI hd), .ref r1, .ref r2, .ref r3, .ref r4, .int (nI cm), .ref r5, .ref r6, .int (nI sg), .ref r7, .int (nI sn), .ref r8, .ref r9])), (r9, .inl (K 0, 9, .inl (nA sz)))] (q_Mo_count_6y K m0 th T hd r1 r2 r3 r4 cm r5 r6 sg r7 sn r8 r9 sz) := by
  refine CI_of (by decide) (Nat.le_of_ble_eq_true rfl) ?_
  intro p e s m below meth c A b0 ls hF hA hP hD hl
  have hF2 := hF
  obtain ⟨hx, hb, hr, hml, hown, htw, hK, hlocks, hname⟩ := hF
  have hS : va_S A s.heap s.heap [] := va_S.rf
  have hl : lv_has ls 4 [(0, .ref m0), (1, .int (nI 6))] := hl
  refine lv_aload_n hx hb d_Mo_count_0 rfl (lv_at hl 0 rfl) ?_
  refine lv_iconst (v := nI 0) hx hb d_Mo_count_1 (by decide) ?_
  refine xpt hx hb hown htw hK hP hD hS 0 0 rfl k_Mo (by decide) fl_Mo_38 rfl rfl rfl (Nat.le_of_ble_eq_true rfl) d_Mo_count_2 (fun H locs hP hD hS => ?_)
  have hP : va_P D classes [(m0, .inr (8, [.int (nI 0), .int (nI T), .int (nI hd), .ref r1, .ref r2, .ref r3, .ref r4, .int (nI cm), .ref r5, .ref r6, .int (nI sg), .ref r7, .int (nI sn), .ref r8, .ref r9])), (r9, .inl (K 0, 9, .inl (nA sz)))] H := hP
  have hD : va_D A [(m0, .inr (8, [.int (nI 0), .int (nI T), .int (nI hd), .ref r1, .ref r2, .ref r3, .ref r4, .int (nI cm), .ref r5, .ref r6, .int (nI sg), .ref r7, .int (nI sn), .ref r8, .ref r9])), (r9, .inl (K 0, 9, .inl (nA sz)))] := hD
  refine lv_iload_n hx hb d_Mo_count_5 rfl (lv_at hl 1 rfl) ?_
  refine lv_iconst (v := nI 1) hx hb d_Mo_count_6 (by decide) ?_
  refine xc_ne (tgt := 15) (a := 6) (b := 1) hx hb (by omega) (by omega) d_Mo_count_7 (by decide) (fun c_7 => ?_) (fun c_7 => ?_)
  · refine lv_iload_n hx hb d_Mo_count_15 rfl (lv_at hl 1 rfl) ?_
    refine lv_iconst (v := nI 2) hx hb d_Mo_count_16 (by decide) ?_
    refine xc_ne (tgt := 26) (a := 6) (b := 2) hx hb (by omega) (by omega) d_Mo_count_17 (by decide) (fun c_17 => ?_) (fun c_17 => ?_)
    · refine lv_iload_n hx hb d_Mo_count_26 rfl (lv_at hl 1 rfl) ?_
      refine lv_iconst (v := nI 3) hx hb d_Mo_count_27 (by decide) ?_
      refine xc_ne (tgt := 41) (a := 6) (b := 3) hx hb (by omega) (by omega) d_Mo_count_28 (by decide) (fun c_28 => ?_) (fun c_28 => ?_)
      · refine lv_iload_n hx hb d_Mo_count_41 rfl (lv_at hl 1 rfl) ?_
        refine lv_iconst (v := nI 4) hx hb d_Mo_count_42 (by decide) ?_
        refine xc_ne (tgt := 51) (a := 6) (b := 4) hx hb (by omega) (by omega) d_Mo_count_43 (by decide) (fun c_43 => ?_) (fun c_43 => ?_)
        · refine lv_iload_n hx hb d_Mo_count_51 rfl (lv_at hl 1 rfl) ?_
          refine lv_iconst (v := nI 5) hx hb d_Mo_count_52 (by decide) ?_
          refine xc_ne (tgt := 61) (a := 6) (b := 5) hx hb (by omega) (by omega) d_Mo_count_53 (by decide) (fun c_53 => ?_) (fun c_53 => ?_)
          · refine lv_iload_n hx hb d_Mo_count_61 rfl (lv_at hl 1 rfl) ?_
            refine lv_bipush (v := nI 6) hx hb d_Mo_count_62 (by decide) ?_
            refine xc_ne (tgt := 90) (a := 6) (b := 6) hx hb (by omega) (by omega) d_Mo_count_64 (by decide) (fun c_64 => ?_) (fun c_64 => ?_)
            · omega
            · refine lv_aload_n hx hb d_Mo_count_67 rfl (lv_at hl 0 rfl) ?_
              refine xg hx hb hown htw hK hP 0 12 rfl k_Mo (by decide) fl_Mo_73 rfl d_Mo_count_68 ?_
              refine xz_le (tgt := 88) (a := sn) hx hb (by omega) d_Mo_count_71 (by decide) (fun c_71 => ?_) (fun c_71 => ?_)
              · omega
              · refine lv_aload_n hx hb d_Mo_count_74 rfl (lv_at hl 0 rfl) ?_
                refine xg hx hb hown htw hK hP 0 14 rfl k_Mo (by decide) fl_Mo_35 rfl d_Mo_count_75 ?_
                refine lv_aload_n hx hb d_Mo_count_78 rfl (lv_at hl 0 rfl) ?_
                refine xg hx hb hown htw hK hP 0 12 rfl k_Mo (by decide) fl_Mo_73 rfl d_Mo_count_79 ?_
                refine lv_iconst (v := nI 1) hx hb d_Mo_count_82 (by decide) ?_
                refine lv_isub hx hb d_Mo_count_83 ?_
                refine xi (nI_sub (a := sn) (b := 1) (by omega)) ?_
                refine xald_i hx hb hK hP 1 rfl (by omega) (by omega) d_Mo_count_84 ?_
                refine xi (y := nI (sz (sn - 1))) rfl ?_
                refine lv_goto (tgt := 89) hx hb d_Mo_count_85 (by decide) ?_
                exact xr_iret hx hb hr hlocks hP hD hS (Nat.le_of_ble_eq_true rfl) (Nat.le_of_ble_eq_true rfl) (⟨rfl, rfl⟩) d_Mo_count_89
          · omega
        · omega
      · omega
    · omega
  · omega

abbrev q_Mo_count_6n (K : Nat → ClassId) (m0 : Nat) (th : Nat) (T : Nat) (hd : Nat) (r1 : Nat) (r2 : Nat) (r3 : Nat) (r4 : Nat) (cm : Nat) (r5 : Nat) (r6 : Nat) (sg : Nat) (r7 : Nat) (sn : Nat) (r8 : Nat) (r9 : Nat) : Int32 → va_W → Prop := fun r u => u = [(m0, .inr (8, [.int (nI 0), .int (nI T), .int (nI hd), .ref r1, .ref r2, .ref r3, .ref r4, .int (nI cm), .ref r5, .ref r6, .int (nI sg), .ref r7, .int (nI sn), .ref r8, .ref r9]))] ∧ r = nI 0
set_option maxHeartbeats 4000000 in
set_option maxRecDepth 100000 in
theorem c_Mo_count_6n (l : Launch) (D : va_G) (K : Nat → ClassId) (m0 : Nat) (th : Nat) (T : Nat) (hd : Nat) (r1 : Nat) (r2 : Nat) (r3 : Nat) (r4 : Nat) (cm : Nat) (r5 : Nat) (r6 : Nat) (sg : Nat) (r7 : Nat) (sn : Nat) (r8 : Nat) (r9 : Nat) (hsn : sn = 0) : CI l y_Mo_count b_Mo_count 4 .int ({ frames := 0, cells := 0, slots := 0, locals := 0 } : Room) D K [.ref m0, .int (nI 6)] [(m0, .inr (8, [.int (nI th), .int (nI T), .int (nI hd), .ref r1, .ref r2, .ref r3, .ref r4, .int (nI cm), .ref r5, .ref r6, .int (nI sg), .ref r7, .int (nI sn), .ref r8, .ref r9]))] (q_Mo_count_6n K m0 th T hd r1 r2 r3 r4 cm r5 r6 sg r7 sn r8 r9) := by
  refine CI_of (by decide) (Nat.le_of_ble_eq_true rfl) ?_
  intro p e s m below meth c A b0 ls hF hA hP hD hl
  have hF2 := hF
  obtain ⟨hx, hb, hr, hml, hown, htw, hK, hlocks, hname⟩ := hF
  have hS : va_S A s.heap s.heap [] := va_S.rf
  have hl : lv_has ls 4 [(0, .ref m0), (1, .int (nI 6))] := hl
  refine lv_aload_n hx hb d_Mo_count_0 rfl (lv_at hl 0 rfl) ?_
  refine lv_iconst (v := nI 0) hx hb d_Mo_count_1 (by decide) ?_
  refine xpt hx hb hown htw hK hP hD hS 0 0 rfl k_Mo (by decide) fl_Mo_38 rfl rfl rfl (Nat.le_of_ble_eq_true rfl) d_Mo_count_2 (fun H locs hP hD hS => ?_)
  have hP : va_P D classes [(m0, .inr (8, [.int (nI 0), .int (nI T), .int (nI hd), .ref r1, .ref r2, .ref r3, .ref r4, .int (nI cm), .ref r5, .ref r6, .int (nI sg), .ref r7, .int (nI sn), .ref r8, .ref r9]))] H := hP
  have hD : va_D A [(m0, .inr (8, [.int (nI 0), .int (nI T), .int (nI hd), .ref r1, .ref r2, .ref r3, .ref r4, .int (nI cm), .ref r5, .ref r6, .int (nI sg), .ref r7, .int (nI sn), .ref r8, .ref r9]))] := hD
  refine lv_iload_n hx hb d_Mo_count_5 rfl (lv_at hl 1 rfl) ?_
  refine lv_iconst (v := nI 1) hx hb d_Mo_count_6 (by decide) ?_
  refine xc_ne (tgt := 15) (a := 6) (b := 1) hx hb (by omega) (by omega) d_Mo_count_7 (by decide) (fun c_7 => ?_) (fun c_7 => ?_)
  · refine lv_iload_n hx hb d_Mo_count_15 rfl (lv_at hl 1 rfl) ?_
    refine lv_iconst (v := nI 2) hx hb d_Mo_count_16 (by decide) ?_
    refine xc_ne (tgt := 26) (a := 6) (b := 2) hx hb (by omega) (by omega) d_Mo_count_17 (by decide) (fun c_17 => ?_) (fun c_17 => ?_)
    · refine lv_iload_n hx hb d_Mo_count_26 rfl (lv_at hl 1 rfl) ?_
      refine lv_iconst (v := nI 3) hx hb d_Mo_count_27 (by decide) ?_
      refine xc_ne (tgt := 41) (a := 6) (b := 3) hx hb (by omega) (by omega) d_Mo_count_28 (by decide) (fun c_28 => ?_) (fun c_28 => ?_)
      · refine lv_iload_n hx hb d_Mo_count_41 rfl (lv_at hl 1 rfl) ?_
        refine lv_iconst (v := nI 4) hx hb d_Mo_count_42 (by decide) ?_
        refine xc_ne (tgt := 51) (a := 6) (b := 4) hx hb (by omega) (by omega) d_Mo_count_43 (by decide) (fun c_43 => ?_) (fun c_43 => ?_)
        · refine lv_iload_n hx hb d_Mo_count_51 rfl (lv_at hl 1 rfl) ?_
          refine lv_iconst (v := nI 5) hx hb d_Mo_count_52 (by decide) ?_
          refine xc_ne (tgt := 61) (a := 6) (b := 5) hx hb (by omega) (by omega) d_Mo_count_53 (by decide) (fun c_53 => ?_) (fun c_53 => ?_)
          · refine lv_iload_n hx hb d_Mo_count_61 rfl (lv_at hl 1 rfl) ?_
            refine lv_bipush (v := nI 6) hx hb d_Mo_count_62 (by decide) ?_
            refine xc_ne (tgt := 90) (a := 6) (b := 6) hx hb (by omega) (by omega) d_Mo_count_64 (by decide) (fun c_64 => ?_) (fun c_64 => ?_)
            · omega
            · refine lv_aload_n hx hb d_Mo_count_67 rfl (lv_at hl 0 rfl) ?_
              refine xg hx hb hown htw hK hP 0 12 rfl k_Mo (by decide) fl_Mo_73 rfl d_Mo_count_68 ?_
              refine xz_le (tgt := 88) (a := sn) hx hb (by omega) d_Mo_count_71 (by decide) (fun c_71 => ?_) (fun c_71 => ?_)
              · refine lv_iconst (v := nI 0) hx hb d_Mo_count_88 (by decide) ?_
                exact xr_iret hx hb hr hlocks hP hD hS (Nat.le_of_ble_eq_true rfl) (Nat.le_of_ble_eq_true rfl) (⟨rfl, rfl⟩) d_Mo_count_89
              · omega
          · omega
        · omega
      · omega
    · omega
  · omega

abbrev q_Mo_count_0 (K : Nat → ClassId) (m0 : Nat) (th : Nat) (T : Nat) (hd : Nat) (r1 : Nat) (r2 : Nat) (r3 : Nat) (r4 : Nat) (cm : Nat) (r5 : Nat) (r6 : Nat) (sg : Nat) (r7 : Nat) (sn : Nat) (r8 : Nat) (r9 : Nat) (wh : Nat → Int) (tkn : Nat → Nat) : Int32 → va_W → Prop := fun r u => u = [(m0, .inr (8, [.int (nI 0), .int (nI T), .int (nI hd), .ref r1, .ref r2, .ref r3, .ref r4, .int (nI cm), .ref r5, .ref r6, .int (nI sg), .ref r7, .int (nI sn), .ref r8, .ref r9])), (r5, .inl (K 0, 600, .inl (zA wh))), (r6, .inl (K 2, 600, .inl (nA tkn)))] ∧ r = nI (cnP (fun d9 => tkn d9 = 0) cm)
set_option maxHeartbeats 4000000 in
set_option maxRecDepth 100000 in
theorem lp_Mo_count_0_106 {p : Program} {l : Launch} {e : Env} {s : State} {m : MethodId} {below : List Frame} {meth : Method} {c : Code} {A : Nat → Prop} {D : va_G} {K : Nat → ClassId} (m0 : Nat) (th : Nat) (T : Nat) (hd : Nat) (r1 : Nat) (r2 : Nat) (r3 : Nat) (r4 : Nat) (cm : Nat) (r5 : Nat) (r6 : Nat) (sg : Nat) (r7 : Nat) (sn : Nat) (r8 : Nat) (r9 : Nat) (wh : Nat → Int) (tkn : Nat → Nat) (hcm : cm ≤ 600) (hw : ∀ d, d < cm → -2 ≤ wh d ∧ wh d ≤ 1000) (htk : ∀ d, d < cm → tkn d ≤ 1) (hF : Fx p s m meth c y_Mo_count b_Mo_count 4 (some .int) D K) {b0 : Nat} (hA : AS K s A b0) : ∀ fuel : Nat, ∀ d : Nat, (d ≤ cm) → cm - d < fuel → ∀ (H : Heap) (locs : List Loc), va_P D classes [(m0, .inr (8, [.int (nI 0), .int (nI T), .int (nI hd), .ref r1, .ref r2, .ref r3, .ref r4, .int (nI cm), .ref r5, .ref r6, .int (nI sg), .ref r7, .int (nI sn), .ref r8, .ref r9])), (r5, .inl (K 0, 600, .inl (zA wh))), (r6, .inl (K 2, 600, .inl (nA tkn)))] H → va_D A [(m0, .inr (8, [.int (nI 0), .int (nI T), .int (nI hd), .ref r1, .ref r2, .ref r3, .ref r4, .int (nI cm), .ref r5, .ref r6, .int (nI sg), .ref r7, .int (nI sn), .ref r8, .ref r9])), (r5, .inl (K 0, 600, .inl (zA wh))), (r6, .inl (K 2, 600, .inl (nA tkn)))] → va_S A s.heap H locs → ∀ ls : Array Slot, lv_has ls 4 [(0, .ref m0), (1, .int (nI 0)), (2, .int (nI (cnP (fun d9 => tkn d9 = 0) d))), (3, .int (nI d))] → W p l e ({ frames := 0, cells := 0, slots := 0, locals := 0 } : Room) s m ([.ref m0, .int (nI 0)] : List Value).toArray below meth c H locs 0 0 (MQ below (va_Qi (q_Mo_count_0 K m0 th T hd r1 r2 r3 r4 cm r5 r6 sg r7 sn r8 r9 wh tkn) (fun u t => va_P D classes u t.heap ∧ va_D A u) A) ([.ref m0, .int (nI 0)] : List Value).toArray s 0 0 A) (F0 m 106 ls []) := by
  have hF2 := hF
  obtain ⟨hx, hb, hr, hml, hown, htw, hK, hlocks, hname⟩ := hF
  intro fuel
  induction fuel with
  | zero => intros; omega
  | succ fuel ih =>
    have jn_153 : ∀ d : Nat, ∀ cc2 : Nat, (d < cm) → (cm - d < fuel + 1) → (cc2 = cnP (fun d9 => tkn d9 = 0) (d + 1)) → ∀ (H : Heap) (locs : List Loc), va_P D classes [(m0, .inr (8, [.int (nI 0), .int (nI T), .int (nI hd), .ref r1, .ref r2, .ref r3, .ref r4, .int (nI cm), .ref r5, .ref r6, .int (nI sg), .ref r7, .int (nI sn), .ref r8, .ref r9])), (r5, .inl (K 0, 600, .inl (zA wh))), (r6, .inl (K 2, 600, .inl (nA tkn)))] H → va_D A [(m0, .inr (8, [.int (nI 0), .int (nI T), .int (nI hd), .ref r1, .ref r2, .ref r3, .ref r4, .int (nI cm), .ref r5, .ref r6, .int (nI sg), .ref r7, .int (nI sn), .ref r8, .ref r9])), (r5, .inl (K 0, 600, .inl (zA wh))), (r6, .inl (K 2, 600, .inl (nA tkn)))] → va_S A s.heap H locs → ∀ ls : Array Slot, lv_has ls 4 [(0, .ref m0), (1, .int (nI 0)), (2, .int (nI cc2)), (3, .int (nI d))] → W p l e ({ frames := 0, cells := 0, slots := 0, locals := 0 } : Room) s m ([.ref m0, .int (nI 0)] : List Value).toArray below meth c H locs 0 0 (MQ below (va_Qi (q_Mo_count_0 K m0 th T hd r1 r2 r3 r4 cm r5 r6 sg r7 sn r8 r9 wh tkn) (fun u t => va_P D classes u t.heap ∧ va_D A u) A) ([.ref m0, .int (nI 0)] : List Value).toArray s 0 0 A) (F0 m 153 ls []) := by
      intro d cc2 hd1 hfu hcc H locs hP hD hS ls hl
      subst hcc
      refine lv_iinc (v := nI (d + 1)) (lv' := [(3, .int (nI (d + 1))), (0, .ref m0), (1, .int (nI 0)), (2, .int (nI (cnP (fun d9 => tkn d9 = 0) (d + 1))))]) hx hb d_Mo_count_153 hl (k := 3) rfl (inc_nI _ _) (by decide) rfl (fun ls hl => ?_)
      refine lv_goto (tgt := 106) hx hb d_Mo_count_156 (by decide) ?_
      exact ih (d + 1) (by first | assumption | omega) (by omega) _ _ hP hD hS _ (lv_sub hl [1, 2, 3, 0] rfl)
    intro d hd1 hfu H locs hP hD hS ls hl
    refine lv_iload_n hx hb d_Mo_count_106 rfl (lv_at hl 3 rfl) ?_
    refine lv_aload_n hx hb d_Mo_count_107 rfl (lv_at hl 0 rfl) ?_
    refine xg hx hb hown htw hK hP 0 7 rfl k_Mo (by decide) fl_Mo_48 rfl d_Mo_count_108 ?_
    refine xc_ge (tgt := 159) (a := d) (b := cm) hx hb (by omega) (by omega) d_Mo_count_111 (by decide) (fun c_111 => ?_) (fun c_111 => ?_)
    · have hk2 : cm = d := by omega
      subst hk2
      refine lv_iload_n hx hb d_Mo_count_159 rfl (lv_at hl 2 rfl) ?_
      exact xr_iret hx hb hr hlocks hP hD hS (Nat.le_of_ble_eq_true rfl) (Nat.le_of_ble_eq_true rfl) (⟨rfl, rfl⟩) d_Mo_count_160
    · refine lv_iload_n hx hb d_Mo_count_114 rfl (lv_at hl 1 rfl) ?_
      refine xz_ne (tgt := 130) (a := 0) hx hb (by omega) d_Mo_count_115 (by decide) (fun c_115 => ?_) (fun c_115 => ?_)
      · omega
      · refine lv_aload_n hx hb d_Mo_count_118 rfl (lv_at hl 0 rfl) ?_
        refine xg hx hb hown htw hK hP 0 9 rfl k_Mo (by decide) fl_Mo_25 rfl d_Mo_count_119 ?_
        refine lv_iload_n hx hb d_Mo_count_122 rfl (lv_at hl 3 rfl) ?_
        refine xald_z hx hb hK hP 2 rfl (by omega) (by omega) d_Mo_count_123 ?_
        refine xi (y := nI (tkn d)) rfl ?_
        refine xz_ne (tgt := 153) (a := tkn d) hx hb (by have := htk d (by omega); omega) d_Mo_count_124 (by decide) (fun c_124 => ?_) (fun c_124 => ?_)
        · exact jn_153 d (cnP (fun d9 => tkn d9 = 0) d) (by first | assumption | omega) (by first | assumption | omega) (by exact (cnP_n (P := (fun d9 => tkn d9 = 0)) (n := d) (show ¬ tkn d = 0 by omega)).symm) _ _ hP hD hS _ (lv_sub hl [0, 1, 2, 3] rfl)
        · refine lv_goto (tgt := 150) hx hb d_Mo_count_127 (by decide) ?_
          refine lv_iinc (v := nI ((cnP (fun d9 => tkn d9 = 0) d) + 1)) (lv' := [(2, .int (nI ((cnP (fun d9 => tkn d9 = 0) d) + 1))), (0, .ref m0), (1, .int (nI 0)), (3, .int (nI d))]) hx hb d_Mo_count_150 hl (k := 2) rfl (inc_nI _ _) (by decide) rfl (fun ls hl => ?_)
          exact jn_153 d ((cnP (fun d9 => tkn d9 = 0) d) + 1) (by first | assumption | omega) (by first | assumption | omega) (by exact (cnP_y (P := (fun d9 => tkn d9 = 0)) (n := d) c_124).symm) _ _ hP hD hS _ (lv_sub hl [1, 2, 0, 3] rfl)
set_option maxHeartbeats 4000000 in
set_option maxRecDepth 100000 in
theorem c_Mo_count_0 (l : Launch) (D : va_G) (K : Nat → ClassId) (m0 : Nat) (th : Nat) (T : Nat) (hd : Nat) (r1 : Nat) (r2 : Nat) (r3 : Nat) (r4 : Nat) (cm : Nat) (r5 : Nat) (r6 : Nat) (sg : Nat) (r7 : Nat) (sn : Nat) (r8 : Nat) (r9 : Nat) (wh : Nat → Int) (tkn : Nat → Nat) (hcm : cm ≤ 600) (hw : ∀ d, d < cm → -2 ≤ wh d ∧ wh d ≤ 1000) (htk : ∀ d, d < cm → tkn d ≤ 1) : CI l y_Mo_count b_Mo_count 4 .int ({ frames := 0, cells := 0, slots := 0, locals := 0 } : Room) D K [.ref m0, .int (nI 0)] [(m0, .inr (8, [.int (nI th), .int (nI T), .int (nI hd), .ref r1, .ref r2, .ref r3, .ref r4, .int (nI cm), .ref r5, .ref r6, .int (nI sg), .ref r7, .int (nI sn), .ref r8, .ref r9])), (r5, .inl (K 0, 600, .inl (zA wh))), (r6, .inl (K 2, 600, .inl (nA tkn)))] (q_Mo_count_0 K m0 th T hd r1 r2 r3 r4 cm r5 r6 sg r7 sn r8 r9 wh tkn) := by
  refine CI_of (by decide) (Nat.le_of_ble_eq_true rfl) ?_
  intro p e s m below meth c A b0 ls hF hA hP hD hl
  have hF2 := hF
  obtain ⟨hx, hb, hr, hml, hown, htw, hK, hlocks, hname⟩ := hF
  have hS : va_S A s.heap s.heap [] := va_S.rf
  have hl : lv_has ls 4 [(0, .ref m0), (1, .int (nI 0))] := hl
  refine lv_aload_n hx hb d_Mo_count_0 rfl (lv_at hl 0 rfl) ?_
  refine lv_iconst (v := nI 0) hx hb d_Mo_count_1 (by decide) ?_
  refine xpt hx hb hown htw hK hP hD hS 0 0 rfl k_Mo (by decide) fl_Mo_38 rfl rfl rfl (Nat.le_of_ble_eq_true rfl) d_Mo_count_2 (fun H locs hP hD hS => ?_)
  have hP : va_P D classes [(m0, .inr (8, [.int (nI 0), .int (nI T), .int (nI hd), .ref r1, .ref r2, .ref r3, .ref r4, .int (nI cm), .ref r5, .ref r6, .int (nI sg), .ref r7, .int (nI sn), .ref r8, .ref r9])), (r5, .inl (K 0, 600, .inl (zA wh))), (r6, .inl (K 2, 600, .inl (nA tkn)))] H := hP
  have hD : va_D A [(m0, .inr (8, [.int (nI 0), .int (nI T), .int (nI hd), .ref r1, .ref r2, .ref r3, .ref r4, .int (nI cm), .ref r5, .ref r6, .int (nI sg), .ref r7, .int (nI sn), .ref r8, .ref r9])), (r5, .inl (K 0, 600, .inl (zA wh))), (r6, .inl (K 2, 600, .inl (nA tkn)))] := hD
  refine lv_iload_n hx hb d_Mo_count_5 rfl (lv_at hl 1 rfl) ?_
  refine lv_iconst (v := nI 1) hx hb d_Mo_count_6 (by decide) ?_
  refine xc_ne (tgt := 15) (a := 0) (b := 1) hx hb (by omega) (by omega) d_Mo_count_7 (by decide) (fun c_7 => ?_) (fun c_7 => ?_)
  · refine lv_iload_n hx hb d_Mo_count_15 rfl (lv_at hl 1 rfl) ?_
    refine lv_iconst (v := nI 2) hx hb d_Mo_count_16 (by decide) ?_
    refine xc_ne (tgt := 26) (a := 0) (b := 2) hx hb (by omega) (by omega) d_Mo_count_17 (by decide) (fun c_17 => ?_) (fun c_17 => ?_)
    · refine lv_iload_n hx hb d_Mo_count_26 rfl (lv_at hl 1 rfl) ?_
      refine lv_iconst (v := nI 3) hx hb d_Mo_count_27 (by decide) ?_
      refine xc_ne (tgt := 41) (a := 0) (b := 3) hx hb (by omega) (by omega) d_Mo_count_28 (by decide) (fun c_28 => ?_) (fun c_28 => ?_)
      · refine lv_iload_n hx hb d_Mo_count_41 rfl (lv_at hl 1 rfl) ?_
        refine lv_iconst (v := nI 4) hx hb d_Mo_count_42 (by decide) ?_
        refine xc_ne (tgt := 51) (a := 0) (b := 4) hx hb (by omega) (by omega) d_Mo_count_43 (by decide) (fun c_43 => ?_) (fun c_43 => ?_)
        · refine lv_iload_n hx hb d_Mo_count_51 rfl (lv_at hl 1 rfl) ?_
          refine lv_iconst (v := nI 5) hx hb d_Mo_count_52 (by decide) ?_
          refine xc_ne (tgt := 61) (a := 0) (b := 5) hx hb (by omega) (by omega) d_Mo_count_53 (by decide) (fun c_53 => ?_) (fun c_53 => ?_)
          · refine lv_iload_n hx hb d_Mo_count_61 rfl (lv_at hl 1 rfl) ?_
            refine lv_bipush (v := nI 6) hx hb d_Mo_count_62 (by decide) ?_
            refine xc_ne (tgt := 90) (a := 0) (b := 6) hx hb (by omega) (by omega) d_Mo_count_64 (by decide) (fun c_64 => ?_) (fun c_64 => ?_)
            · refine lv_iload_n hx hb d_Mo_count_90 rfl (lv_at hl 1 rfl) ?_
              refine xz_eq (tgt := 102) (a := 0) hx hb (by omega) d_Mo_count_91 (by decide) (fun c_91 => ?_) (fun c_91 => ?_)
              · refine lv_iconst (v := nI 0) hx hb d_Mo_count_102 (by decide) ?_
                refine lv_istore_n (lv' := [(2, .int (nI 0)), (0, .ref m0), (1, .int (nI 0))]) hx hb d_Mo_count_103 rfl hl (by decide) rfl (fun ls hl => ?_)
                rw [show nI 0 = nI (cnP (fun d9 => tkn d9 = 0) 0) from rfl] at hl
                refine lv_iconst (v := nI 0) hx hb d_Mo_count_104 (by decide) ?_
                refine lv_istore_n (lv' := [(3, .int (nI 0)), (2, .int (nI (cnP (fun d9 => tkn d9 = 0) 0))), (0, .ref m0), (1, .int (nI 0))]) hx hb d_Mo_count_105 rfl hl (by decide) rfl (fun ls hl => ?_)
                exact lp_Mo_count_0_106 (l := l) m0 th T hd r1 r2 r3 r4 cm r5 r6 sg r7 sn r8 r9 wh tkn hcm hw htk hF2 hA _ 0 (by first | assumption | omega) (Nat.lt_succ_self _) _ _ hP hD hS _ (lv_sub hl [2, 3, 1, 0] rfl)
              · omega
            · omega
          · omega
        · omega
      · omega
    · omega
  · omega

abbrev q_Mo_count_7 (K : Nat → ClassId) (m0 : Nat) (th : Nat) (T : Nat) (hd : Nat) (r1 : Nat) (r2 : Nat) (r3 : Nat) (r4 : Nat) (cm : Nat) (r5 : Nat) (r6 : Nat) (sg : Nat) (r7 : Nat) (sn : Nat) (r8 : Nat) (r9 : Nat) (wh : Nat → Int) (tkn : Nat → Nat) : Int32 → va_W → Prop := fun r u => u = [(m0, .inr (8, [.int (nI 0), .int (nI T), .int (nI hd), .ref r1, .ref r2, .ref r3, .ref r4, .int (nI cm), .ref r5, .ref r6, .int (nI sg), .ref r7, .int (nI sn), .ref r8, .ref r9])), (r5, .inl (K 0, 600, .inl (zA wh))), (r6, .inl (K 2, 600, .inl (nA tkn)))] ∧ r = nI (cnP (fun d9 => tkn d9 = 1 ∧ ¬ wh d9 = -2) cm)
set_option maxHeartbeats 4000000 in
set_option maxRecDepth 100000 in
theorem lp_Mo_count_7_106 {p : Program} {l : Launch} {e : Env} {s : State} {m : MethodId} {below : List Frame} {meth : Method} {c : Code} {A : Nat → Prop} {D : va_G} {K : Nat → ClassId} (m0 : Nat) (th : Nat) (T : Nat) (hd : Nat) (r1 : Nat) (r2 : Nat) (r3 : Nat) (r4 : Nat) (cm : Nat) (r5 : Nat) (r6 : Nat) (sg : Nat) (r7 : Nat) (sn : Nat) (r8 : Nat) (r9 : Nat) (wh : Nat → Int) (tkn : Nat → Nat) (hcm : cm ≤ 600) (hw : ∀ d, d < cm → -2 ≤ wh d ∧ wh d ≤ 1000) (htk : ∀ d, d < cm → tkn d ≤ 1) (hF : Fx p s m meth c y_Mo_count b_Mo_count 4 (some .int) D K) {b0 : Nat} (hA : AS K s A b0) : ∀ fuel : Nat, ∀ d : Nat, (d ≤ cm) → cm - d < fuel → ∀ (H : Heap) (locs : List Loc), va_P D classes [(m0, .inr (8, [.int (nI 0), .int (nI T), .int (nI hd), .ref r1, .ref r2, .ref r3, .ref r4, .int (nI cm), .ref r5, .ref r6, .int (nI sg), .ref r7, .int (nI sn), .ref r8, .ref r9])), (r5, .inl (K 0, 600, .inl (zA wh))), (r6, .inl (K 2, 600, .inl (nA tkn)))] H → va_D A [(m0, .inr (8, [.int (nI 0), .int (nI T), .int (nI hd), .ref r1, .ref r2, .ref r3, .ref r4, .int (nI cm), .ref r5, .ref r6, .int (nI sg), .ref r7, .int (nI sn), .ref r8, .ref r9])), (r5, .inl (K 0, 600, .inl (zA wh))), (r6, .inl (K 2, 600, .inl (nA tkn)))] → va_S A s.heap H locs → ∀ ls : Array Slot, lv_has ls 4 [(0, .ref m0), (1, .int (nI 7)), (2, .int (nI (cnP (fun d9 => tkn d9 = 1 ∧ ¬ wh d9 = -2) d))), (3, .int (nI d))] → W p l e ({ frames := 0, cells := 0, slots := 0, locals := 0 } : Room) s m ([.ref m0, .int (nI 7)] : List Value).toArray below meth c H locs 0 0 (MQ below (va_Qi (q_Mo_count_7 K m0 th T hd r1 r2 r3 r4 cm r5 r6 sg r7 sn r8 r9 wh tkn) (fun u t => va_P D classes u t.heap ∧ va_D A u) A) ([.ref m0, .int (nI 7)] : List Value).toArray s 0 0 A) (F0 m 106 ls []) := by
  have hF2 := hF
  obtain ⟨hx, hb, hr, hml, hown, htw, hK, hlocks, hname⟩ := hF
  intro fuel
  induction fuel with
  | zero => intros; omega
  | succ fuel ih =>
    have jn_153 : ∀ d : Nat, ∀ cc2 : Nat, (d < cm) → (cm - d < fuel + 1) → (cc2 = cnP (fun d9 => tkn d9 = 1 ∧ ¬ wh d9 = -2) (d + 1)) → ∀ (H : Heap) (locs : List Loc), va_P D classes [(m0, .inr (8, [.int (nI 0), .int (nI T), .int (nI hd), .ref r1, .ref r2, .ref r3, .ref r4, .int (nI cm), .ref r5, .ref r6, .int (nI sg), .ref r7, .int (nI sn), .ref r8, .ref r9])), (r5, .inl (K 0, 600, .inl (zA wh))), (r6, .inl (K 2, 600, .inl (nA tkn)))] H → va_D A [(m0, .inr (8, [.int (nI 0), .int (nI T), .int (nI hd), .ref r1, .ref r2, .ref r3, .ref r4, .int (nI cm), .ref r5, .ref r6, .int (nI sg), .ref r7, .int (nI sn), .ref r8, .ref r9])), (r5, .inl (K 0, 600, .inl (zA wh))), (r6, .inl (K 2, 600, .inl (nA tkn)))] → va_S A s.heap H locs → ∀ ls : Array Slot, lv_has ls 4 [(0, .ref m0), (1, .int (nI 7)), (2, .int (nI cc2)), (3, .int (nI d))] → W p l e ({ frames := 0, cells := 0, slots := 0, locals := 0 } : Room) s m ([.ref m0, .int (nI 7)] : List Value).toArray below meth c H locs 0 0 (MQ below (va_Qi (q_Mo_count_7 K m0 th T hd r1 r2 r3 r4 cm r5 r6 sg r7 sn r8 r9 wh tkn) (fun u t => va_P D classes u t.heap ∧ va_D A u) A) ([.ref m0, .int (nI 7)] : List Value).toArray s 0 0 A) (F0 m 153 ls []) := by
      intro d cc2 hd1 hfu hcc H locs hP hD hS ls hl
      subst hcc
      refine lv_iinc (v := nI (d + 1)) (lv' := [(3, .int (nI (d + 1))), (0, .ref m0), (1, .int (nI 7)), (2, .int (nI (cnP (fun d9 => tkn d9 = 1 ∧ ¬ wh d9 = -2) (d + 1))))]) hx hb d_Mo_count_153 hl (k := 3) rfl (inc_nI _ _) (by decide) rfl (fun ls hl => ?_)
      refine lv_goto (tgt := 106) hx hb d_Mo_count_156 (by decide) ?_
      exact ih (d + 1) (by first | assumption | omega) (by omega) _ _ hP hD hS _ (lv_sub hl [1, 2, 3, 0] rfl)
    intro d hd1 hfu H locs hP hD hS ls hl
    refine lv_iload_n hx hb d_Mo_count_106 rfl (lv_at hl 3 rfl) ?_
    refine lv_aload_n hx hb d_Mo_count_107 rfl (lv_at hl 0 rfl) ?_
    refine xg hx hb hown htw hK hP 0 7 rfl k_Mo (by decide) fl_Mo_48 rfl d_Mo_count_108 ?_
    refine xc_ge (tgt := 159) (a := d) (b := cm) hx hb (by omega) (by omega) d_Mo_count_111 (by decide) (fun c_111 => ?_) (fun c_111 => ?_)
    · have hk2 : cm = d := by omega
      subst hk2
      refine lv_iload_n hx hb d_Mo_count_159 rfl (lv_at hl 2 rfl) ?_
      exact xr_iret hx hb hr hlocks hP hD hS (Nat.le_of_ble_eq_true rfl) (Nat.le_of_ble_eq_true rfl) (⟨rfl, rfl⟩) d_Mo_count_160
    · refine lv_iload_n hx hb d_Mo_count_114 rfl (lv_at hl 1 rfl) ?_
      refine xz_ne (tgt := 130) (a := 7) hx hb (by omega) d_Mo_count_115 (by decide) (fun c_115 => ?_) (fun c_115 => ?_)
      · refine lv_aload_n hx hb d_Mo_count_130 rfl (lv_at hl 0 rfl) ?_
        refine xg hx hb hown htw hK hP 0 9 rfl k_Mo (by decide) fl_Mo_25 rfl d_Mo_count_131 ?_
        refine lv_iload_n hx hb d_Mo_count_134 rfl (lv_at hl 3 rfl) ?_
        refine xald_z hx hb hK hP 2 rfl (by omega) (by omega) d_Mo_count_135 ?_
        refine xi (y := nI (tkn d)) rfl ?_
        refine xz_eq (tgt := 153) (a := tkn d) hx hb (by have := htk d (by omega); omega) d_Mo_count_136 (by decide) (fun c_136 => ?_) (fun c_136 => ?_)
        · exact jn_153 d (cnP (fun d9 => tkn d9 = 1 ∧ ¬ wh d9 = -2) d) (by first | assumption | omega) (by first | assumption | omega) (by exact (cnP_n (P := (fun d9 => tkn d9 = 1 ∧ ¬ wh d9 = -2)) (n := d) (fun w => by have := w.1; omega)).symm) _ _ hP hD hS _ (lv_sub hl [0, 1, 2, 3] rfl)
        · refine lv_aload_n hx hb d_Mo_count_139 rfl (lv_at hl 0 rfl) ?_
          refine xg hx hb hown htw hK hP 0 8 rfl k_Mo (by decide) fl_Mo_22 rfl d_Mo_count_140 ?_
          refine lv_iload_n hx hb d_Mo_count_143 rfl (lv_at hl 3 rfl) ?_
          refine xald_i hx hb hK hP 1 rfl (by omega) (by omega) d_Mo_count_144 ?_
          refine xi (y := zI (wh d)) rfl ?_
          refine lv_bipush (v := zI (-2)) hx hb d_Mo_count_145 (by decide) ?_
          refine xcz_eq (tgt := 153) (a := wh d) (b := (-2)) hx hb (rfl) (rfl) (by have := hw d (by omega); omega) (by have := hw d (by omega); omega) (by decide) (by decide) d_Mo_count_147 (by decide) (fun c_147 => ?_) (fun c_147 => ?_)
          · exact jn_153 d (cnP (fun d9 => tkn d9 = 1 ∧ ¬ wh d9 = -2) d) (by first | assumption | omega) (by first | assumption | omega) (by exact (cnP_n (P := (fun d9 => tkn d9 = 1 ∧ ¬ wh d9 = -2)) (n := d) (fun w => w.2 c_147)).symm) _ _ hP hD hS _ (lv_sub hl [0, 1, 2, 3] rfl)
          · refine lv_iinc (v := nI ((cnP (fun d9 => tkn d9 = 1 ∧ ¬ wh d9 = -2) d) + 1)) (lv' := [(2, .int (nI ((cnP (fun d9 => tkn d9 = 1 ∧ ¬ wh d9 = -2) d) + 1))), (0, .ref m0), (1, .int (nI 7)), (3, .int (nI d))]) hx hb d_Mo_count_150 hl (k := 2) rfl (inc_nI _ _) (by decide) rfl (fun ls hl => ?_)
            exact jn_153 d ((cnP (fun d9 => tkn d9 = 1 ∧ ¬ wh d9 = -2) d) + 1) (by first | assumption | omega) (by first | assumption | omega) (by exact (cnP_y (P := (fun d9 => tkn d9 = 1 ∧ ¬ wh d9 = -2)) (n := d) ⟨by have := htk d (by omega); omega, c_147⟩).symm) _ _ hP hD hS _ (lv_sub hl [1, 2, 0, 3] rfl)
      · omega
set_option maxHeartbeats 4000000 in
set_option maxRecDepth 100000 in
theorem c_Mo_count_7 (l : Launch) (D : va_G) (K : Nat → ClassId) (m0 : Nat) (th : Nat) (T : Nat) (hd : Nat) (r1 : Nat) (r2 : Nat) (r3 : Nat) (r4 : Nat) (cm : Nat) (r5 : Nat) (r6 : Nat) (sg : Nat) (r7 : Nat) (sn : Nat) (r8 : Nat) (r9 : Nat) (wh : Nat → Int) (tkn : Nat → Nat) (hcm : cm ≤ 600) (hw : ∀ d, d < cm → -2 ≤ wh d ∧ wh d ≤ 1000) (htk : ∀ d, d < cm → tkn d ≤ 1) : CI l y_Mo_count b_Mo_count 4 .int ({ frames := 0, cells := 0, slots := 0, locals := 0 } : Room) D K [.ref m0, .int (nI 7)] [(m0, .inr (8, [.int (nI th), .int (nI T), .int (nI hd), .ref r1, .ref r2, .ref r3, .ref r4, .int (nI cm), .ref r5, .ref r6, .int (nI sg), .ref r7, .int (nI sn), .ref r8, .ref r9])), (r5, .inl (K 0, 600, .inl (zA wh))), (r6, .inl (K 2, 600, .inl (nA tkn)))] (q_Mo_count_7 K m0 th T hd r1 r2 r3 r4 cm r5 r6 sg r7 sn r8 r9 wh tkn) := by
  refine CI_of (by decide) (Nat.le_of_ble_eq_true rfl) ?_
  intro p e s m below meth c A b0 ls hF hA hP hD hl
  have hF2 := hF
  obtain ⟨hx, hb, hr, hml, hown, htw, hK, hlocks, hname⟩ := hF
  have hS : va_S A s.heap s.heap [] := va_S.rf
  have hl : lv_has ls 4 [(0, .ref m0), (1, .int (nI 7))] := hl
  refine lv_aload_n hx hb d_Mo_count_0 rfl (lv_at hl 0 rfl) ?_
  refine lv_iconst (v := nI 0) hx hb d_Mo_count_1 (by decide) ?_
  refine xpt hx hb hown htw hK hP hD hS 0 0 rfl k_Mo (by decide) fl_Mo_38 rfl rfl rfl (Nat.le_of_ble_eq_true rfl) d_Mo_count_2 (fun H locs hP hD hS => ?_)
  have hP : va_P D classes [(m0, .inr (8, [.int (nI 0), .int (nI T), .int (nI hd), .ref r1, .ref r2, .ref r3, .ref r4, .int (nI cm), .ref r5, .ref r6, .int (nI sg), .ref r7, .int (nI sn), .ref r8, .ref r9])), (r5, .inl (K 0, 600, .inl (zA wh))), (r6, .inl (K 2, 600, .inl (nA tkn)))] H := hP
  have hD : va_D A [(m0, .inr (8, [.int (nI 0), .int (nI T), .int (nI hd), .ref r1, .ref r2, .ref r3, .ref r4, .int (nI cm), .ref r5, .ref r6, .int (nI sg), .ref r7, .int (nI sn), .ref r8, .ref r9])), (r5, .inl (K 0, 600, .inl (zA wh))), (r6, .inl (K 2, 600, .inl (nA tkn)))] := hD
  refine lv_iload_n hx hb d_Mo_count_5 rfl (lv_at hl 1 rfl) ?_
  refine lv_iconst (v := nI 1) hx hb d_Mo_count_6 (by decide) ?_
  refine xc_ne (tgt := 15) (a := 7) (b := 1) hx hb (by omega) (by omega) d_Mo_count_7 (by decide) (fun c_7 => ?_) (fun c_7 => ?_)
  · refine lv_iload_n hx hb d_Mo_count_15 rfl (lv_at hl 1 rfl) ?_
    refine lv_iconst (v := nI 2) hx hb d_Mo_count_16 (by decide) ?_
    refine xc_ne (tgt := 26) (a := 7) (b := 2) hx hb (by omega) (by omega) d_Mo_count_17 (by decide) (fun c_17 => ?_) (fun c_17 => ?_)
    · refine lv_iload_n hx hb d_Mo_count_26 rfl (lv_at hl 1 rfl) ?_
      refine lv_iconst (v := nI 3) hx hb d_Mo_count_27 (by decide) ?_
      refine xc_ne (tgt := 41) (a := 7) (b := 3) hx hb (by omega) (by omega) d_Mo_count_28 (by decide) (fun c_28 => ?_) (fun c_28 => ?_)
      · refine lv_iload_n hx hb d_Mo_count_41 rfl (lv_at hl 1 rfl) ?_
        refine lv_iconst (v := nI 4) hx hb d_Mo_count_42 (by decide) ?_
        refine xc_ne (tgt := 51) (a := 7) (b := 4) hx hb (by omega) (by omega) d_Mo_count_43 (by decide) (fun c_43 => ?_) (fun c_43 => ?_)
        · refine lv_iload_n hx hb d_Mo_count_51 rfl (lv_at hl 1 rfl) ?_
          refine lv_iconst (v := nI 5) hx hb d_Mo_count_52 (by decide) ?_
          refine xc_ne (tgt := 61) (a := 7) (b := 5) hx hb (by omega) (by omega) d_Mo_count_53 (by decide) (fun c_53 => ?_) (fun c_53 => ?_)
          · refine lv_iload_n hx hb d_Mo_count_61 rfl (lv_at hl 1 rfl) ?_
            refine lv_bipush (v := nI 6) hx hb d_Mo_count_62 (by decide) ?_
            refine xc_ne (tgt := 90) (a := 7) (b := 6) hx hb (by omega) (by omega) d_Mo_count_64 (by decide) (fun c_64 => ?_) (fun c_64 => ?_)
            · refine lv_iload_n hx hb d_Mo_count_90 rfl (lv_at hl 1 rfl) ?_
              refine xz_eq (tgt := 102) (a := 7) hx hb (by omega) d_Mo_count_91 (by decide) (fun c_91 => ?_) (fun c_91 => ?_)
              · omega
              · refine lv_iload_n hx hb d_Mo_count_94 rfl (lv_at hl 1 rfl) ?_
                refine lv_bipush (v := nI 7) hx hb d_Mo_count_95 (by decide) ?_
                refine xc_eq (tgt := 102) (a := 7) (b := 7) hx hb (by omega) (by omega) d_Mo_count_97 (by decide) (fun c_97 => ?_) (fun c_97 => ?_)
                · refine lv_iconst (v := nI 0) hx hb d_Mo_count_102 (by decide) ?_
                  refine lv_istore_n (lv' := [(2, .int (nI 0)), (0, .ref m0), (1, .int (nI 7))]) hx hb d_Mo_count_103 rfl hl (by decide) rfl (fun ls hl => ?_)
                  rw [show nI 0 = nI (cnP (fun d9 => tkn d9 = 1 ∧ ¬ wh d9 = -2) 0) from rfl] at hl
                  refine lv_iconst (v := nI 0) hx hb d_Mo_count_104 (by decide) ?_
                  refine lv_istore_n (lv' := [(3, .int (nI 0)), (2, .int (nI (cnP (fun d9 => tkn d9 = 1 ∧ ¬ wh d9 = -2) 0))), (0, .ref m0), (1, .int (nI 7))]) hx hb d_Mo_count_105 rfl hl (by decide) rfl (fun ls hl => ?_)
                  exact lp_Mo_count_7_106 (l := l) m0 th T hd r1 r2 r3 r4 cm r5 r6 sg r7 sn r8 r9 wh tkn hcm hw htk hF2 hA _ 0 (by first | assumption | omega) (Nat.lt_succ_self _) _ _ hP hD hS _ (lv_sub hl [2, 3, 1, 0] rfl)
                · omega
            · omega
          · omega
        · omega
      · omega
    · omega
  · omega

abbrev q_Mo_count_other (K : Nat → ClassId) (m0 : Nat) (th : Nat) (T : Nat) (hd : Nat) (r1 : Nat) (r2 : Nat) (r3 : Nat) (r4 : Nat) (cm : Nat) (r5 : Nat) (r6 : Nat) (sg : Nat) (r7 : Nat) (sn : Nat) (r8 : Nat) (r9 : Nat) (x : Int32) : Int32 → va_W → Prop := fun r u => u = [(m0, .inr (8, [.int (nI 0), .int (nI T), .int (nI hd), .ref r1, .ref r2, .ref r3, .ref r4, .int (nI cm), .ref r5, .ref r6, .int (nI sg), .ref r7, .int (nI sn), .ref r8, .ref r9]))] ∧ r = zI (-1)
set_option maxHeartbeats 4000000 in
set_option maxRecDepth 100000 in
theorem c_Mo_count_other (l : Launch) (D : va_G) (K : Nat → ClassId) (m0 : Nat) (th : Nat) (T : Nat) (hd : Nat) (r1 : Nat) (r2 : Nat) (r3 : Nat) (r4 : Nat) (cm : Nat) (r5 : Nat) (r6 : Nat) (sg : Nat) (r7 : Nat) (sn : Nat) (r8 : Nat) (r9 : Nat) (x : Int32) (h0 : ¬ x = nI 0) (h1 : ¬ x = nI 1) (h2 : ¬ x = nI 2) (h3 : ¬ x = nI 3) (h4 : ¬ x = nI 4) (h5 : ¬ x = nI 5) (h6 : ¬ x = nI 6) (h7 : ¬ x = nI 7) : CI l y_Mo_count b_Mo_count 4 .int ({ frames := 0, cells := 0, slots := 0, locals := 0 } : Room) D K [.ref m0, .int x] [(m0, .inr (8, [.int (nI th), .int (nI T), .int (nI hd), .ref r1, .ref r2, .ref r3, .ref r4, .int (nI cm), .ref r5, .ref r6, .int (nI sg), .ref r7, .int (nI sn), .ref r8, .ref r9]))] (q_Mo_count_other K m0 th T hd r1 r2 r3 r4 cm r5 r6 sg r7 sn r8 r9 x) := by
  refine CI_of (by decide) (Nat.le_of_ble_eq_true rfl) ?_
  intro p e s m below meth c A b0 ls hF hA hP hD hl
  have hF2 := hF
  obtain ⟨hx, hb, hr, hml, hown, htw, hK, hlocks, hname⟩ := hF
  have hS : va_S A s.heap s.heap [] := va_S.rf
  have hl : lv_has ls 4 [(0, .ref m0), (1, .int x)] := hl
  refine lv_aload_n hx hb d_Mo_count_0 rfl (lv_at hl 0 rfl) ?_
  refine lv_iconst (v := nI 0) hx hb d_Mo_count_1 (by decide) ?_
  refine xpt hx hb hown htw hK hP hD hS 0 0 rfl k_Mo (by decide) fl_Mo_38 rfl rfl rfl (Nat.le_of_ble_eq_true rfl) d_Mo_count_2 (fun H locs hP hD hS => ?_)
  have hP : va_P D classes [(m0, .inr (8, [.int (nI 0), .int (nI T), .int (nI hd), .ref r1, .ref r2, .ref r3, .ref r4, .int (nI cm), .ref r5, .ref r6, .int (nI sg), .ref r7, .int (nI sn), .ref r8, .ref r9]))] H := hP
  have hD : va_D A [(m0, .inr (8, [.int (nI 0), .int (nI T), .int (nI hd), .ref r1, .ref r2, .ref r3, .ref r4, .int (nI cm), .ref r5, .ref r6, .int (nI sg), .ref r7, .int (nI sn), .ref r8, .ref r9]))] := hD
  refine lv_iload_n hx hb d_Mo_count_5 rfl (lv_at hl 1 rfl) ?_
  refine lv_iconst (v := nI 1) hx hb d_Mo_count_6 (by decide) ?_
  refine lv_icmp_ne (tgt := 15) hx hb d_Mo_count_7 (by decide) (fun c_7 => ?_) (fun c_7 => ?_)
  · refine lv_iload_n hx hb d_Mo_count_15 rfl (lv_at hl 1 rfl) ?_
    refine lv_iconst (v := nI 2) hx hb d_Mo_count_16 (by decide) ?_
    refine lv_icmp_ne (tgt := 26) hx hb d_Mo_count_17 (by decide) (fun c_17 => ?_) (fun c_17 => ?_)
    · refine lv_iload_n hx hb d_Mo_count_26 rfl (lv_at hl 1 rfl) ?_
      refine lv_iconst (v := nI 3) hx hb d_Mo_count_27 (by decide) ?_
      refine lv_icmp_ne (tgt := 41) hx hb d_Mo_count_28 (by decide) (fun c_28 => ?_) (fun c_28 => ?_)
      · refine lv_iload_n hx hb d_Mo_count_41 rfl (lv_at hl 1 rfl) ?_
        refine lv_iconst (v := nI 4) hx hb d_Mo_count_42 (by decide) ?_
        refine lv_icmp_ne (tgt := 51) hx hb d_Mo_count_43 (by decide) (fun c_43 => ?_) (fun c_43 => ?_)
        · refine lv_iload_n hx hb d_Mo_count_51 rfl (lv_at hl 1 rfl) ?_
          refine lv_iconst (v := nI 5) hx hb d_Mo_count_52 (by decide) ?_
          refine lv_icmp_ne (tgt := 61) hx hb d_Mo_count_53 (by decide) (fun c_53 => ?_) (fun c_53 => ?_)
          · refine lv_iload_n hx hb d_Mo_count_61 rfl (lv_at hl 1 rfl) ?_
            refine lv_bipush (v := nI 6) hx hb d_Mo_count_62 (by decide) ?_
            refine lv_icmp_ne (tgt := 90) hx hb d_Mo_count_64 (by decide) (fun c_64 => ?_) (fun c_64 => ?_)
            · refine lv_iload_n hx hb d_Mo_count_90 rfl (lv_at hl 1 rfl) ?_
              refine lv_if_eq (tgt := 102) hx hb d_Mo_count_91 (by decide) (fun c_91 => ?_) (fun c_91 => ?_)
              · exact absurd c_91 h0
              · refine lv_iload_n hx hb d_Mo_count_94 rfl (lv_at hl 1 rfl) ?_
                refine lv_bipush (v := nI 7) hx hb d_Mo_count_95 (by decide) ?_
                refine lv_icmp_eq (tgt := 102) hx hb d_Mo_count_97 (by decide) (fun c_97 => ?_) (fun c_97 => ?_)
                · exact absurd c_97 h7
                · refine lv_iconst (v := zI (-1)) hx hb d_Mo_count_100 (by decide) ?_
                  exact xr_iret hx hb hr hlocks hP hD hS (Nat.le_of_ble_eq_true rfl) (Nat.le_of_ble_eq_true rfl) (⟨rfl, rfl⟩) d_Mo_count_101
            · exact absurd c_64 h6
          · exact absurd c_53 h5
        · exact absurd c_43 h4
      · exact absurd c_28 h3
    · exact absurd c_17 h2
  · exact absurd c_7 h1


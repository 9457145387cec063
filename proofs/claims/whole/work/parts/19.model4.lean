abbrev q_Mo_push (K : Nat → ClassId) (m0 : Nat) (th : Nat) (T : Nat) (hd : Nat) (r1 : Nat) (r2 : Nat) (r3 : Nat) (r4 : Nat) (cm : Nat) (r5 : Nat) (r6 : Nat) (sg : Nat) (r7 : Nat) (sn : Nat) (r8 : Nat) (r9 : Nat) (rd : Nat → Nat) (rs : Nat → Nat) (ru : Nat → Int32) (rl : Nat → Int32) (tkn : Nat → Nat) (rh : Nat → Nat) (sz : Nat → Nat) (fs : Int32) (a : Int32) (b : Int32) (n : Nat) : Int32 → va_W → Prop := fun r u => ∃ rh' : Nat → Nat, ∃ z' : Nat, u = [(m0, .inr (8, [.int (nI th), .int (nI T), .int (nI hd), .ref r1, .ref r2, .ref r3, .ref r4, .int (nI cm), .ref r5, .ref r6, .int (nI sg), .ref r7, .int (nI (sn + 1)), .ref r8, .ref r9])), (r1, .inl (K 0, 520, .inl (nA rd))), (r2, .inl (K 0, 520, .inl (nA rs))), (r3, .inl (K 0, 520, .inl ru)), (r4, .inl (K 0, 520, .inl rl)), (r6, .inl (K 2, 600, .inl (nA tkn))), (r8, .inl (K 0, 4680, .inl (nA rh'))), (r9, .inl (K 0, 9, .inl (nA (va_up sz sn z'))))] ∧ r = nI z' ∧ (rf_fill rh rh' sn z' (fun v => ∃ i9, i9 < hd ∧ (tkn (rd i9) = 0 ∧ rbit fs (rs i9) ∧ ∀ k9, k9 < n → byA (ru i9) (rl i9) k9 = byA a b k9) ∧ 16384 * rd i9 + rs i9 = v)) ∧ (z' ≤ hd)
set_option maxHeartbeats 4000000 in
set_option maxRecDepth 100000 in
theorem lp_Mo_push_13 {p : Program} {l : Launch} {e : Env} {s : State} {m : MethodId} {below : List Frame} {meth : Method} {c : Code} {A : Nat → Prop} {D : va_G} {K : Nat → ClassId} (m0 : Nat) (th : Nat) (T : Nat) (hd : Nat) (r1 : Nat) (r2 : Nat) (r3 : Nat) (r4 : Nat) (cm : Nat) (r5 : Nat) (r6 : Nat) (sg : Nat) (r7 : Nat) (sn : Nat) (r8 : Nat) (r9 : Nat) (rd : Nat → Nat) (rs : Nat → Nat) (ru : Nat → Int32) (rl : Nat → Int32) (tkn : Nat → Nat) (rh : Nat → Nat) (sz : Nat → Nat) (fs : Int32) (a : Int32) (b : Int32) (n : Nat) (hhd : hd < 520) (hrd : ∀ i, i < hd → rd i < 600 ∧ tkn (rd i) ≤ 1) (hrs : ∀ i, i < hd → rs i < 16384) (hsn : sn < 8) (hn8 : n ≤ 8) (hF : Fx p s m meth c y_Mo_push b_Mo_push 6 (some .int) D K) {b0 : Nat} (hA : AS K s A b0) : ∀ fuel : Nat, ∀ k : Nat, ∀ gg : Nat → Nat, ∀ zz : Nat, (k ≤ hd) → (rf_fill rh gg sn zz (fun v => ∃ i9, i9 < k ∧ (tkn (rd i9) = 0 ∧ rbit fs (rs i9) ∧ ∀ k9, k9 < n → byA (ru i9) (rl i9) k9 = byA a b k9) ∧ 16384 * rd i9 + rs i9 = v)) → (zz ≤ k) → hd - k < fuel → ∀ (H : Heap) (locs : List Loc), va_P D classes [(m0, .inr (8, [.int (nI th), .int (nI T), .int (nI hd), .ref r1, .ref r2, .ref r3, .ref r4, .int (nI cm), .ref r5, .ref r6, .int (nI sg), .ref r7, .int (nI sn), .ref r8, .ref r9])), (r1, .inl (K 0, 520, .inl (nA rd))), (r2, .inl (K 0, 520, .inl (nA rs))), (r3, .inl (K 0, 520, .inl ru)), (r4, .inl (K 0, 520, .inl rl)), (r6, .inl (K 2, 600, .inl (nA tkn))), (r8, .inl (K 0, 4680, .inl (nA gg))), (r9, .inl (K 0, 9, .inl (nA (va_up sz sn zz))))] H → va_D A [(m0, .inr (8, [.int (nI th), .int (nI T), .int (nI hd), .ref r1, .ref r2, .ref r3, .ref r4, .int (nI cm), .ref r5, .ref r6, .int (nI sg), .ref r7, .int (nI sn), .ref r8, .ref r9])), (r1, .inl (K 0, 520, .inl (nA rd))), (r2, .inl (K 0, 520, .inl (nA rs))), (r3, .inl (K 0, 520, .inl ru)), (r4, .inl (K 0, 520, .inl rl)), (r6, .inl (K 2, 600, .inl (nA tkn))), (r8, .inl (K 0, 4680, .inl (nA gg))), (r9, .inl (K 0, 9, .inl (nA (va_up sz sn zz))))] → va_S A s.heap H locs → ∀ ls : Array Slot, lv_has ls 6 [(0, .ref m0), (1, .int fs), (2, .int a), (3, .int b), (4, .int (nI n)), (5, .int (nI k))] → W p l e ({ frames := 2, cells := 0, slots := 0, locals := 47 } : Room) s m ([.ref m0, .int fs, .int a, .int b, .int (nI n)] : List Value).toArray below meth c H locs 0 0 (MQ below (va_Qi (q_Mo_push K m0 th T hd r1 r2 r3 r4 cm r5 r6 sg r7 sn r8 r9 rd rs ru rl tkn rh sz fs a b n) (fun u t => va_P D classes u t.heap ∧ va_D A u) A) ([.ref m0, .int fs, .int a, .int b, .int (nI n)] : List Value).toArray s 0 0 A) (F0 m 13 ls []) := by
  have hF2 := hF
  obtain ⟨hx, hb, hr, hml, hown, htw, hK, hlocks, hname⟩ := hF
  intro fuel
  induction fuel with
  | zero => intros; omega
  | succ fuel ih =>
    have jn_77 : ∀ k : Nat, ∀ gg : Nat → Nat, ∀ zz : Nat, (k < hd) → (rf_fill rh gg sn zz (fun v => ∃ i9, i9 < (k + 1) ∧ (tkn (rd i9) = 0 ∧ rbit fs (rs i9) ∧ ∀ k9, k9 < n → byA (ru i9) (rl i9) k9 = byA a b k9) ∧ 16384 * rd i9 + rs i9 = v)) → (zz ≤ k + 1) → (hd - k < fuel + 1) → ∀ (H : Heap) (locs : List Loc), va_P D classes [(m0, .inr (8, [.int (nI th), .int (nI T), .int (nI hd), .ref r1, .ref r2, .ref r3, .ref r4, .int (nI cm), .ref r5, .ref r6, .int (nI sg), .ref r7, .int (nI sn), .ref r8, .ref r9])), (r1, .inl (K 0, 520, .inl (nA rd))), (r2, .inl (K 0, 520, .inl (nA rs))), (r3, .inl (K 0, 520, .inl ru)), (r4, .inl (K 0, 520, .inl rl)), (r6, .inl (K 2, 600, .inl (nA tkn))), (r8, .inl (K 0, 4680, .inl (nA gg))), (r9, .inl (K 0, 9, .inl (nA (va_up sz sn zz))))] H → va_D A [(m0, .inr (8, [.int (nI th), .int (nI T), .int (nI hd), .ref r1, .ref r2, .ref r3, .ref r4, .int (nI cm), .ref r5, .ref r6, .int (nI sg), .ref r7, .int (nI sn), .ref r8, .ref r9])), (r1, .inl (K 0, 520, .inl (nA rd))), (r2, .inl (K 0, 520, .inl (nA rs))), (r3, .inl (K 0, 520, .inl ru)), (r4, .inl (K 0, 520, .inl rl)), (r6, .inl (K 2, 600, .inl (nA tkn))), (r8, .inl (K 0, 4680, .inl (nA gg))), (r9, .inl (K 0, 9, .inl (nA (va_up sz sn zz))))] → va_S A s.heap H locs → ∀ ls : Array Slot, lv_has ls 6 [(0, .ref m0), (1, .int fs), (2, .int a), (3, .int b), (4, .int (nI n)), (5, .int (nI k))] → W p l e ({ frames := 2, cells := 0, slots := 0, locals := 47 } : Room) s m ([.ref m0, .int fs, .int a, .int b, .int (nI n)] : List Value).toArray below meth c H locs 0 0 (MQ below (va_Qi (q_Mo_push K m0 th T hd r1 r2 r3 r4 cm r5 r6 sg r7 sn r8 r9 rd rs ru rl tkn rh sz fs a b n) (fun u t => va_P D classes u t.heap ∧ va_D A u) A) ([.ref m0, .int fs, .int a, .int b, .int (nI n)] : List Value).toArray s 0 0 A) (F0 m 77 ls []) := by
      intro k gg zz hk1 hfl hzk hfu H locs hP hD hS ls hl
      refine lv_iinc (v := nI (k + 1)) (lv' := [(5, .int (nI (k + 1))), (0, .ref m0), (1, .int fs), (2, .int a), (3, .int b), (4, .int (nI n))]) hx hb d_Mo_push_77 hl (k := 5) rfl (inc_nI _ _) (by decide) rfl (fun ls hl => ?_)
      refine lv_goto (tgt := 13) hx hb d_Mo_push_80 (by decide) ?_
      exact ih (k + 1) gg zz (by first | assumption | omega) (by first | assumption | omega) (by first | assumption | omega) (by omega) _ _ hP hD hS _ (lv_sub hl [1, 2, 3, 4, 5, 0] rfl)
    intro k gg zz hk1 hfl hzk hfu H locs hP hD hS ls hl
    refine lv_iload hx hb d_Mo_push_13 (lv_at hl 5 rfl) ?_
    refine lv_aload_n hx hb d_Mo_push_15 rfl (lv_at hl 0 rfl) ?_
    refine xg hx hb hown htw hK hP 0 2 rfl k_Mo (by decide) fl_Mo_42 rfl d_Mo_push_16 ?_
    refine xc_ge (tgt := 83) (a := k) (b := hd) hx hb (by omega) (by omega) d_Mo_push_19 (by decide) (fun c_19 => ?_) (fun c_19 => ?_)
    · have hk2 : hd = k := by omega
      subst hk2
      refine lv_aload_n hx hb d_Mo_push_83 rfl (lv_at hl 0 rfl) ?_
      refine lv_dup hx hb d_Mo_push_84 rfl ?_
      refine xg hx hb hown htw hK hP 0 12 rfl k_Mo (by decide) fl_Mo_73 rfl d_Mo_push_85 ?_
      refine lv_iconst (v := nI 1) hx hb d_Mo_push_88 (by decide) ?_
      refine lv_iadd hx hb d_Mo_push_89 ?_
      refine xi (nI_add sn 1) ?_
      refine xpt hx hb hown htw hK hP hD hS 0 12 rfl k_Mo (by decide) fl_Mo_73 rfl rfl rfl (Nat.le_of_ble_eq_true rfl) d_Mo_push_90 (fun H locs hP hD hS => ?_)
      have hP : va_P D classes [(m0, .inr (8, [.int (nI th), .int (nI T), .int (nI hd), .ref r1, .ref r2, .ref r3, .ref r4, .int (nI cm), .ref r5, .ref r6, .int (nI sg), .ref r7, .int (nI (sn + 1)), .ref r8, .ref r9])), (r1, .inl (K 0, 520, .inl (nA rd))), (r2, .inl (K 0, 520, .inl (nA rs))), (r3, .inl (K 0, 520, .inl ru)), (r4, .inl (K 0, 520, .inl rl)), (r6, .inl (K 2, 600, .inl (nA tkn))), (r8, .inl (K 0, 4680, .inl (nA gg))), (r9, .inl (K 0, 9, .inl (nA (va_up sz sn zz))))] H := hP
      have hD : va_D A [(m0, .inr (8, [.int (nI th), .int (nI T), .int (nI hd), .ref r1, .ref r2, .ref r3, .ref r4, .int (nI cm), .ref r5, .ref r6, .int (nI sg), .ref r7, .int (nI (sn + 1)), .ref r8, .ref r9])), (r1, .inl (K 0, 520, .inl (nA rd))), (r2, .inl (K 0, 520, .inl (nA rs))), (r3, .inl (K 0, 520, .inl ru)), (r4, .inl (K 0, 520, .inl rl)), (r6, .inl (K 2, 600, .inl (nA tkn))), (r8, .inl (K 0, 4680, .inl (nA gg))), (r9, .inl (K 0, 9, .inl (nA (va_up sz sn zz))))] := hD
      refine lv_aload_n hx hb d_Mo_push_93 rfl (lv_at hl 0 rfl) ?_
      refine xg hx hb hown htw hK hP 0 14 rfl k_Mo (by decide) fl_Mo_35 rfl d_Mo_push_94 ?_
      refine lv_aload_n hx hb d_Mo_push_97 rfl (lv_at hl 0 rfl) ?_
      refine xg hx hb hown htw hK hP 0 12 rfl k_Mo (by decide) fl_Mo_73 rfl d_Mo_push_98 ?_
      refine lv_iconst (v := nI 1) hx hb d_Mo_push_101 (by decide) ?_
      refine lv_isub hx hb d_Mo_push_102 ?_
      refine xi (nI_sub (a := sn + 1) (b := 1) (by omega)) ?_
      refine xald_i hx hb hK hP 7 rfl (by omega) (by omega) d_Mo_push_103 ?_
      refine xi (y := nI ((va_up sz sn zz) ((sn + 1) - 1))) rfl ?_
      refine xi (y := nI zz) (congrArg nI (by rw [show sn + 1 - 1 = sn by omega]; exact va_up_self _ _ _)) ?_
      exact xr_iret hx hb hr hlocks hP hD hS (Nat.le_of_ble_eq_true rfl) (Nat.le_of_ble_eq_true rfl) (⟨_, _, rfl, rfl, hfl, hzk⟩) d_Mo_push_104
    · refine lv_aload_n hx hb d_Mo_push_22 rfl (lv_at hl 0 rfl) ?_
      refine lv_iload hx hb d_Mo_push_23 (lv_at hl 5 rfl) ?_
      refine xcV_i (As := [.int (nI k)]) (rest := []) (wr := [(r2, .inl (K 0, 520, .inl (nA rs))), (r3, .inl (K 0, 520, .inl ru)), (r4, .inl (K 0, 520, .inl rl)), (r8, .inl (K 0, 4680, .inl (nA gg))), (r9, .inl (K 0, 9, .inl (nA (va_up sz sn zz))))]) hx hb hml hown htw hK hA hl.1 hP hD hS (c_Mo_found l D K m0 th T hd r1 r2 r3 r4 cm r5 r6 sg r7 sn r8 r9 rd tkn k (by first | assumption | omega) (by first | assumption | omega) (by exact fun w => hrd k w)) [0, 1, 5] [2, 3, 4, 6, 7] rfl rfl (by decide) (by decide) (by decide) 0 rfl k_Mo ml_Mo_76 w_Mo_found rfl ⟨by decide, by decide⟩ rfl (Nat.le_of_ble_eq_true rfl) ⟨by decide, by decide⟩ d_Mo_push_25 (fun r u H locs hpost hP hD hS => ?_)
      obtain ⟨rfl, rfl⟩ := hpost
      have hP : va_P D classes [(r2, .inl (K 0, 520, .inl (nA rs))), (r3, .inl (K 0, 520, .inl ru)), (r4, .inl (K 0, 520, .inl rl)), (r8, .inl (K 0, 4680, .inl (nA gg))), (r9, .inl (K 0, 9, .inl (nA (va_up sz sn zz)))), (m0, .inr (8, [.int (nI th), .int (nI T), .int (nI hd), .ref r1, .ref r2, .ref r3, .ref r4, .int (nI cm), .ref r5, .ref r6, .int (nI sg), .ref r7, .int (nI sn), .ref r8, .ref r9])), (r1, .inl (K 0, 520, .inl (nA rd))), (r6, .inl (K 2, 600, .inl (nA tkn)))] H := hP
      have hD : va_D A [(r2, .inl (K 0, 520, .inl (nA rs))), (r3, .inl (K 0, 520, .inl ru)), (r4, .inl (K 0, 520, .inl rl)), (r8, .inl (K 0, 4680, .inl (nA gg))), (r9, .inl (K 0, 9, .inl (nA (va_up sz sn zz)))), (m0, .inr (8, [.int (nI th), .int (nI T), .int (nI hd), .ref r1, .ref r2, .ref r3, .ref r4, .int (nI cm), .ref r5, .ref r6, .int (nI sg), .ref r7, .int (nI sn), .ref r8, .ref r9])), (r1, .inl (K 0, 520, .inl (nA rd))), (r6, .inl (K 2, 600, .inl (nA tkn)))] := hD
      refine xz_eq (tgt := 77) (a := bN (k < hd ∧ tkn (rd k) = 0)) hx hb (by exact bN_31 _) d_Mo_push_28 (by decide) (fun c_28 => ?_) (fun c_28 => ?_)
      · obtain ⟨hP9, hD9⟩ := xp (ws' := [(m0, .inr (8, [.int (nI th), .int (nI T), .int (nI hd), .ref r1, .ref r2, .ref r3, .ref r4, .int (nI cm), .ref r5, .ref r6, .int (nI sg), .ref r7, .int (nI sn), .ref r8, .ref r9])), (r1, .inl (K 0, 520, .inl (nA rd))), (r2, .inl (K 0, 520, .inl (nA rs))), (r3, .inl (K 0, 520, .inl ru)), (r4, .inl (K 0, 520, .inl rl)), (r6, .inl (K 2, 600, .inl (nA tkn))), (r8, .inl (K 0, 4680, .inl (nA gg))), (r9, .inl (K 0, 9, .inl (nA (va_up sz sn zz))))]) hP hD [5, 6, 0, 1, 2, 7, 3, 4] (by decide) rfl
        exact jn_77 k gg zz (by first | assumption | omega) (by exact rf_fill_congr hfl (sel_n (fun w => (bN_0.mp c_28) ⟨c_19, w.1⟩))) (by first | assumption | omega) (by first | assumption | omega) _ _ hP9 hD9 hS _ (lv_sub hl [0, 1, 2, 3, 4, 5] rfl)
      · refine lv_iload_n hx hb d_Mo_push_31 rfl (lv_at hl 1 rfl) ?_
        refine lv_aload_n hx hb d_Mo_push_32 rfl (lv_at hl 0 rfl) ?_
        refine xg hx hb hown htw hK hP 5 4 rfl k_Mo (by decide) fl_Mo_13 rfl d_Mo_push_33 ?_
        refine lv_iload hx hb d_Mo_push_36 (lv_at hl 5 rfl) ?_
        refine xald_i hx hb hK hP 0 rfl (by omega) (by omega) d_Mo_push_38 ?_
        refine xi (y := nI (rs k)) rfl ?_
        refine lv_sipush (v := nI 4096) hx hb d_Mo_push_39 (by decide) ?_
        refine lv_idiv hx hb d_Mo_push_42 (by decide) ?_
        refine xi (y := nI (rs k / 4096)) (pk_div (by have := hrs k (by omega); omega) (by decide) (by decide)) ?_
        refine lv_ishr hx hb d_Mo_push_43 ?_
        refine lv_iconst (v := nI 1) hx hb d_Mo_push_44 (by decide) ?_
        refine lv_iand hx hb d_Mo_push_45 ?_
        refine lv_iconst (v := nI 1) hx hb d_Mo_push_46 (by decide) ?_
        refine lv_icmp_ne (tgt := 77) hx hb d_Mo_push_47 (by decide) (fun c_47 => ?_) (fun c_47 => ?_)
        · obtain ⟨hP9, hD9⟩ := xp (ws' := [(m0, .inr (8, [.int (nI th), .int (nI T), .int (nI hd), .ref r1, .ref r2, .ref r3, .ref r4, .int (nI cm), .ref r5, .ref r6, .int (nI sg), .ref r7, .int (nI sn), .ref r8, .ref r9])), (r1, .inl (K 0, 520, .inl (nA rd))), (r2, .inl (K 0, 520, .inl (nA rs))), (r3, .inl (K 0, 520, .inl ru)), (r4, .inl (K 0, 520, .inl rl)), (r6, .inl (K 2, 600, .inl (nA tkn))), (r8, .inl (K 0, 4680, .inl (nA gg))), (r9, .inl (K 0, 9, .inl (nA (va_up sz sn zz))))]) hP hD [5, 6, 0, 1, 2, 7, 3, 4] (by decide) rfl
          exact jn_77 k gg zz (by first | assumption | omega) (by exact rf_fill_congr hfl (sel_n (fun w => c_47 w.2.1))) (by first | assumption | omega) (by first | assumption | omega) _ _ hP9 hD9 hS _ (lv_sub hl [0, 1, 2, 3, 4, 5] rfl)
        · refine lv_aload_n hx hb d_Mo_push_50 rfl (lv_at hl 0 rfl) ?_
          refine lv_iload hx hb d_Mo_push_51 (lv_at hl 5 rfl) ?_
          refine lv_iload_n hx hb d_Mo_push_53 rfl (lv_at hl 2 rfl) ?_
          refine lv_iload_n hx hb d_Mo_push_54 rfl (lv_at hl 3 rfl) ?_
          refine lv_iload hx hb d_Mo_push_55 (lv_at hl 4 rfl) ?_
          refine xcV_i (As := [.int (nI k), .int a, .int b, .int (nI n)]) (rest := []) (wr := [(r2, .inl (K 0, 520, .inl (nA rs))), (r8, .inl (K 0, 4680, .inl (nA gg))), (r9, .inl (K 0, 9, .inl (nA (va_up sz sn zz)))), (r1, .inl (K 0, 520, .inl (nA rd))), (r6, .inl (K 2, 600, .inl (nA tkn)))]) hx hb hml hown htw hK hA hl.1 hP hD hS (c_Mo_alike l D K m0 th T hd r1 r2 r3 r4 cm r5 r6 sg r7 sn r8 r9 ru rl k a b n (by first | assumption | omega) (by first | assumption | omega)) [5, 1, 2] [0, 3, 4, 6, 7] rfl rfl (by decide) (by decide) (by decide) 0 rfl k_Mo ml_Mo_80 w_Mo_alike rfl ⟨by decide, by decide⟩ rfl (Nat.le_of_ble_eq_true rfl) ⟨by decide, by decide⟩ d_Mo_push_57 (fun r u H locs hpost hP hD hS => ?_)
          obtain ⟨rfl, rfl⟩ := hpost
          have hP : va_P D classes [(r2, .inl (K 0, 520, .inl (nA rs))), (r8, .inl (K 0, 4680, .inl (nA gg))), (r9, .inl (K 0, 9, .inl (nA (va_up sz sn zz)))), (r1, .inl (K 0, 520, .inl (nA rd))), (r6, .inl (K 2, 600, .inl (nA tkn))), (m0, .inr (8, [.int (nI th), .int (nI T), .int (nI hd), .ref r1, .ref r2, .ref r3, .ref r4, .int (nI cm), .ref r5, .ref r6, .int (nI sg), .ref r7, .int (nI sn), .ref r8, .ref r9])), (r3, .inl (K 0, 520, .inl ru)), (r4, .inl (K 0, 520, .inl rl))] H := hP
          have hD : va_D A [(r2, .inl (K 0, 520, .inl (nA rs))), (r8, .inl (K 0, 4680, .inl (nA gg))), (r9, .inl (K 0, 9, .inl (nA (va_up sz sn zz)))), (r1, .inl (K 0, 520, .inl (nA rd))), (r6, .inl (K 2, 600, .inl (nA tkn))), (m0, .inr (8, [.int (nI th), .int (nI T), .int (nI hd), .ref r1, .ref r2, .ref r3, .ref r4, .int (nI cm), .ref r5, .ref r6, .int (nI sg), .ref r7, .int (nI sn), .ref r8, .ref r9])), (r3, .inl (K 0, 520, .inl ru)), (r4, .inl (K 0, 520, .inl rl))] := hD
          refine xz_eq (tgt := 77) (a := bN (∀ k_9, k_9 < n → byA (ru k) (rl k) k_9 = byA a b k_9)) hx hb (by exact bN_31 _) d_Mo_push_60 (by decide) (fun c_60 => ?_) (fun c_60 => ?_)
          · obtain ⟨hP9, hD9⟩ := xp (ws' := [(m0, .inr (8, [.int (nI th), .int (nI T), .int (nI hd), .ref r1, .ref r2, .ref r3, .ref r4, .int (nI cm), .ref r5, .ref r6, .int (nI sg), .ref r7, .int (nI sn), .ref r8, .ref r9])), (r1, .inl (K 0, 520, .inl (nA rd))), (r2, .inl (K 0, 520, .inl (nA rs))), (r3, .inl (K 0, 520, .inl ru)), (r4, .inl (K 0, 520, .inl rl)), (r6, .inl (K 2, 600, .inl (nA tkn))), (r8, .inl (K 0, 4680, .inl (nA gg))), (r9, .inl (K 0, 9, .inl (nA (va_up sz sn zz))))]) hP hD [5, 3, 0, 6, 7, 4, 1, 2] (by decide) rfl
            exact jn_77 k gg zz (by first | assumption | omega) (by exact rf_fill_congr hfl (sel_n (fun w => (bN_0.mp c_60) w.2.2))) (by first | assumption | omega) (by first | assumption | omega) _ _ hP9 hD9 hS _ (lv_sub hl [0, 1, 2, 3, 4, 5] rfl)
          · refine lv_aload_n hx hb d_Mo_push_63 rfl (lv_at hl 0 rfl) ?_
            refine lv_aload_n hx hb d_Mo_push_64 rfl (lv_at hl 0 rfl) ?_
            refine xg hx hb hown htw hK hP 5 12 rfl k_Mo (by decide) fl_Mo_73 rfl d_Mo_push_65 ?_
            refine lv_aload_n hx hb d_Mo_push_68 rfl (lv_at hl 0 rfl) ?_
            refine lv_iload hx hb d_Mo_push_69 (lv_at hl 5 rfl) ?_
            refine xcV_i (As := [.int (nI k)]) (rest := [.int (nI sn), .ref m0]) (wr := [(r8, .inl (K 0, 4680, .inl (nA gg))), (r9, .inl (K 0, 9, .inl (nA (va_up sz sn zz)))), (r6, .inl (K 2, 600, .inl (nA tkn))), (r3, .inl (K 0, 520, .inl ru)), (r4, .inl (K 0, 520, .inl rl))]) hx hb hml hown htw hK hA hl.1 hP hD hS (c_Mo_hitOf l D K m0 th T hd r1 r2 r3 r4 cm r5 r6 sg r7 sn r8 r9 rd rs k (by first | assumption | omega)) [5, 3, 0] [1, 2, 4, 6, 7] rfl rfl (by decide) (by decide) (by decide) 0 rfl k_Mo ml_Mo_84 w_Mo_hitOf rfl ⟨by decide, by decide⟩ rfl (Nat.le_of_ble_eq_true rfl) ⟨by decide, by decide⟩ d_Mo_push_71 (fun r u H locs hpost hP hD hS => ?_)
            obtain ⟨rfl, rfl⟩ := hpost
            have hP : va_P D classes [(r8, .inl (K 0, 4680, .inl (nA gg))), (r9, .inl (K 0, 9, .inl (nA (va_up sz sn zz)))), (r6, .inl (K 2, 600, .inl (nA tkn))), (r3, .inl (K 0, 520, .inl ru)), (r4, .inl (K 0, 520, .inl rl)), (m0, .inr (8, [.int (nI th), .int (nI T), .int (nI hd), .ref r1, .ref r2, .ref r3, .ref r4, .int (nI cm), .ref r5, .ref r6, .int (nI sg), .ref r7, .int (nI sn), .ref r8, .ref r9])), (r1, .inl (K 0, 520, .inl (nA rd))), (r2, .inl (K 0, 520, .inl (nA rs)))] H := hP
            have hD : va_D A [(r8, .inl (K 0, 4680, .inl (nA gg))), (r9, .inl (K 0, 9, .inl (nA (va_up sz sn zz)))), (r6, .inl (K 2, 600, .inl (nA tkn))), (r3, .inl (K 0, 520, .inl ru)), (r4, .inl (K 0, 520, .inl rl)), (m0, .inr (8, [.int (nI th), .int (nI T), .int (nI hd), .ref r1, .ref r2, .ref r3, .ref r4, .int (nI cm), .ref r5, .ref r6, .int (nI sg), .ref r7, .int (nI sn), .ref r8, .ref r9])), (r1, .inl (K 0, 520, .inl (nA rd))), (r2, .inl (K 0, 520, .inl (nA rs)))] := hD
            refine xcV_v (As := [.int (nI sn), .int (nI ((16384 * (rd k)) + (rs k)))]) (rest := []) (wr := [(r6, .inl (K 2, 600, .inl (nA tkn))), (r3, .inl (K 0, 520, .inl ru)), (r4, .inl (K 0, 520, .inl rl)), (r1, .inl (K 0, 520, .inl (nA rd))), (r2, .inl (K 0, 520, .inl (nA rs)))]) hx hb hml hown htw hK hA hl.1 hP hD hS (c_Mo_insert l D K m0 th T hd r1 r2 r3 r4 cm r5 r6 sg r7 sn r8 r9 gg (va_up sz sn zz) sn ((16384 * (rd k)) + (rs k)) (by omega) (by rw [va_up_self]; omega) (by rw [va_up_self]; exact hfl.1) (by exact fun i hi => by rw [va_up_self] at hi; exact sel_bd hfl.2.1 hrd hrs (by omega) ⟨i, hi, rfl⟩) (by have := hrd k (by omega); have := hrs k (by omega); omega)) [5, 0, 1] [2, 3, 4, 6, 7] rfl rfl (by decide) (by decide) (by decide) 0 rfl k_Mo ml_Mo_87 w_Mo_insert rfl ⟨by decide, by decide⟩ rfl (Nat.le_of_ble_eq_true rfl) ⟨by decide, by decide⟩ d_Mo_push_74 (fun u H locs hpost hP hD hS => ?_)
            obtain ⟨rh'_74, z'_74, rfl, hin2_74, hm2_74, ho2_74, hz2_74⟩ := hpost
            have hP : va_P D classes [(r6, .inl (K 2, 600, .inl (nA tkn))), (r3, .inl (K 0, 520, .inl ru)), (r4, .inl (K 0, 520, .inl rl)), (r1, .inl (K 0, 520, .inl (nA rd))), (r2, .inl (K 0, 520, .inl (nA rs))), (m0, .inr (8, [.int (nI th), .int (nI T), .int (nI hd), .ref r1, .ref r2, .ref r3, .ref r4, .int (nI cm), .ref r5, .ref r6, .int (nI sg), .ref r7, .int (nI sn), .ref r8, .ref r9])), (r8, .inl (K 0, 4680, .inl (nA rh'_74))), (r9, .inl (K 0, 9, .inl (nA (va_up (va_up sz sn zz) sn z'_74))))] H := hP
            have hD : va_D A [(r6, .inl (K 2, 600, .inl (nA tkn))), (r3, .inl (K 0, 520, .inl ru)), (r4, .inl (K 0, 520, .inl rl)), (r1, .inl (K 0, 520, .inl (nA rd))), (r2, .inl (K 0, 520, .inl (nA rs))), (m0, .inr (8, [.int (nI th), .int (nI T), .int (nI hd), .ref r1, .ref r2, .ref r3, .ref r4, .int (nI cm), .ref r5, .ref r6, .int (nI sg), .ref r7, .int (nI sn), .ref r8, .ref r9])), (r8, .inl (K 0, 4680, .inl (nA rh'_74))), (r9, .inl (K 0, 9, .inl (nA (va_up (va_up sz sn zz) sn z'_74))))] := hD
            have hP : va_P D classes [(r6, .inl (K 2, 600, .inl (nA tkn))), (r3, .inl (K 0, 520, .inl ru)), (r4, .inl (K 0, 520, .inl rl)), (r1, .inl (K 0, 520, .inl (nA rd))), (r2, .inl (K 0, 520, .inl (nA rs))), (m0, .inr (8, [.int (nI th), .int (nI T), .int (nI hd), .ref r1, .ref r2, .ref r3, .ref r4, .int (nI cm), .ref r5, .ref r6, .int (nI sg), .ref r7, .int (nI sn), .ref r8, .ref r9])), (r8, .inl (K 0, 4680, .inl (nA rh'_74))), (r9, .inl (K 0, 9, .inl (nA (va_up sz sn z'_74))))] H := by rw [← up_up sz sn zz]; exact hP
            have hD : va_D A [(r6, .inl (K 2, 600, .inl (nA tkn))), (r3, .inl (K 0, 520, .inl ru)), (r4, .inl (K 0, 520, .inl rl)), (r1, .inl (K 0, 520, .inl (nA rd))), (r2, .inl (K 0, 520, .inl (nA rs))), (m0, .inr (8, [.int (nI th), .int (nI T), .int (nI hd), .ref r1, .ref r2, .ref r3, .ref r4, .int (nI cm), .ref r5, .ref r6, .int (nI sg), .ref r7, .int (nI sn), .ref r8, .ref r9])), (r8, .inl (K 0, 4680, .inl (nA rh'_74))), (r9, .inl (K 0, 9, .inl (nA (va_up sz sn z'_74))))] := by rw [← up_up sz sn zz]; exact hD
            obtain ⟨hP9, hD9⟩ := xp (ws' := [(m0, .inr (8, [.int (nI th), .int (nI T), .int (nI hd), .ref r1, .ref r2, .ref r3, .ref r4, .int (nI cm), .ref r5, .ref r6, .int (nI sg), .ref r7, .int (nI sn), .ref r8, .ref r9])), (r1, .inl (K 0, 520, .inl (nA rd))), (r2, .inl (K 0, 520, .inl (nA rs))), (r3, .inl (K 0, 520, .inl ru)), (r4, .inl (K 0, 520, .inl rl)), (r6, .inl (K 2, 600, .inl (nA tkn))), (r8, .inl (K 0, 4680, .inl (nA rh'_74))), (r9, .inl (K 0, 9, .inl (nA (va_up sz sn z'_74))))]) hP hD [5, 3, 4, 1, 2, 0, 6, 7] (by decide) rfl
            exact jn_77 k rh'_74 z'_74 (by first | assumption | omega) (by exact rf_fill_put hfl hin2_74 (fun v => by rw [hm2_74, va_up_self]) ho2_74 (sel_y ⟨(bN_pos.mp c_28).2, c_47, bN_pos.mp c_60⟩)) (by rw [va_up_self] at hz2_74; omega) (by first | assumption | omega) _ _ hP9 hD9 hS _ (lv_sub hl [0, 1, 2, 3, 4, 5] rfl)
set_option maxHeartbeats 4000000 in
set_option maxRecDepth 100000 in
theorem c_Mo_push (l : Launch) (D : va_G) (K : Nat → ClassId) (m0 : Nat) (th : Nat) (T : Nat) (hd : Nat) (r1 : Nat) (r2 : Nat) (r3 : Nat) (r4 : Nat) (cm : Nat) (r5 : Nat) (r6 : Nat) (sg : Nat) (r7 : Nat) (sn : Nat) (r8 : Nat) (r9 : Nat) (rd : Nat → Nat) (rs : Nat → Nat) (ru : Nat → Int32) (rl : Nat → Int32) (tkn : Nat → Nat) (rh : Nat → Nat) (sz : Nat → Nat) (fs : Int32) (a : Int32) (b : Int32) (n : Nat) (hhd : hd < 520) (hrd : ∀ i, i < hd → rd i < 600 ∧ tkn (rd i) ≤ 1) (hrs : ∀ i, i < hd → rs i < 16384) (hsn : sn < 8) (hn8 : n ≤ 8) : CI l y_Mo_push b_Mo_push 6 .int ({ frames := 2, cells := 0, slots := 0, locals := 47 } : Room) D K [.ref m0, .int fs, .int a, .int b, .int (nI n)] [(m0, .inr (8, [.int (nI th), .int (nI T), .int (nI hd), .ref r1, .ref r2, .ref r3, .ref r4, .int (nI cm), .ref r5, .ref r6, .int (nI sg), .ref r7, .int (nI sn), .ref r8, .ref r9])), (r1, .inl (K 0, 520, .inl (nA rd))), (r2, .inl (K 0, 520, .inl (nA rs))), (r3, .inl (K 0, 520, .inl ru)), (r4, .inl (K 0, 520, .inl rl)), (r6, .inl (K 2, 600, .inl (nA tkn))), (r8, .inl (K 0, 4680, .inl (nA rh))), (r9, .inl (K 0, 9, .inl (nA sz)))] (q_Mo_push K m0 th T hd r1 r2 r3 r4 cm r5 r6 sg r7 sn r8 r9 rd rs ru rl tkn rh sz fs a b n) := by
  refine CI_of (by decide) (Nat.le_of_ble_eq_true rfl) ?_
  intro p e s m below meth c A b0 ls hF hA hP hD hl
  have hF2 := hF
  obtain ⟨hx, hb, hr, hml, hown, htw, hK, hlocks, hname⟩ := hF
  have hS : va_S A s.heap s.heap [] := va_S.rf
  have hl : lv_has ls 6 [(0, .ref m0), (1, .int fs), (2, .int a), (3, .int b), (4, .int (nI n))] := hl
  refine lv_aload_n hx hb d_Mo_push_0 rfl (lv_at hl 0 rfl) ?_
  refine xg hx hb hown htw hK hP 0 14 rfl k_Mo (by decide) fl_Mo_35 rfl d_Mo_push_1 ?_
  refine lv_aload_n hx hb d_Mo_push_4 rfl (lv_at hl 0 rfl) ?_
  refine xg hx hb hown htw hK hP 0 12 rfl k_Mo (by decide) fl_Mo_73 rfl d_Mo_push_5 ?_
  refine lv_iconst (v := nI 0) hx hb d_Mo_push_8 (by decide) ?_
  refine xast_i hx hb hK hP hD hS 7 rfl (by omega) (by omega) d_Mo_push_9 (fun H locs hP hD hS => ?_)
  rw [upd_nA] at hP hD
  have hP : va_P D classes [(m0, .inr (8, [.int (nI th), .int (nI T), .int (nI hd), .ref r1, .ref r2, .ref r3, .ref r4, .int (nI cm), .ref r5, .ref r6, .int (nI sg), .ref r7, .int (nI sn), .ref r8, .ref r9])), (r1, .inl (K 0, 520, .inl (nA rd))), (r2, .inl (K 0, 520, .inl (nA rs))), (r3, .inl (K 0, 520, .inl ru)), (r4, .inl (K 0, 520, .inl rl)), (r6, .inl (K 2, 600, .inl (nA tkn))), (r8, .inl (K 0, 4680, .inl (nA rh))), (r9, .inl (K 0, 9, .inl (nA (va_up sz sn 0))))] H := hP
  have hD : va_D A [(m0, .inr (8, [.int (nI th), .int (nI T), .int (nI hd), .ref r1, .ref r2, .ref r3, .ref r4, .int (nI cm), .ref r5, .ref r6, .int (nI sg), .ref r7, .int (nI sn), .ref r8, .ref r9])), (r1, .inl (K 0, 520, .inl (nA rd))), (r2, .inl (K 0, 520, .inl (nA rs))), (r3, .inl (K 0, 520, .inl ru)), (r4, .inl (K 0, 520, .inl rl)), (r6, .inl (K 2, 600, .inl (nA tkn))), (r8, .inl (K 0, 4680, .inl (nA rh))), (r9, .inl (K 0, 9, .inl (nA (va_up sz sn 0))))] := hD
  refine lv_iconst (v := nI 0) hx hb d_Mo_push_10 (by decide) ?_
  refine lv_istore (lv' := [(5, .int (nI 0)), (0, .ref m0), (1, .int fs), (2, .int a), (3, .int b), (4, .int (nI n))]) hx hb d_Mo_push_11 hl (by decide) rfl (fun ls hl => ?_)
  exact lp_Mo_push_13 (l := l) m0 th T hd r1 r2 r3 r4 cm r5 r6 sg r7 sn r8 r9 rd rs ru rl tkn rh sz fs a b n hhd hrd hrs hsn hn8 hF2 hA _ 0 rh 0 (by first | assumption | omega) (by exact rf_fill_0 (fun v w => by obtain ⟨i, a1, _⟩ := w; omega)) (by first | assumption | omega) (Nat.lt_succ_self _) _ _ hP hD hS _ (lv_sub hl [1, 2, 3, 4, 5, 0] rfl)

abbrev q_Mo_term_full (K : Nat → ClassId) (m0 : Nat) (th : Nat) (T : Nat) (hd : Nat) (r1 : Nat) (r2 : Nat) (r3 : Nat) (r4 : Nat) (cm : Nat) (r5 : Nat) (r6 : Nat) (sg : Nat) (r7 : Nat) (sn : Nat) (r8 : Nat) (r9 : Nat) (fs : Int32) (a : Int32) (b : Int32) : Int32 → va_W → Prop := fun r u => u = [(m0, .inr (8, [.int (nI 1), .int (nI T), .int (nI hd), .ref r1, .ref r2, .ref r3, .ref r4, .int (nI cm), .ref r5, .ref r6, .int (nI sg), .ref r7, .int (nI sn), .ref r8, .ref r9]))] ∧ r = nI 0
set_option maxHeartbeats 4000000 in
set_option maxRecDepth 100000 in
theorem c_Mo_term_full (l : Launch) (D : va_G) (K : Nat → ClassId) (m0 : Nat) (th : Nat) (T : Nat) (hd : Nat) (r1 : Nat) (r2 : Nat) (r3 : Nat) (r4 : Nat) (cm : Nat) (r5 : Nat) (r6 : Nat) (sg : Nat) (r7 : Nat) (sn : Nat) (r8 : Nat) (r9 : Nat) (fs : Int32) (a : Int32) (b : Int32) (hsn : 8 ≤ sn) (hsn2 : sn ≤ 8) : CI l y_Mo_term b_Mo_term 4 .int ({ frames := 0, cells := 0, slots := 0, locals := 0 } : Room) D K [.ref m0, .int fs, .int a, .int b] [(m0, .inr (8, [.int (nI th), .int (nI T), .int (nI hd), .ref r1, .ref r2, .ref r3, .ref r4, .int (nI cm), .ref r5, .ref r6, .int (nI sg), .ref r7, .int (nI sn), .ref r8, .ref r9]))] (q_Mo_term_full K m0 th T hd r1 r2 r3 r4 cm r5 r6 sg r7 sn r8 r9 fs a b) := by
  refine CI_of (by decide) (Nat.le_of_ble_eq_true rfl) ?_
  intro p e s m below meth c A b0 ls hF hA hP hD hl
  have hF2 := hF
  obtain ⟨hx, hb, hr, hml, hown, htw, hK, hlocks, hname⟩ := hF
  have hS : va_S A s.heap s.heap [] := va_S.rf
  have hl : lv_has ls 4 [(0, .ref m0), (1, .int fs), (2, .int a), (3, .int b)] := hl
  refine lv_aload_n hx hb d_Mo_term_0 rfl (lv_at hl 0 rfl) ?_
  refine lv_aload_n hx hb d_Mo_term_1 rfl (lv_at hl 0 rfl) ?_
  refine xg hx hb hown htw hK hP 0 12 rfl k_Mo (by decide) fl_Mo_73 rfl d_Mo_term_2 ?_
  refine lv_bipush (v := nI 8) hx hb d_Mo_term_5 (by decide) ?_
  refine xc_lt (tgt := 14) (a := sn) (b := 8) hx hb (by omega) (by omega) d_Mo_term_7 (by decide) (fun c_7 => ?_) (fun c_7 => ?_)
  · omega
  · refine lv_iconst (v := nI 1) hx hb d_Mo_term_10 (by decide) ?_
    refine lv_goto (tgt := 15) hx hb d_Mo_term_11 (by decide) ?_
    refine xpt hx hb hown htw hK hP hD hS 0 0 rfl k_Mo (by decide) fl_Mo_38 rfl rfl rfl (Nat.le_of_ble_eq_true rfl) d_Mo_term_15 (fun H locs hP hD hS => ?_)
    have hP : va_P D classes [(m0, .inr (8, [.int (nI 1), .int (nI T), .int (nI hd), .ref r1, .ref r2, .ref r3, .ref r4, .int (nI cm), .ref r5, .ref r6, .int (nI sg), .ref r7, .int (nI sn), .ref r8, .ref r9]))] H := hP
    have hD : va_D A [(m0, .inr (8, [.int (nI 1), .int (nI T), .int (nI hd), .ref r1, .ref r2, .ref r3, .ref r4, .int (nI cm), .ref r5, .ref r6, .int (nI sg), .ref r7, .int (nI sn), .ref r8, .ref r9]))] := hD
    refine lv_aload_n hx hb d_Mo_term_18 rfl (lv_at hl 0 rfl) ?_
    refine xg hx hb hown htw hK hP 0 0 rfl k_Mo (by decide) fl_Mo_38 rfl d_Mo_term_19 ?_
    refine xz_le (tgt := 29) (a := 1) hx hb (by omega) d_Mo_term_22 (by decide) (fun c_22 => ?_) (fun c_22 => ?_)
    · omega
    · refine lv_iconst (v := nI 0) hx hb d_Mo_term_25 (by decide) ?_
      refine lv_goto (tgt := 38) hx hb d_Mo_term_26 (by decide) ?_
      exact xr_iret hx hb hr hlocks hP hD hS (Nat.le_of_ble_eq_true rfl) (Nat.le_of_ble_eq_true rfl) (⟨rfl, rfl⟩) d_Mo_term_38

abbrev q_Mo_term_ok (K : Nat → ClassId) (m0 : Nat) (th : Nat) (T : Nat) (hd : Nat) (r1 : Nat) (r2 : Nat) (r3 : Nat) (r4 : Nat) (cm : Nat) (r5 : Nat) (r6 : Nat) (sg : Nat) (r7 : Nat) (sn : Nat) (r8 : Nat) (r9 : Nat) (rd : Nat → Nat) (rs : Nat → Nat) (ru : Nat → Int32) (rl : Nat → Int32) (tkn : Nat → Nat) (rh : Nat → Nat) (sz : Nat → Nat) (fs : Int32) (a : Int32) (b : Int32) : Int32 → va_W → Prop := fun r u => ∃ rh' : Nat → Nat, ∃ z' : Nat, u = [(m0, .inr (8, [.int (nI 0), .int (nI T), .int (nI hd), .ref r1, .ref r2, .ref r3, .ref r4, .int (nI cm), .ref r5, .ref r6, .int (nI sg), .ref r7, .int (nI (sn + 1)), .ref r8, .ref r9])), (r1, .inl (K 0, 520, .inl (nA rd))), (r2, .inl (K 0, 520, .inl (nA rs))), (r3, .inl (K 0, 520, .inl ru)), (r4, .inl (K 0, 520, .inl rl)), (r6, .inl (K 2, 600, .inl (nA tkn))), (r8, .inl (K 0, 4680, .inl (nA rh'))), (r9, .inl (K 0, 9, .inl (nA (va_up sz sn z'))))] ∧ r = nI z' ∧ (rf_fill rh rh' sn z' (fun v => ∃ i9, i9 < hd ∧ (tkn (rd i9) = 0 ∧ rbit fs (rs i9) ∧ ∀ k9, k9 < 8 → byA (ru i9) (rl i9) k9 = byA a b k9) ∧ 16384 * rd i9 + rs i9 = v)) ∧ (z' ≤ hd)
set_option maxHeartbeats 4000000 in
set_option maxRecDepth 100000 in
theorem c_Mo_term_ok (l : Launch) (D : va_G) (K : Nat → ClassId) (m0 : Nat) (th : Nat) (T : Nat) (hd : Nat) (r1 : Nat) (r2 : Nat) (r3 : Nat) (r4 : Nat) (cm : Nat) (r5 : Nat) (r6 : Nat) (sg : Nat) (r7 : Nat) (sn : Nat) (r8 : Nat) (r9 : Nat) (rd : Nat → Nat) (rs : Nat → Nat) (ru : Nat → Int32) (rl : Nat → Int32) (tkn : Nat → Nat) (rh : Nat → Nat) (sz : Nat → Nat) (fs : Int32) (a : Int32) (b : Int32) (hhd : hd < 520) (hrd : ∀ i, i < hd → rd i < 600 ∧ tkn (rd i) ≤ 1) (hrs : ∀ i, i < hd → rs i < 16384) (hsn : sn < 8) : CI l y_Mo_term b_Mo_term 4 .int ({ frames := 3, cells := 0, slots := 0, locals := 72 } : Room) D K [.ref m0, .int fs, .int a, .int b] [(m0, .inr (8, [.int (nI th), .int (nI T), .int (nI hd), .ref r1, .ref r2, .ref r3, .ref r4, .int (nI cm), .ref r5, .ref r6, .int (nI sg), .ref r7, .int (nI sn), .ref r8, .ref r9])), (r1, .inl (K 0, 520, .inl (nA rd))), (r2, .inl (K 0, 520, .inl (nA rs))), (r3, .inl (K 0, 520, .inl ru)), (r4, .inl (K 0, 520, .inl rl)), (r6, .inl (K 2, 600, .inl (nA tkn))), (r8, .inl (K 0, 4680, .inl (nA rh))), (r9, .inl (K 0, 9, .inl (nA sz)))] (q_Mo_term_ok K m0 th T hd r1 r2 r3 r4 cm r5 r6 sg r7 sn r8 r9 rd rs ru rl tkn rh sz fs a b) := by
  refine CI_of (by decide) (Nat.le_of_ble_eq_true rfl) ?_
  intro p e s m below meth c A b0 ls hF hA hP hD hl
  have hF2 := hF
  obtain ⟨hx, hb, hr, hml, hown, htw, hK, hlocks, hname⟩ := hF
  have hS : va_S A s.heap s.heap [] := va_S.rf
  have hl : lv_has ls 4 [(0, .ref m0), (1, .int fs), (2, .int a), (3, .int b)] := hl
  refine lv_aload_n hx hb d_Mo_term_0 rfl (lv_at hl 0 rfl) ?_
  refine lv_aload_n hx hb d_Mo_term_1 rfl (lv_at hl 0 rfl) ?_
  refine xg hx hb hown htw hK hP 0 12 rfl k_Mo (by decide) fl_Mo_73 rfl d_Mo_term_2 ?_
  refine lv_bipush (v := nI 8) hx hb d_Mo_term_5 (by decide) ?_
  refine xc_lt (tgt := 14) (a := sn) (b := 8) hx hb (by omega) (by omega) d_Mo_term_7 (by decide) (fun c_7 => ?_) (fun c_7 => ?_)
  · refine lv_iconst (v := nI 0) hx hb d_Mo_term_14 (by decide) ?_
    refine xpt hx hb hown htw hK hP hD hS 0 0 rfl k_Mo (by decide) fl_Mo_38 rfl rfl rfl (Nat.le_of_ble_eq_true rfl) d_Mo_term_15 (fun H locs hP hD hS => ?_)
    have hP : va_P D classes [(m0, .inr (8, [.int (nI 0), .int (nI T), .int (nI hd), .ref r1, .ref r2, .ref r3, .ref r4, .int (nI cm), .ref r5, .ref r6, .int (nI sg), .ref r7, .int (nI sn), .ref r8, .ref r9])), (r1, .inl (K 0, 520, .inl (nA rd))), (r2, .inl (K 0, 520, .inl (nA rs))), (r3, .inl (K 0, 520, .inl ru)), (r4, .inl (K 0, 520, .inl rl)), (r6, .inl (K 2, 600, .inl (nA tkn))), (r8, .inl (K 0, 4680, .inl (nA rh))), (r9, .inl (K 0, 9, .inl (nA sz)))] H := hP
    have hD : va_D A [(m0, .inr (8, [.int (nI 0), .int (nI T), .int (nI hd), .ref r1, .ref r2, .ref r3, .ref r4, .int (nI cm), .ref r5, .ref r6, .int (nI sg), .ref r7, .int (nI sn), .ref r8, .ref r9])), (r1, .inl (K 0, 520, .inl (nA rd))), (r2, .inl (K 0, 520, .inl (nA rs))), (r3, .inl (K 0, 520, .inl ru)), (r4, .inl (K 0, 520, .inl rl)), (r6, .inl (K 2, 600, .inl (nA tkn))), (r8, .inl (K 0, 4680, .inl (nA rh))), (r9, .inl (K 0, 9, .inl (nA sz)))] := hD
    refine lv_aload_n hx hb d_Mo_term_18 rfl (lv_at hl 0 rfl) ?_
    refine xg hx hb hown htw hK hP 0 0 rfl k_Mo (by decide) fl_Mo_38 rfl d_Mo_term_19 ?_
    refine xz_le (tgt := 29) (a := 0) hx hb (by omega) d_Mo_term_22 (by decide) (fun c_22 => ?_) (fun c_22 => ?_)
    · refine lv_aload_n hx hb d_Mo_term_29 rfl (lv_at hl 0 rfl) ?_
      refine lv_iload_n hx hb d_Mo_term_30 rfl (lv_at hl 1 rfl) ?_
      refine lv_iload_n hx hb d_Mo_term_31 rfl (lv_at hl 2 rfl) ?_
      refine lv_iload_n hx hb d_Mo_term_32 rfl (lv_at hl 3 rfl) ?_
      refine lv_bipush (v := nI 8) hx hb d_Mo_term_33 (by decide) ?_
      refine xcV_i (As := [.int fs, .int a, .int b, .int (nI 8)]) (rest := []) (wr := []) hx hb hml hown htw hK hA hl.1 hP hD hS (c_Mo_push l D K m0 0 T hd r1 r2 r3 r4 cm r5 r6 sg r7 sn r8 r9 rd rs ru rl tkn rh sz fs a b 8 (by first | assumption | omega) (by first | assumption | omega) (by first | assumption | omega) (by first | assumption | omega) (by first | assumption | omega)) [0, 1, 2, 3, 4, 5, 6, 7] [] rfl rfl (by decide) (by decide) (by decide) 0 rfl k_Mo ml_Mo_91 w_Mo_push rfl ⟨by decide, by decide⟩ rfl (Nat.le_of_ble_eq_true rfl) ⟨by decide, by decide⟩ d_Mo_term_35 (fun r u H locs hpost hP hD hS => ?_)
      obtain ⟨rh'_35, z'_35, rfl, rfl, hfl_35, hzl_35⟩ := hpost
      have hP : va_P D classes [(m0, .inr (8, [.int (nI 0), .int (nI T), .int (nI hd), .ref r1, .ref r2, .ref r3, .ref r4, .int (nI cm), .ref r5, .ref r6, .int (nI sg), .ref r7, .int (nI (sn + 1)), .ref r8, .ref r9])), (r1, .inl (K 0, 520, .inl (nA rd))), (r2, .inl (K 0, 520, .inl (nA rs))), (r3, .inl (K 0, 520, .inl ru)), (r4, .inl (K 0, 520, .inl rl)), (r6, .inl (K 2, 600, .inl (nA tkn))), (r8, .inl (K 0, 4680, .inl (nA rh'_35))), (r9, .inl (K 0, 9, .inl (nA (va_up sz sn z'_35))))] H := hP
      have hD : va_D A [(m0, .inr (8, [.int (nI 0), .int (nI T), .int (nI hd), .ref r1, .ref r2, .ref r3, .ref r4, .int (nI cm), .ref r5, .ref r6, .int (nI sg), .ref r7, .int (nI (sn + 1)), .ref r8, .ref r9])), (r1, .inl (K 0, 520, .inl (nA rd))), (r2, .inl (K 0, 520, .inl (nA rs))), (r3, .inl (K 0, 520, .inl ru)), (r4, .inl (K 0, 520, .inl rl)), (r6, .inl (K 2, 600, .inl (nA tkn))), (r8, .inl (K 0, 4680, .inl (nA rh'_35))), (r9, .inl (K 0, 9, .inl (nA (va_up sz sn z'_35))))] := hD
      exact xr_iret hx hb hr hlocks hP hD hS (Nat.le_of_ble_eq_true rfl) (Nat.le_of_ble_eq_true rfl) (⟨_, _, rfl, rfl, hfl_35, hzl_35⟩) d_Mo_term_38
    · omega
  · omega

abbrev q_Mo_begins_full (K : Nat → ClassId) (m0 : Nat) (th : Nat) (T : Nat) (hd : Nat) (r1 : Nat) (r2 : Nat) (r3 : Nat) (r4 : Nat) (cm : Nat) (r5 : Nat) (r6 : Nat) (sg : Nat) (r7 : Nat) (sn : Nat) (r8 : Nat) (r9 : Nat) (fs : Int32) (a : Int32) (b : Int32) (x : Int32) : Int32 → va_W → Prop := fun r u => u = [(m0, .inr (8, [.int (nI 2), .int (nI T), .int (nI hd), .ref r1, .ref r2, .ref r3, .ref r4, .int (nI cm), .ref r5, .ref r6, .int (nI sg), .ref r7, .int (nI sn), .ref r8, .ref r9]))] ∧ r = nI 0
set_option maxHeartbeats 4000000 in
set_option maxRecDepth 100000 in
theorem c_Mo_begins_full (l : Launch) (D : va_G) (K : Nat → ClassId) (m0 : Nat) (th : Nat) (T : Nat) (hd : Nat) (r1 : Nat) (r2 : Nat) (r3 : Nat) (r4 : Nat) (cm : Nat) (r5 : Nat) (r6 : Nat) (sg : Nat) (r7 : Nat) (sn : Nat) (r8 : Nat) (r9 : Nat) (fs : Int32) (a : Int32) (b : Int32) (x : Int32) (hsn : 8 ≤ sn) (hsn2 : sn ≤ 8) : CI l y_Mo_begins b_Mo_begins 5 .int ({ frames := 0, cells := 0, slots := 0, locals := 0 } : Room) D K [.ref m0, .int fs, .int a, .int b, .int x] [(m0, .inr (8, [.int (nI th), .int (nI T), .int (nI hd), .ref r1, .ref r2, .ref r3, .ref r4, .int (nI cm), .ref r5, .ref r6, .int (nI sg), .ref r7, .int (nI sn), .ref r8, .ref r9]))] (q_Mo_begins_full K m0 th T hd r1 r2 r3 r4 cm r5 r6 sg r7 sn r8 r9 fs a b x) := by
  refine CI_of (by decide) (Nat.le_of_ble_eq_true rfl) ?_
  intro p e s m below meth c A b0 ls hF hA hP hD hl
  have hF2 := hF
  obtain ⟨hx, hb, hr, hml, hown, htw, hK, hlocks, hname⟩ := hF
  have hS : va_S A s.heap s.heap [] := va_S.rf
  have hl : lv_has ls 5 [(0, .ref m0), (1, .int fs), (2, .int a), (3, .int b), (4, .int x)] := hl
  refine lv_aload_n hx hb d_Mo_begins_0 rfl (lv_at hl 0 rfl) ?_
  refine lv_aload_n hx hb d_Mo_begins_1 rfl (lv_at hl 0 rfl) ?_
  refine xg hx hb hown htw hK hP 0 12 rfl k_Mo (by decide) fl_Mo_73 rfl d_Mo_begins_2 ?_
  refine lv_bipush (v := nI 8) hx hb d_Mo_begins_5 (by decide) ?_
  refine xc_lt (tgt := 14) (a := sn) (b := 8) hx hb (by omega) (by omega) d_Mo_begins_7 (by decide) (fun c_7 => ?_) (fun c_7 => ?_)
  · omega
  · refine lv_iconst (v := nI 2) hx hb d_Mo_begins_10 (by decide) ?_
    refine lv_goto (tgt := 31) hx hb d_Mo_begins_11 (by decide) ?_
    refine xpt hx hb hown htw hK hP hD hS 0 0 rfl k_Mo (by decide) fl_Mo_38 rfl rfl rfl (Nat.le_of_ble_eq_true rfl) d_Mo_begins_31 (fun H locs hP hD hS => ?_)
    have hP : va_P D classes [(m0, .inr (8, [.int (nI 2), .int (nI T), .int (nI hd), .ref r1, .ref r2, .ref r3, .ref r4, .int (nI cm), .ref r5, .ref r6, .int (nI sg), .ref r7, .int (nI sn), .ref r8, .ref r9]))] H := hP
    have hD : va_D A [(m0, .inr (8, [.int (nI 2), .int (nI T), .int (nI hd), .ref r1, .ref r2, .ref r3, .ref r4, .int (nI cm), .ref r5, .ref r6, .int (nI sg), .ref r7, .int (nI sn), .ref r8, .ref r9]))] := hD
    refine lv_aload_n hx hb d_Mo_begins_34 rfl (lv_at hl 0 rfl) ?_
    refine xg hx hb hown htw hK hP 0 0 rfl k_Mo (by decide) fl_Mo_38 rfl d_Mo_begins_35 ?_
    refine xz_le (tgt := 45) (a := 2) hx hb (by omega) d_Mo_begins_38 (by decide) (fun c_38 => ?_) (fun c_38 => ?_)
    · omega
    · refine lv_iconst (v := nI 0) hx hb d_Mo_begins_41 (by decide) ?_
      refine lv_goto (tgt := 54) hx hb d_Mo_begins_42 (by decide) ?_
      exact xr_iret hx hb hr hlocks hP hD hS (Nat.le_of_ble_eq_true rfl) (Nat.le_of_ble_eq_true rfl) (⟨rfl, rfl⟩) d_Mo_begins_54

abbrev q_Mo_begins_bad (K : Nat → ClassId) (m0 : Nat) (th : Nat) (T : Nat) (hd : Nat) (r1 : Nat) (r2 : Nat) (r3 : Nat) (r4 : Nat) (cm : Nat) (r5 : Nat) (r6 : Nat) (sg : Nat) (r7 : Nat) (sn : Nat) (r8 : Nat) (r9 : Nat) (fs : Int32) (a : Int32) (b : Int32) (x : Int32) : Int32 → va_W → Prop := fun r u => u = [(m0, .inr (8, [.int (nI 1), .int (nI T), .int (nI hd), .ref r1, .ref r2, .ref r3, .ref r4, .int (nI cm), .ref r5, .ref r6, .int (nI sg), .ref r7, .int (nI sn), .ref r8, .ref r9]))] ∧ r = nI 0
set_option maxHeartbeats 4000000 in
set_option maxRecDepth 100000 in
theorem c_Mo_begins_bad (l : Launch) (D : va_G) (K : Nat → ClassId) (m0 : Nat) (th : Nat) (T : Nat) (hd : Nat) (r1 : Nat) (r2 : Nat) (r3 : Nat) (r4 : Nat) (cm : Nat) (r5 : Nat) (r6 : Nat) (sg : Nat) (r7 : Nat) (sn : Nat) (r8 : Nat) (r9 : Nat) (fs : Int32) (a : Int32) (b : Int32) (x : Int32) (hsn : sn < 8) (hbad : x < 0 ∨ nI 8 < x) : CI l y_Mo_begins b_Mo_begins 5 .int ({ frames := 0, cells := 0, slots := 0, locals := 0 } : Room) D K [.ref m0, .int fs, .int a, .int b, .int x] [(m0, .inr (8, [.int (nI th), .int (nI T), .int (nI hd), .ref r1, .ref r2, .ref r3, .ref r4, .int (nI cm), .ref r5, .ref r6, .int (nI sg), .ref r7, .int (nI sn), .ref r8, .ref r9]))] (q_Mo_begins_bad K m0 th T hd r1 r2 r3 r4 cm r5 r6 sg r7 sn r8 r9 fs a b x) := by
  refine CI_of (by decide) (Nat.le_of_ble_eq_true rfl) ?_
  intro p e s m below meth c A b0 ls hF hA hP hD hl
  have hF2 := hF
  obtain ⟨hx, hb, hr, hml, hown, htw, hK, hlocks, hname⟩ := hF
  have hS : va_S A s.heap s.heap [] := va_S.rf
  have hl : lv_has ls 5 [(0, .ref m0), (1, .int fs), (2, .int a), (3, .int b), (4, .int x)] := hl
  refine lv_aload_n hx hb d_Mo_begins_0 rfl (lv_at hl 0 rfl) ?_
  refine lv_aload_n hx hb d_Mo_begins_1 rfl (lv_at hl 0 rfl) ?_
  refine xg hx hb hown htw hK hP 0 12 rfl k_Mo (by decide) fl_Mo_73 rfl d_Mo_begins_2 ?_
  refine lv_bipush (v := nI 8) hx hb d_Mo_begins_5 (by decide) ?_
  refine xc_lt (tgt := 14) (a := sn) (b := 8) hx hb (by omega) (by omega) d_Mo_begins_7 (by decide) (fun c_7 => ?_) (fun c_7 => ?_)
  · refine lv_iload hx hb d_Mo_begins_14 (lv_at hl 4 rfl) ?_
    refine lv_if_lt (tgt := 26) hx hb d_Mo_begins_16 (by decide) (fun c_16 => ?_) (fun c_16 => ?_)
    · refine lv_iconst (v := nI 1) hx hb d_Mo_begins_26 (by decide) ?_
      refine lv_goto (tgt := 31) hx hb d_Mo_begins_27 (by decide) ?_
      refine xpt hx hb hown htw hK hP hD hS 0 0 rfl k_Mo (by decide) fl_Mo_38 rfl rfl rfl (Nat.le_of_ble_eq_true rfl) d_Mo_begins_31 (fun H locs hP hD hS => ?_)
      have hP : va_P D classes [(m0, .inr (8, [.int (nI 1), .int (nI T), .int (nI hd), .ref r1, .ref r2, .ref r3, .ref r4, .int (nI cm), .ref r5, .ref r6, .int (nI sg), .ref r7, .int (nI sn), .ref r8, .ref r9]))] H := hP
      have hD : va_D A [(m0, .inr (8, [.int (nI 1), .int (nI T), .int (nI hd), .ref r1, .ref r2, .ref r3, .ref r4, .int (nI cm), .ref r5, .ref r6, .int (nI sg), .ref r7, .int (nI sn), .ref r8, .ref r9]))] := hD
      refine lv_aload_n hx hb d_Mo_begins_34 rfl (lv_at hl 0 rfl) ?_
      refine xg hx hb hown htw hK hP 0 0 rfl k_Mo (by decide) fl_Mo_38 rfl d_Mo_begins_35 ?_
      refine xz_le (tgt := 45) (a := 1) hx hb (by omega) d_Mo_begins_38 (by decide) (fun c_38 => ?_) (fun c_38 => ?_)
      · omega
      · refine lv_iconst (v := nI 0) hx hb d_Mo_begins_41 (by decide) ?_
        refine lv_goto (tgt := 54) hx hb d_Mo_begins_42 (by decide) ?_
        exact xr_iret hx hb hr hlocks hP hD hS (Nat.le_of_ble_eq_true rfl) (Nat.le_of_ble_eq_true rfl) (⟨rfl, rfl⟩) d_Mo_begins_54
    · refine lv_iload hx hb d_Mo_begins_19 (lv_at hl 4 rfl) ?_
      refine lv_bipush (v := nI 8) hx hb d_Mo_begins_21 (by decide) ?_
      refine lv_icmp_le (tgt := 30) hx hb d_Mo_begins_23 (by decide) (fun c_23 => ?_) (fun c_23 => ?_)
      · exact absurd hbad (fun q => q.elim c_16 (fun q => absurd c_23 (Int32.not_le.mpr q)))
      · refine lv_iconst (v := nI 1) hx hb d_Mo_begins_26 (by decide) ?_
        refine lv_goto (tgt := 31) hx hb d_Mo_begins_27 (by decide) ?_
        refine xpt hx hb hown htw hK hP hD hS 0 0 rfl k_Mo (by decide) fl_Mo_38 rfl rfl rfl (Nat.le_of_ble_eq_true rfl) d_Mo_begins_31 (fun H locs hP hD hS => ?_)
        have hP : va_P D classes [(m0, .inr (8, [.int (nI 1), .int (nI T), .int (nI hd), .ref r1, .ref r2, .ref r3, .ref r4, .int (nI cm), .ref r5, .ref r6, .int (nI sg), .ref r7, .int (nI sn), .ref r8, .ref r9]))] H := hP
        have hD : va_D A [(m0, .inr (8, [.int (nI 1), .int (nI T), .int (nI hd), .ref r1, .ref r2, .ref r3, .ref r4, .int (nI cm), .ref r5, .ref r6, .int (nI sg), .ref r7, .int (nI sn), .ref r8, .ref r9]))] := hD
        refine lv_aload_n hx hb d_Mo_begins_34 rfl (lv_at hl 0 rfl) ?_
        refine xg hx hb hown htw hK hP 0 0 rfl k_Mo (by decide) fl_Mo_38 rfl d_Mo_begins_35 ?_
        refine xz_le (tgt := 45) (a := 1) hx hb (by omega) d_Mo_begins_38 (by decide) (fun c_38 => ?_) (fun c_38 => ?_)
        · omega
        · refine lv_iconst (v := nI 0) hx hb d_Mo_begins_41 (by decide) ?_
          refine lv_goto (tgt := 54) hx hb d_Mo_begins_42 (by decide) ?_
          exact xr_iret hx hb hr hlocks hP hD hS (Nat.le_of_ble_eq_true rfl) (Nat.le_of_ble_eq_true rfl) (⟨rfl, rfl⟩) d_Mo_begins_54
  · omega

abbrev q_Mo_begins_ok (K : Nat → ClassId) (m0 : Nat) (th : Nat) (T : Nat) (hd : Nat) (r1 : Nat) (r2 : Nat) (r3 : Nat) (r4 : Nat) (cm : Nat) (r5 : Nat) (r6 : Nat) (sg : Nat) (r7 : Nat) (sn : Nat) (r8 : Nat) (r9 : Nat) (rd : Nat → Nat) (rs : Nat → Nat) (ru : Nat → Int32) (rl : Nat → Int32) (tkn : Nat → Nat) (rh : Nat → Nat) (sz : Nat → Nat) (fs : Int32) (a : Int32) (b : Int32) (n : Nat) : Int32 → va_W → Prop := fun r u => ∃ rh' : Nat → Nat, ∃ z' : Nat, u = [(m0, .inr (8, [.int (nI 0), .int (nI T), .int (nI hd), .ref r1, .ref r2, .ref r3, .ref r4, .int (nI cm), .ref r5, .ref r6, .int (nI sg), .ref r7, .int (nI (sn + 1)), .ref r8, .ref r9])), (r1, .inl (K 0, 520, .inl (nA rd))), (r2, .inl (K 0, 520, .inl (nA rs))), (r3, .inl (K 0, 520, .inl ru)), (r4, .inl (K 0, 520, .inl rl)), (r6, .inl (K 2, 600, .inl (nA tkn))), (r8, .inl (K 0, 4680, .inl (nA rh'))), (r9, .inl (K 0, 9, .inl (nA (va_up sz sn z'))))] ∧ r = nI z' ∧ (rf_fill rh rh' sn z' (fun v => ∃ i9, i9 < hd ∧ (tkn (rd i9) = 0 ∧ rbit fs (rs i9) ∧ ∀ k9, k9 < n → byA (ru i9) (rl i9) k9 = byA a b k9) ∧ 16384 * rd i9 + rs i9 = v)) ∧ (z' ≤ hd)
set_option maxHeartbeats 4000000 in
set_option maxRecDepth 100000 in
theorem c_Mo_begins_ok (l : Launch) (D : va_G) (K : Nat → ClassId) (m0 : Nat) (th : Nat) (T : Nat) (hd : Nat) (r1 : Nat) (r2 : Nat) (r3 : Nat) (r4 : Nat) (cm : Nat) (r5 : Nat) (r6 : Nat) (sg : Nat) (r7 : Nat) (sn : Nat) (r8 : Nat) (r9 : Nat) (rd : Nat → Nat) (rs : Nat → Nat) (ru : Nat → Int32) (rl : Nat → Int32) (tkn : Nat → Nat) (rh : Nat → Nat) (sz : Nat → Nat) (fs : Int32) (a : Int32) (b : Int32) (n : Nat) (hhd : hd < 520) (hrd : ∀ i, i < hd → rd i < 600 ∧ tkn (rd i) ≤ 1) (hrs : ∀ i, i < hd → rs i < 16384) (hsn : sn < 8) (hn8 : n ≤ 8) : CI l y_Mo_begins b_Mo_begins 5 .int ({ frames := 3, cells := 0, slots := 0, locals := 72 } : Room) D K [.ref m0, .int fs, .int a, .int b, .int (nI n)] [(m0, .inr (8, [.int (nI th), .int (nI T), .int (nI hd), .ref r1, .ref r2, .ref r3, .ref r4, .int (nI cm), .ref r5, .ref r6, .int (nI sg), .ref r7, .int (nI sn), .ref r8, .ref r9])), (r1, .inl (K 0, 520, .inl (nA rd))), (r2, .inl (K 0, 520, .inl (nA rs))), (r3, .inl (K 0, 520, .inl ru)), (r4, .inl (K 0, 520, .inl rl)), (r6, .inl (K 2, 600, .inl (nA tkn))), (r8, .inl (K 0, 4680, .inl (nA rh))), (r9, .inl (K 0, 9, .inl (nA sz)))] (q_Mo_begins_ok K m0 th T hd r1 r2 r3 r4 cm r5 r6 sg r7 sn r8 r9 rd rs ru rl tkn rh sz fs a b n) := by
  refine CI_of (by decide) (Nat.le_of_ble_eq_true rfl) ?_
  intro p e s m below meth c A b0 ls hF hA hP hD hl
  have hF2 := hF
  obtain ⟨hx, hb, hr, hml, hown, htw, hK, hlocks, hname⟩ := hF
  have hS : va_S A s.heap s.heap [] := va_S.rf
  have hl : lv_has ls 5 [(0, .ref m0), (1, .int fs), (2, .int a), (3, .int b), (4, .int (nI n))] := hl
  refine lv_aload_n hx hb d_Mo_begins_0 rfl (lv_at hl 0 rfl) ?_
  refine lv_aload_n hx hb d_Mo_begins_1 rfl (lv_at hl 0 rfl) ?_
  refine xg hx hb hown htw hK hP 0 12 rfl k_Mo (by decide) fl_Mo_73 rfl d_Mo_begins_2 ?_
  refine lv_bipush (v := nI 8) hx hb d_Mo_begins_5 (by decide) ?_
  refine xc_lt (tgt := 14) (a := sn) (b := 8) hx hb (by omega) (by omega) d_Mo_begins_7 (by decide) (fun c_7 => ?_) (fun c_7 => ?_)
  · refine lv_iload hx hb d_Mo_begins_14 (lv_at hl 4 rfl) ?_
    refine xz_lt (a := n) hx hb (by omega) d_Mo_begins_16 26 (by decide) ?_
    refine lv_iload hx hb d_Mo_begins_19 (lv_at hl 4 rfl) ?_
    refine lv_bipush (v := nI 8) hx hb d_Mo_begins_21 (by decide) ?_
    refine xc_le (tgt := 30) (a := n) (b := 8) hx hb (by omega) (by omega) d_Mo_begins_23 (by decide) (fun c_23 => ?_) (fun c_23 => ?_)
    · refine lv_iconst (v := nI 0) hx hb d_Mo_begins_30 (by decide) ?_
      refine xpt hx hb hown htw hK hP hD hS 0 0 rfl k_Mo (by decide) fl_Mo_38 rfl rfl rfl (Nat.le_of_ble_eq_true rfl) d_Mo_begins_31 (fun H locs hP hD hS => ?_)
      have hP : va_P D classes [(m0, .inr (8, [.int (nI 0), .int (nI T), .int (nI hd), .ref r1, .ref r2, .ref r3, .ref r4, .int (nI cm), .ref r5, .ref r6, .int (nI sg), .ref r7, .int (nI sn), .ref r8, .ref r9])), (r1, .inl (K 0, 520, .inl (nA rd))), (r2, .inl (K 0, 520, .inl (nA rs))), (r3, .inl (K 0, 520, .inl ru)), (r4, .inl (K 0, 520, .inl rl)), (r6, .inl (K 2, 600, .inl (nA tkn))), (r8, .inl (K 0, 4680, .inl (nA rh))), (r9, .inl (K 0, 9, .inl (nA sz)))] H := hP
      have hD : va_D A [(m0, .inr (8, [.int (nI 0), .int (nI T), .int (nI hd), .ref r1, .ref r2, .ref r3, .ref r4, .int (nI cm), .ref r5, .ref r6, .int (nI sg), .ref r7, .int (nI sn), .ref r8, .ref r9])), (r1, .inl (K 0, 520, .inl (nA rd))), (r2, .inl (K 0, 520, .inl (nA rs))), (r3, .inl (K 0, 520, .inl ru)), (r4, .inl (K 0, 520, .inl rl)), (r6, .inl (K 2, 600, .inl (nA tkn))), (r8, .inl (K 0, 4680, .inl (nA rh))), (r9, .inl (K 0, 9, .inl (nA sz)))] := hD
      refine lv_aload_n hx hb d_Mo_begins_34 rfl (lv_at hl 0 rfl) ?_
      refine xg hx hb hown htw hK hP 0 0 rfl k_Mo (by decide) fl_Mo_38 rfl d_Mo_begins_35 ?_
      refine xz_le (tgt := 45) (a := 0) hx hb (by omega) d_Mo_begins_38 (by decide) (fun c_38 => ?_) (fun c_38 => ?_)
      · refine lv_aload_n hx hb d_Mo_begins_45 rfl (lv_at hl 0 rfl) ?_
        refine lv_iload_n hx hb d_Mo_begins_46 rfl (lv_at hl 1 rfl) ?_
        refine lv_iload_n hx hb d_Mo_begins_47 rfl (lv_at hl 2 rfl) ?_
        refine lv_iload_n hx hb d_Mo_begins_48 rfl (lv_at hl 3 rfl) ?_
        refine lv_iload hx hb d_Mo_begins_49 (lv_at hl 4 rfl) ?_
        refine xcV_i (As := [.int fs, .int a, .int b, .int (nI n)]) (rest := []) (wr := []) hx hb hml hown htw hK hA hl.1 hP hD hS (c_Mo_push l D K m0 0 T hd r1 r2 r3 r4 cm r5 r6 sg r7 sn r8 r9 rd rs ru rl tkn rh sz fs a b n (by first | assumption | omega) (by first | assumption | omega) (by first | assumption | omega) (by first | assumption | omega) (by first | assumption | omega)) [0, 1, 2, 3, 4, 5, 6, 7] [] rfl rfl (by decide) (by decide) (by decide) 0 rfl k_Mo ml_Mo_91 w_Mo_push rfl ⟨by decide, by decide⟩ rfl (Nat.le_of_ble_eq_true rfl) ⟨by decide, by decide⟩ d_Mo_begins_51 (fun r u H locs hpost hP hD hS => ?_)
        obtain ⟨rh'_51, z'_51, rfl, rfl, hfl_51, hzl_51⟩ := hpost
        have hP : va_P D classes [(m0, .inr (8, [.int (nI 0), .int (nI T), .int (nI hd), .ref r1, .ref r2, .ref r3, .ref r4, .int (nI cm), .ref r5, .ref r6, .int (nI sg), .ref r7, .int (nI (sn + 1)), .ref r8, .ref r9])), (r1, .inl (K 0, 520, .inl (nA rd))), (r2, .inl (K 0, 520, .inl (nA rs))), (r3, .inl (K 0, 520, .inl ru)), (r4, .inl (K 0, 520, .inl rl)), (r6, .inl (K 2, 600, .inl (nA tkn))), (r8, .inl (K 0, 4680, .inl (nA rh'_51))), (r9, .inl (K 0, 9, .inl (nA (va_up sz sn z'_51))))] H := hP
        have hD : va_D A [(m0, .inr (8, [.int (nI 0), .int (nI T), .int (nI hd), .ref r1, .ref r2, .ref r3, .ref r4, .int (nI cm), .ref r5, .ref r6, .int (nI sg), .ref r7, .int (nI (sn + 1)), .ref r8, .ref r9])), (r1, .inl (K 0, 520, .inl (nA rd))), (r2, .inl (K 0, 520, .inl (nA rs))), (r3, .inl (K 0, 520, .inl ru)), (r4, .inl (K 0, 520, .inl rl)), (r6, .inl (K 2, 600, .inl (nA tkn))), (r8, .inl (K 0, 4680, .inl (nA rh'_51))), (r9, .inl (K 0, 9, .inl (nA (va_up sz sn z'_51))))] := hD
        exact xr_iret hx hb hr hlocks hP hD hS (Nat.le_of_ble_eq_true rfl) (Nat.le_of_ble_eq_true rfl) (⟨_, _, rfl, rfl, hfl_51, hzl_51⟩) d_Mo_begins_54
      · omega
    · omega
  · omega

abbrev q_Mo_place (K : Nat → ClassId) (m0 : Nat) (th : Nat) (T : Nat) (hd : Nat) (r1 : Nat) (r2 : Nat) (r3 : Nat) (r4 : Nat) (cm : Nat) (r5 : Nat) (r6 : Nat) (sg : Nat) (r7 : Nat) (sn : Nat) (r8 : Nat) (r9 : Nat) (rh : Nat → Nat) (sz : Nat → Nat) (q : Nat) : Int32 → va_W → Prop := fun r u => ∃ rh' : Nat → Nat, u = [(m0, .inr (8, [.int (nI th), .int (nI T), .int (nI hd), .ref r1, .ref r2, .ref r3, .ref r4, .int (nI cm), .ref r5, .ref r6, .int (nI sg), .ref r7, .int (nI sn), .ref r8, .ref r9])), (r8, .inl (K 0, 4680, .inl (nA rh'))), (r9, .inl (K 0, 9, .inl (nA (va_up sz q (sz 8)))))] ∧ r = nI (sz 8) ∧ (∀ k, k < sz 8 → rh' (520 * q + k) = rh (4160 + k)) ∧ (∀ j, (j < 520 * q ∨ 520 * q + 520 ≤ j) → rh' j = rh j)
set_option maxHeartbeats 4000000 in
set_option maxRecDepth 100000 in
theorem lp_Mo_place_15 {p : Program} {l : Launch} {e : Env} {s : State} {m : MethodId} {below : List Frame} {meth : Method} {c : Code} {A : Nat → Prop} {D : va_G} {K : Nat → ClassId} (m0 : Nat) (th : Nat) (T : Nat) (hd : Nat) (r1 : Nat) (r2 : Nat) (r3 : Nat) (r4 : Nat) (cm : Nat) (r5 : Nat) (r6 : Nat) (sg : Nat) (r7 : Nat) (sn : Nat) (r8 : Nat) (r9 : Nat) (rh : Nat → Nat) (sz : Nat → Nat) (q : Nat) (hq : q ≤ 7) (hz8 : sz 8 ≤ 520) (hF : Fx p s m meth c y_Mo_place b_Mo_place 3 (some .int) D K) {b0 : Nat} (hA : AS K s A b0) : ∀ fuel : Nat, ∀ k : Nat, ∀ gg : Nat → Nat, (k ≤ sz 8) → (∀ i, i < k → gg (520 * q + i) = rh (4160 + i)) → (∀ j, (j < 520 * q ∨ 520 * q + 520 ≤ j) → gg j = rh j) → sz 8 - k < fuel → ∀ (H : Heap) (locs : List Loc), va_P D classes [(m0, .inr (8, [.int (nI th), .int (nI T), .int (nI hd), .ref r1, .ref r2, .ref r3, .ref r4, .int (nI cm), .ref r5, .ref r6, .int (nI sg), .ref r7, .int (nI sn), .ref r8, .ref r9])), (r8, .inl (K 0, 4680, .inl (nA gg))), (r9, .inl (K 0, 9, .inl (nA (va_up sz q (sz 8)))))] H → va_D A [(m0, .inr (8, [.int (nI th), .int (nI T), .int (nI hd), .ref r1, .ref r2, .ref r3, .ref r4, .int (nI cm), .ref r5, .ref r6, .int (nI sg), .ref r7, .int (nI sn), .ref r8, .ref r9])), (r8, .inl (K 0, 4680, .inl (nA gg))), (r9, .inl (K 0, 9, .inl (nA (va_up sz q (sz 8)))))] → va_S A s.heap H locs → ∀ ls : Array Slot, lv_has ls 3 [(0, .ref m0), (1, .int (nI q)), (2, .int (nI k))] → W p l e ({ frames := 0, cells := 0, slots := 0, locals := 0 } : Room) s m ([.ref m0, .int (nI q)] : List Value).toArray below meth c H locs 0 0 (MQ below (va_Qi (q_Mo_place K m0 th T hd r1 r2 r3 r4 cm r5 r6 sg r7 sn r8 r9 rh sz q) (fun u t => va_P D classes u t.heap ∧ va_D A u) A) ([.ref m0, .int (nI q)] : List Value).toArray s 0 0 A) (F0 m 15 ls []) := by
  have hF2 := hF
  obtain ⟨hx, hb, hr, hml, hown, htw, hK, hlocks, hname⟩ := hF
  intro fuel
  induction fuel with
  | zero => intros; omega
  | succ fuel ih =>
    intro k gg hk1 hcp hot hfu H locs hP hD hS ls hl
    refine lv_iload_n hx hb d_Mo_place_15 rfl (lv_at hl 2 rfl) ?_
    refine lv_aload_n hx hb d_Mo_place_16 rfl (lv_at hl 0 rfl) ?_
    refine xg hx hb hown htw hK hP 0 14 rfl k_Mo (by decide) fl_Mo_35 rfl d_Mo_place_17 ?_
    refine lv_bipush (v := nI 8) hx hb d_Mo_place_20 (by decide) ?_
    refine xald_i hx hb hK hP 2 rfl (by omega) (by omega) d_Mo_place_22 ?_
    refine xi (y := nI ((va_up sz q (sz 8)) 8)) rfl ?_
    refine xi (y := nI (sz 8)) (congrArg nI (va_up_ne sz _ (by omega))) ?_
    refine xc_ge (tgt := 54) (a := k) (b := sz 8) hx hb (by omega) (by omega) d_Mo_place_23 (by decide) (fun c_23 => ?_) (fun c_23 => ?_)
    · have hk2 : sz 8 = k := by omega
      subst hk2
      refine lv_aload_n hx hb d_Mo_place_54 rfl (lv_at hl 0 rfl) ?_
      refine xg hx hb hown htw hK hP 0 14 rfl k_Mo (by decide) fl_Mo_35 rfl d_Mo_place_55 ?_
      refine lv_iload_n hx hb d_Mo_place_58 rfl (lv_at hl 1 rfl) ?_
      refine xald_i hx hb hK hP 2 rfl (by omega) (by omega) d_Mo_place_59 ?_
      refine xi (y := nI ((va_up sz q (sz 8)) q)) rfl ?_
      refine xi (y := nI (sz 8)) (congrArg nI (va_up_self _ _ _)) ?_
      exact xr_iret hx hb hr hlocks hP hD hS (Nat.le_of_ble_eq_true rfl) (Nat.le_of_ble_eq_true rfl) (⟨_, rfl, rfl, hcp, hot⟩) d_Mo_place_60
    · refine lv_aload_n hx hb d_Mo_place_26 rfl (lv_at hl 0 rfl) ?_
      refine xg hx hb hown htw hK hP 0 13 rfl k_Mo (by decide) fl_Mo_32 rfl d_Mo_place_27 ?_
      refine lv_sipush (v := nI 520) hx hb d_Mo_place_30 (by decide) ?_
      refine lv_iload_n hx hb d_Mo_place_33 rfl (lv_at hl 1 rfl) ?_
      refine lv_imul hx hb d_Mo_place_34 ?_
      refine xi (nI_mul 520 q) ?_
      refine lv_iload_n hx hb d_Mo_place_35 rfl (lv_at hl 2 rfl) ?_
      refine lv_iadd hx hb d_Mo_place_36 ?_
      refine xi (nI_add (520 * q) k) ?_
      refine lv_aload_n hx hb d_Mo_place_37 rfl (lv_at hl 0 rfl) ?_
      refine xg hx hb hown htw hK hP 0 13 rfl k_Mo (by decide) fl_Mo_32 rfl d_Mo_place_38 ?_
      refine lv_sipush (v := nI 4160) hx hb d_Mo_place_41 (by decide) ?_
      refine lv_iload_n hx hb d_Mo_place_44 rfl (lv_at hl 2 rfl) ?_
      refine lv_iadd hx hb d_Mo_place_45 ?_
      refine xi (nI_add 4160 k) ?_
      refine xald_i hx hb hK hP 1 rfl (by omega) (by omega) d_Mo_place_46 ?_
      refine xi (y := nI (gg (4160 + k))) rfl ?_
      refine xi (y := nI (rh (4160 + k))) (congrArg nI (hot _ (by omega))) ?_
      refine xast_i hx hb hK hP hD hS 1 rfl (by omega) (by omega) d_Mo_place_47 (fun H locs hP hD hS => ?_)
      rw [upd_nA] at hP hD
      have hP : va_P D classes [(m0, .inr (8, [.int (nI th), .int (nI T), .int (nI hd), .ref r1, .ref r2, .ref r3, .ref r4, .int (nI cm), .ref r5, .ref r6, .int (nI sg), .ref r7, .int (nI sn), .ref r8, .ref r9])), (r8, .inl (K 0, 4680, .inl (nA (va_up gg ((520 * q) + k) (rh (4160 + k)))))), (r9, .inl (K 0, 9, .inl (nA (va_up sz q (sz 8)))))] H := hP
      have hD : va_D A [(m0, .inr (8, [.int (nI th), .int (nI T), .int (nI hd), .ref r1, .ref r2, .ref r3, .ref r4, .int (nI cm), .ref r5, .ref r6, .int (nI sg), .ref r7, .int (nI sn), .ref r8, .ref r9])), (r8, .inl (K 0, 4680, .inl (nA (va_up gg ((520 * q) + k) (rh (4160 + k)))))), (r9, .inl (K 0, 9, .inl (nA (va_up sz q (sz 8)))))] := hD
      refine lv_iinc (v := nI (k + 1)) (lv' := [(2, .int (nI (k + 1))), (0, .ref m0), (1, .int (nI q))]) hx hb d_Mo_place_48 hl (k := 2) rfl (inc_nI _ _) (by decide) rfl (fun ls hl => ?_)
      refine lv_goto (tgt := 15) hx hb d_Mo_place_51 (by decide) ?_
      exact ih (k + 1) (va_up gg ((520 * q) + k) (rh (4160 + k))) (by first | assumption | omega) (by exact fun i hi => by rcases Nat.lt_or_ge i k with w | w; (rw [va_up_ne _ _ (by omega)]; exact hcp i w); (have e : i = k := by omega); (rw [e, va_up_self])) (by exact fun j hj => by rw [va_up_ne _ _ (by omega)]; exact hot j hj) (by omega) _ _ hP hD hS _ (lv_sub hl [1, 2, 0] rfl)
set_option maxHeartbeats 4000000 in
set_option maxRecDepth 100000 in
theorem c_Mo_place (l : Launch) (D : va_G) (K : Nat → ClassId) (m0 : Nat) (th : Nat) (T : Nat) (hd : Nat) (r1 : Nat) (r2 : Nat) (r3 : Nat) (r4 : Nat) (cm : Nat) (r5 : Nat) (r6 : Nat) (sg : Nat) (r7 : Nat) (sn : Nat) (r8 : Nat) (r9 : Nat) (rh : Nat → Nat) (sz : Nat → Nat) (q : Nat) (hq : q ≤ 7) (hz8 : sz 8 ≤ 520) : CI l y_Mo_place b_Mo_place 3 .int ({ frames := 0, cells := 0, slots := 0, locals := 0 } : Room) D K [.ref m0, .int (nI q)] [(m0, .inr (8, [.int (nI th), .int (nI T), .int (nI hd), .ref r1, .ref r2, .ref r3, .ref r4, .int (nI cm), .ref r5, .ref r6, .int (nI sg), .ref r7, .int (nI sn), .ref r8, .ref r9])), (r8, .inl (K 0, 4680, .inl (nA rh))), (r9, .inl (K 0, 9, .inl (nA sz)))] (q_Mo_place K m0 th T hd r1 r2 r3 r4 cm r5 r6 sg r7 sn r8 r9 rh sz q) := by
  refine CI_of (by decide) (Nat.le_of_ble_eq_true rfl) ?_
  intro p e s m below meth c A b0 ls hF hA hP hD hl
  have hF2 := hF
  obtain ⟨hx, hb, hr, hml, hown, htw, hK, hlocks, hname⟩ := hF
  have hS : va_S A s.heap s.heap [] := va_S.rf
  have hl : lv_has ls 3 [(0, .ref m0), (1, .int (nI q))] := hl
  refine lv_aload_n hx hb d_Mo_place_0 rfl (lv_at hl 0 rfl) ?_
  refine xg hx hb hown htw hK hP 0 14 rfl k_Mo (by decide) fl_Mo_35 rfl d_Mo_place_1 ?_
  refine lv_iload_n hx hb d_Mo_place_4 rfl (lv_at hl 1 rfl) ?_
  refine lv_aload_n hx hb d_Mo_place_5 rfl (lv_at hl 0 rfl) ?_
  refine xg hx hb hown htw hK hP 0 14 rfl k_Mo (by decide) fl_Mo_35 rfl d_Mo_place_6 ?_
  refine lv_bipush (v := nI 8) hx hb d_Mo_place_9 (by decide) ?_
  refine xald_i hx hb hK hP 2 rfl (by omega) (by omega) d_Mo_place_11 ?_
  refine xi (y := nI (sz 8)) rfl ?_
  refine xast_i hx hb hK hP hD hS 2 rfl (by omega) (by omega) d_Mo_place_12 (fun H locs hP hD hS => ?_)
  rw [upd_nA] at hP hD
  have hP : va_P D classes [(m0, .inr (8, [.int (nI th), .int (nI T), .int (nI hd), .ref r1, .ref r2, .ref r3, .ref r4, .int (nI cm), .ref r5, .ref r6, .int (nI sg), .ref r7, .int (nI sn), .ref r8, .ref r9])), (r8, .inl (K 0, 4680, .inl (nA rh))), (r9, .inl (K 0, 9, .inl (nA (va_up sz q (sz 8)))))] H := hP
  have hD : va_D A [(m0, .inr (8, [.int (nI th), .int (nI T), .int (nI hd), .ref r1, .ref r2, .ref r3, .ref r4, .int (nI cm), .ref r5, .ref r6, .int (nI sg), .ref r7, .int (nI sn), .ref r8, .ref r9])), (r8, .inl (K 0, 4680, .inl (nA rh))), (r9, .inl (K 0, 9, .inl (nA (va_up sz q (sz 8)))))] := hD
  refine lv_iconst (v := nI 0) hx hb d_Mo_place_13 (by decide) ?_
  refine lv_istore_n (lv' := [(2, .int (nI 0)), (0, .ref m0), (1, .int (nI q))]) hx hb d_Mo_place_14 rfl hl (by decide) rfl (fun ls hl => ?_)
  exact lp_Mo_place_15 (l := l) m0 th T hd r1 r2 r3 r4 cm r5 r6 sg r7 sn r8 r9 rh sz q hq hz8 hF2 hA _ 0 rh (by first | assumption | omega) (by exact fun i hi => by omega) (by exact fun _ _ => rfl) (Nat.lt_succ_self _) _ _ hP hD hS _ (lv_sub hl [1, 2, 0] rfl)

abbrev q_Mo_near (K : Nat → ClassId) (m0 : Nat) (th : Nat) (T : Nat) (hd : Nat) (r1 : Nat) (r2 : Nat) (r3 : Nat) (r4 : Nat) (cm : Nat) (r5 : Nat) (r6 : Nat) (sg : Nat) (r7 : Nat) (sn : Nat) (r8 : Nat) (r9 : Nat) (rh : Nat → Nat) (sz : Nat → Nat) (q : Nat) (h : Nat) : Int32 → va_W → Prop := fun r u => u = [(m0, .inr (8, [.int (nI th), .int (nI T), .int (nI hd), .ref r1, .ref r2, .ref r3, .ref r4, .int (nI cm), .ref r5, .ref r6, .int (nI sg), .ref r7, .int (nI sn), .ref r8, .ref r9])), (r8, .inl (K 0, 4680, .inl (nA rh))), (r9, .inl (K 0, 9, .inl (nA sz)))] ∧ r = nI (bN (∃ e9 : Int, -10 ≤ e9 ∧ e9 ≤ 10 ∧ 0 ≤ ((h % 2 ^ 12 : Nat) : Int) + e9 ∧ ((h % 2 ^ 12 : Nat) : Int) + e9 ≤ 4095 ∧ st_mem (sz q) (rw_ rh q) (((h : Nat) : Int) + e9).toNat))
set_option maxHeartbeats 4000000 in
set_option maxRecDepth 100000 in
theorem lp_Mo_near_3 {p : Program} {l : Launch} {e : Env} {s : State} {m : MethodId} {below : List Frame} {meth : Method} {c : Code} {A : Nat → Prop} {D : va_G} {K : Nat → ClassId} (m0 : Nat) (th : Nat) (T : Nat) (hd : Nat) (r1 : Nat) (r2 : Nat) (r3 : Nat) (r4 : Nat) (cm : Nat) (r5 : Nat) (r6 : Nat) (sg : Nat) (r7 : Nat) (sn : Nat) (r8 : Nat) (r9 : Nat) (rh : Nat → Nat) (sz : Nat → Nat) (q : Nat) (h : Nat) (hq : q ≤ 8) (hz : sz q ≤ 520) (hbd : ∀ k, k < sz q → rh (520 * q + k) < 2 ^ 24) (hh : h < 2 ^ 24) (hF : Fx p s m meth c y_Mo_near b_Mo_near 4 (some .boolean) D K) {b0 : Nat} (hA : AS K s A b0) : ∀ fuel : Nat, ∀ ee : Int, (-10 ≤ ee) → (ee ≤ 11) → (∀ e9 : Int, -10 ≤ e9 → e9 < ee → ¬ (0 ≤ ((h % 2 ^ 12 : Nat) : Int) + e9 ∧ ((h % 2 ^ 12 : Nat) : Int) + e9 ≤ 4095 ∧ st_mem (sz q) (rw_ rh q) (((h : Nat) : Int) + e9).toNat)) → (11 - ee).toNat < fuel → ∀ (H : Heap) (locs : List Loc), va_P D classes [(m0, .inr (8, [.int (nI th), .int (nI T), .int (nI hd), .ref r1, .ref r2, .ref r3, .ref r4, .int (nI cm), .ref r5, .ref r6, .int (nI sg), .ref r7, .int (nI sn), .ref r8, .ref r9])), (r8, .inl (K 0, 4680, .inl (nA rh))), (r9, .inl (K 0, 9, .inl (nA sz)))] H → va_D A [(m0, .inr (8, [.int (nI th), .int (nI T), .int (nI hd), .ref r1, .ref r2, .ref r3, .ref r4, .int (nI cm), .ref r5, .ref r6, .int (nI sg), .ref r7, .int (nI sn), .ref r8, .ref r9])), (r8, .inl (K 0, 4680, .inl (nA rh))), (r9, .inl (K 0, 9, .inl (nA sz)))] → va_S A s.heap H locs → ∀ ls : Array Slot, lv_has ls 4 [(0, .ref m0), (1, .int (nI q)), (2, .int (nI h)), (3, .int (zI ee))] → W p l e ({ frames := 1, cells := 0, slots := 0, locals := 23 } : Room) s m ([.ref m0, .int (nI q), .int (nI h)] : List Value).toArray below meth c H locs 0 0 (MQ below (va_Qi (q_Mo_near K m0 th T hd r1 r2 r3 r4 cm r5 r6 sg r7 sn r8 r9 rh sz q h) (fun u t => va_P D classes u t.heap ∧ va_D A u) A) ([.ref m0, .int (nI q), .int (nI h)] : List Value).toArray s 0 0 A) (F0 m 3 ls []) := by
  have hF2 := hF
  obtain ⟨hx, hb, hr, hml, hown, htw, hK, hlocks, hname⟩ := hF
  intro fuel
  induction fuel with
  | zero => intros; omega
  | succ fuel ih =>
    have jn_45 : ∀ ee : Int, (-10 ≤ ee) → (ee ≤ 10) → (∀ e9 : Int, -10 ≤ e9 → e9 < ee + 1 → ¬ (0 ≤ ((h % 2 ^ 12 : Nat) : Int) + e9 ∧ ((h % 2 ^ 12 : Nat) : Int) + e9 ≤ 4095 ∧ st_mem (sz q) (rw_ rh q) (((h : Nat) : Int) + e9).toNat)) → ((11 - ee).toNat < fuel + 1) → ∀ (H : Heap) (locs : List Loc), va_P D classes [(m0, .inr (8, [.int (nI th), .int (nI T), .int (nI hd), .ref r1, .ref r2, .ref r3, .ref r4, .int (nI cm), .ref r5, .ref r6, .int (nI sg), .ref r7, .int (nI sn), .ref r8, .ref r9])), (r8, .inl (K 0, 4680, .inl (nA rh))), (r9, .inl (K 0, 9, .inl (nA sz)))] H → va_D A [(m0, .inr (8, [.int (nI th), .int (nI T), .int (nI hd), .ref r1, .ref r2, .ref r3, .ref r4, .int (nI cm), .ref r5, .ref r6, .int (nI sg), .ref r7, .int (nI sn), .ref r8, .ref r9])), (r8, .inl (K 0, 4680, .inl (nA rh))), (r9, .inl (K 0, 9, .inl (nA sz)))] → va_S A s.heap H locs → ∀ ls : Array Slot, lv_has ls 4 [(0, .ref m0), (1, .int (nI q)), (2, .int (nI h)), (3, .int (zI ee))] → W p l e ({ frames := 1, cells := 0, slots := 0, locals := 23 } : Room) s m ([.ref m0, .int (nI q), .int (nI h)] : List Value).toArray below meth c H locs 0 0 (MQ below (va_Qi (q_Mo_near K m0 th T hd r1 r2 r3 r4 cm r5 r6 sg r7 sn r8 r9 rh sz q h) (fun u t => va_P D classes u t.heap ∧ va_D A u) A) ([.ref m0, .int (nI q), .int (nI h)] : List Value).toArray s 0 0 A) (F0 m 45 ls []) := by
      intro ee he1 he2 hno hfu H locs hP hD hS ls hl
      refine lv_iinc (v := zI (ee + 1)) (lv' := [(3, .int (zI (ee + 1))), (0, .ref m0), (1, .int (nI q)), (2, .int (nI h))]) hx hb d_Mo_near_45 hl (k := 3) rfl (zI_add _ _) (by decide) rfl (fun ls hl => ?_)
      refine lv_goto (tgt := 3) hx hb d_Mo_near_48 (by decide) ?_
      exact ih (ee + 1) (by first | assumption | omega) (by first | assumption | omega) (by first | assumption | omega) (by omega) _ _ hP hD hS _ (lv_sub hl [1, 2, 3, 0] rfl)
    intro ee he1 he2 hno hfu H locs hP hD hS ls hl
    refine lv_iload_n hx hb d_Mo_near_3 rfl (lv_at hl 3 rfl) ?_
    refine lv_bipush (v := nI 10) hx hb d_Mo_near_4 (by decide) ?_
    refine xcz_gt (tgt := 51) (a := ee) (b := ((10 : Nat) : Int)) hx hb (rfl) (nI_zI _) (by omega) (by omega) (by omega) (by omega) d_Mo_near_6 (by decide) (fun c_6 => ?_) (fun c_6 => ?_)
    · refine lv_iconst (v := nI 0) hx hb d_Mo_near_51 (by decide) ?_
      exact xr_zret (by first | exact Or.inl rfl | exact Or.inr rfl | exact bN_v _) hx hb hr hlocks hP hD hS (Nat.le_of_ble_eq_true rfl) (Nat.le_of_ble_eq_true rfl) (⟨rfl, by rw [bN_f (fun w => by obtain ⟨e9, a1, a2, a3⟩ := w; exact hno e9 a1 (by omega) a3)]⟩) d_Mo_near_52
    · refine lv_iload_n hx hb d_Mo_near_9 rfl (lv_at hl 2 rfl) ?_
      refine lv_sipush (v := nI 4095) hx hb d_Mo_near_10 (by decide) ?_
      refine lv_iand hx hb d_Mo_near_13 ?_
      refine xi (y := nI (h % 2 ^ 12)) (pk_andN (by omega) 12 (by decide)) ?_
      refine lv_iload_n hx hb d_Mo_near_14 rfl (lv_at hl 3 rfl) ?_
      refine lv_iadd hx hb d_Mo_near_15 ?_
      refine xi (y := zI (((h % 2 ^ 12 : Nat) : Int) + ee)) (zadd_nz _ _) ?_
      refine xzz_lt (tgt := 45) (a := ((h % 2 ^ 12 : Nat) : Int) + ee) hx hb (by omega) (by omega) d_Mo_near_16 (by decide) (fun c_16 => ?_) (fun c_16 => ?_)
      · exact jn_45 ee (by first | assumption | omega) (by first | assumption | omega) (by exact fun e9 a1 a2 w => by rcases Int.lt_or_le e9 ee with v | v; (exact hno e9 a1 v w); (have e : e9 = ee := by omega); (rw [e] at w; exact absurd w.1 (by omega))) (by first | assumption | omega) _ _ hP hD hS _ (lv_sub hl [0, 1, 2, 3] rfl)
      · refine lv_iload_n hx hb d_Mo_near_19 rfl (lv_at hl 2 rfl) ?_
        refine lv_sipush (v := nI 4095) hx hb d_Mo_near_20 (by decide) ?_
        refine lv_iand hx hb d_Mo_near_23 ?_
        refine xi (y := nI (h % 2 ^ 12)) (pk_andN (by omega) 12 (by decide)) ?_
        refine lv_iload_n hx hb d_Mo_near_24 rfl (lv_at hl 3 rfl) ?_
        refine lv_iadd hx hb d_Mo_near_25 ?_
        refine xi (y := zI (((h % 2 ^ 12 : Nat) : Int) + ee)) (zadd_nz _ _) ?_
        refine lv_sipush (v := nI 4095) hx hb d_Mo_near_26 (by decide) ?_
        refine xcz_gt (tgt := 45) (a := ((h % 2 ^ 12 : Nat) : Int) + ee) (b := ((4095 : Nat) : Int)) hx hb (rfl) (nI_zI _) (by omega) (by omega) (by omega) (by omega) d_Mo_near_29 (by decide) (fun c_29 => ?_) (fun c_29 => ?_)
        · exact jn_45 ee (by first | assumption | omega) (by first | assumption | omega) (by exact fun e9 a1 a2 w => by rcases Int.lt_or_le e9 ee with v | v; (exact hno e9 a1 v w); (have e : e9 = ee := by omega); (rw [e] at w; exact absurd w.2.1 (by omega))) (by first | assumption | omega) _ _ hP hD hS _ (lv_sub hl [0, 1, 2, 3] rfl)
        · refine lv_aload_n hx hb d_Mo_near_32 rfl (lv_at hl 0 rfl) ?_
          refine lv_iload_n hx hb d_Mo_near_33 rfl (lv_at hl 1 rfl) ?_
          refine lv_iload_n hx hb d_Mo_near_34 rfl (lv_at hl 2 rfl) ?_
          refine lv_iload_n hx hb d_Mo_near_35 rfl (lv_at hl 3 rfl) ?_
          refine lv_iadd hx hb d_Mo_near_36 ?_
          refine xi (y := nI ((((h : Nat) : Int) + ee).toNat)) (zn_add (by omega)) ?_
          refine xcV_i (As := [.int (nI q), .int (nI ((((h : Nat) : Int) + ee).toNat))]) (rest := []) (wr := []) hx hb hml hown htw hK hA hl.1 hP hD hS (c_Mo_has l D K m0 th T hd r1 r2 r3 r4 cm r5 r6 sg r7 sn r8 r9 rh sz q ((((h : Nat) : Int) + ee).toNat) (by first | assumption | omega) (by first | assumption | omega) (by first | assumption | omega) (by omega)) [0, 1, 2] [] rfl rfl (by decide) (by decide) (by decide) 0 rfl k_Mo ml_Mo_95 w_Mo_has rfl ⟨by decide, by decide⟩ rfl (Nat.le_of_ble_eq_true rfl) ⟨by decide, by decide⟩ d_Mo_near_37 (fun r u H locs hpost hP hD hS => ?_)
          obtain ⟨rfl, rfl⟩ := hpost
          have hP : va_P D classes [(m0, .inr (8, [.int (nI th), .int (nI T), .int (nI hd), .ref r1, .ref r2, .ref r3, .ref r4, .int (nI cm), .ref r5, .ref r6, .int (nI sg), .ref r7, .int (nI sn), .ref r8, .ref r9])), (r8, .inl (K 0, 4680, .inl (nA rh))), (r9, .inl (K 0, 9, .inl (nA sz)))] H := hP
          have hD : va_D A [(m0, .inr (8, [.int (nI th), .int (nI T), .int (nI hd), .ref r1, .ref r2, .ref r3, .ref r4, .int (nI cm), .ref r5, .ref r6, .int (nI sg), .ref r7, .int (nI sn), .ref r8, .ref r9])), (r8, .inl (K 0, 4680, .inl (nA rh))), (r9, .inl (K 0, 9, .inl (nA sz)))] := hD
          refine xz_eq (tgt := 45) (a := bN (st_mem (sz q) (rw_ rh q) ((((h : Nat) : Int) + ee).toNat))) hx hb (by exact bN_31 _) d_Mo_near_40 (by decide) (fun c_40 => ?_) (fun c_40 => ?_)
          · exact jn_45 ee (by first | assumption | omega) (by first | assumption | omega) (by exact fun e9 a1 a2 w => by rcases Int.lt_or_le e9 ee with v | v; (exact hno e9 a1 v w); (have e : e9 = ee := by omega); (rw [e] at w; exact (bN_0.mp c_40) w.2.2)) (by first | assumption | omega) _ _ hP hD hS _ (lv_sub hl [0, 1, 2, 3] rfl)
          · refine lv_iconst (v := nI 1) hx hb d_Mo_near_43 (by decide) ?_
            exact xr_zret (by first | exact Or.inl rfl | exact Or.inr rfl | exact bN_v _) hx hb hr hlocks hP hD hS (Nat.le_of_ble_eq_true rfl) (Nat.le_of_ble_eq_true rfl) (⟨rfl, by rw [bN_t ⟨ee, he1, by omega, c_16, c_29, bN_pos.mp c_40⟩]⟩) d_Mo_near_44
set_option maxHeartbeats 4000000 in
set_option maxRecDepth 100000 in
theorem c_Mo_near (l : Launch) (D : va_G) (K : Nat → ClassId) (m0 : Nat) (th : Nat) (T : Nat) (hd : Nat) (r1 : Nat) (r2 : Nat) (r3 : Nat) (r4 : Nat) (cm : Nat) (r5 : Nat) (r6 : Nat) (sg : Nat) (r7 : Nat) (sn : Nat) (r8 : Nat) (r9 : Nat) (rh : Nat → Nat) (sz : Nat → Nat) (q : Nat) (h : Nat) (hq : q ≤ 8) (hz : sz q ≤ 520) (hbd : ∀ k, k < sz q → rh (520 * q + k) < 2 ^ 24) (hh : h < 2 ^ 24) : CI l y_Mo_near b_Mo_near 4 .boolean ({ frames := 1, cells := 0, slots := 0, locals := 23 } : Room) D K [.ref m0, .int (nI q), .int (nI h)] [(m0, .inr (8, [.int (nI th), .int (nI T), .int (nI hd), .ref r1, .ref r2, .ref r3, .ref r4, .int (nI cm), .ref r5, .ref r6, .int (nI sg), .ref r7, .int (nI sn), .ref r8, .ref r9])), (r8, .inl (K 0, 4680, .inl (nA rh))), (r9, .inl (K 0, 9, .inl (nA sz)))] (q_Mo_near K m0 th T hd r1 r2 r3 r4 cm r5 r6 sg r7 sn r8 r9 rh sz q h) := by
  refine CI_of (by decide) (Nat.le_of_ble_eq_true rfl) ?_
  intro p e s m below meth c A b0 ls hF hA hP hD hl
  have hF2 := hF
  obtain ⟨hx, hb, hr, hml, hown, htw, hK, hlocks, hname⟩ := hF
  have hS : va_S A s.heap s.heap [] := va_S.rf
  have hl : lv_has ls 4 [(0, .ref m0), (1, .int (nI q)), (2, .int (nI h))] := hl
  refine lv_bipush (v := zI (-10)) hx hb d_Mo_near_0 (by decide) ?_
  refine lv_istore_n (lv' := [(3, .int (zI (-10))), (0, .ref m0), (1, .int (nI q)), (2, .int (nI h))]) hx hb d_Mo_near_2 rfl hl (by decide) rfl (fun ls hl => ?_)
  exact lp_Mo_near_3 (l := l) m0 th T hd r1 r2 r3 r4 cm r5 r6 sg r7 sn r8 r9 rh sz q h hq hz hbd hh hF2 hA _ (-10) (by first | assumption | omega) (by first | assumption | omega) (by exact fun e9 a1 a2 => by omega) (Nat.lt_succ_self _) _ _ hP hD hS _ (lv_sub hl [1, 2, 3, 0] rfl)

abbrev q_Mo_drop_no (K : Nat → ClassId) (m0 : Nat) (th : Nat) (T : Nat) (hd : Nat) (r1 : Nat) (r2 : Nat) (r3 : Nat) (r4 : Nat) (cm : Nat) (r5 : Nat) (r6 : Nat) (sg : Nat) (r7 : Nat) (sn : Nat) (r8 : Nat) (r9 : Nat) : Int32 → va_W → Prop := fun r u => u = [(m0, .inr (8, [.int (nI 1), .int (nI T), .int (nI hd), .ref r1, .ref r2, .ref r3, .ref r4, .int (nI cm), .ref r5, .ref r6, .int (nI sg), .ref r7, .int (nI sn), .ref r8, .ref r9]))] ∧ r = nI 0
set_option maxHeartbeats 4000000 in
set_option maxRecDepth 100000 in
theorem c_Mo_drop_no (l : Launch) (D : va_G) (K : Nat → ClassId) (m0 : Nat) (th : Nat) (T : Nat) (hd : Nat) (r1 : Nat) (r2 : Nat) (r3 : Nat) (r4 : Nat) (cm : Nat) (r5 : Nat) (r6 : Nat) (sg : Nat) (r7 : Nat) (sn : Nat) (r8 : Nat) (r9 : Nat) (hsn : sn = 0) : CI l y_Mo_drop b_Mo_drop 1 .int ({ frames := 0, cells := 0, slots := 0, locals := 0 } : Room) D K [.ref m0] [(m0, .inr (8, [.int (nI th), .int (nI T), .int (nI hd), .ref r1, .ref r2, .ref r3, .ref r4, .int (nI cm), .ref r5, .ref r6, .int (nI sg), .ref r7, .int (nI sn), .ref r8, .ref r9]))] (q_Mo_drop_no K m0 th T hd r1 r2 r3 r4 cm r5 r6 sg r7 sn r8 r9) := by
  refine CI_of (by decide) (Nat.le_of_ble_eq_true rfl) ?_
  intro p e s m below meth c A b0 ls hF hA hP hD hl
  have hF2 := hF
  obtain ⟨hx, hb, hr, hml, hown, htw, hK, hlocks, hname⟩ := hF
  have hS : va_S A s.heap s.heap [] := va_S.rf
  have hl : lv_has ls 1 [(0, .ref m0)] := hl
  refine lv_aload_n hx hb d_Mo_drop_0 rfl (lv_at hl 0 rfl) ?_
  refine lv_aload_n hx hb d_Mo_drop_1 rfl (lv_at hl 0 rfl) ?_
  refine xg hx hb hown htw hK hP 0 12 rfl k_Mo (by decide) fl_Mo_73 rfl d_Mo_drop_2 ?_
  refine xz_ne (tgt := 12) (a := sn) hx hb (by omega) d_Mo_drop_5 (by decide) (fun c_5 => ?_) (fun c_5 => ?_)
  · omega
  · refine lv_iconst (v := nI 1) hx hb d_Mo_drop_8 (by decide) ?_
    refine lv_goto (tgt := 13) hx hb d_Mo_drop_9 (by decide) ?_
    refine xpt hx hb hown htw hK hP hD hS 0 0 rfl k_Mo (by decide) fl_Mo_38 rfl rfl rfl (Nat.le_of_ble_eq_true rfl) d_Mo_drop_13 (fun H locs hP hD hS => ?_)
    have hP : va_P D classes [(m0, .inr (8, [.int (nI 1), .int (nI T), .int (nI hd), .ref r1, .ref r2, .ref r3, .ref r4, .int (nI cm), .ref r5, .ref r6, .int (nI sg), .ref r7, .int (nI sn), .ref r8, .ref r9]))] H := hP
    have hD : va_D A [(m0, .inr (8, [.int (nI 1), .int (nI T), .int (nI hd), .ref r1, .ref r2, .ref r3, .ref r4, .int (nI cm), .ref r5, .ref r6, .int (nI sg), .ref r7, .int (nI sn), .ref r8, .ref r9]))] := hD
    refine lv_aload_n hx hb d_Mo_drop_16 rfl (lv_at hl 0 rfl) ?_
    refine xg hx hb hown htw hK hP 0 0 rfl k_Mo (by decide) fl_Mo_38 rfl d_Mo_drop_17 ?_
    refine xz_le (tgt := 25) (a := 1) hx hb (by omega) d_Mo_drop_20 (by decide) (fun c_20 => ?_) (fun c_20 => ?_)
    · omega
    · refine lv_iconst (v := nI 0) hx hb d_Mo_drop_23 (by decide) ?_
      exact xr_iret hx hb hr hlocks hP hD hS (Nat.le_of_ble_eq_true rfl) (Nat.le_of_ble_eq_true rfl) (⟨rfl, rfl⟩) d_Mo_drop_24

abbrev q_Mo_drop_ok (K : Nat → ClassId) (m0 : Nat) (th : Nat) (T : Nat) (hd : Nat) (r1 : Nat) (r2 : Nat) (r3 : Nat) (r4 : Nat) (cm : Nat) (r5 : Nat) (r6 : Nat) (sg : Nat) (r7 : Nat) (sn : Nat) (r8 : Nat) (r9 : Nat) : Int32 → va_W → Prop := fun r u => u = [(m0, .inr (8, [.int (nI 0), .int (nI T), .int (nI hd), .ref r1, .ref r2, .ref r3, .ref r4, .int (nI cm), .ref r5, .ref r6, .int (nI sg), .ref r7, .int (nI (sn - 1)), .ref r8, .ref r9]))] ∧ r = nI (sn - 1)
set_option maxHeartbeats 4000000 in
set_option maxRecDepth 100000 in
theorem c_Mo_drop_ok (l : Launch) (D : va_G) (K : Nat → ClassId) (m0 : Nat) (th : Nat) (T : Nat) (hd : Nat) (r1 : Nat) (r2 : Nat) (r3 : Nat) (r4 : Nat) (cm : Nat) (r5 : Nat) (r6 : Nat) (sg : Nat) (r7 : Nat) (sn : Nat) (r8 : Nat) (r9 : Nat) (hsn : 0 < sn) (hsn2 : sn ≤ 8) : CI l y_Mo_drop b_Mo_drop 1 .int ({ frames := 0, cells := 0, slots := 0, locals := 0 } : Room) D K [.ref m0] [(m0, .inr (8, [.int (nI th), .int (nI T), .int (nI hd), .ref r1, .ref r2, .ref r3, .ref r4, .int (nI cm), .ref r5, .ref r6, .int (nI sg), .ref r7, .int (nI sn), .ref r8, .ref r9]))] (q_Mo_drop_ok K m0 th T hd r1 r2 r3 r4 cm r5 r6 sg r7 sn r8 r9) := by
  refine CI_of (by decide) (Nat.le_of_ble_eq_true rfl) ?_
  intro p e s m below meth c A b0 ls hF hA hP hD hl
  have hF2 := hF
  obtain ⟨hx, hb, hr, hml, hown, htw, hK, hlocks, hname⟩ := hF
  have hS : va_S A s.heap s.heap [] := va_S.rf
  have hl : lv_has ls 1 [(0, .ref m0)] := hl
  refine lv_aload_n hx hb d_Mo_drop_0 rfl (lv_at hl 0 rfl) ?_
  refine lv_aload_n hx hb d_Mo_drop_1 rfl (lv_at hl 0 rfl) ?_
  refine xg hx hb hown htw hK hP 0 12 rfl k_Mo (by decide) fl_Mo_73 rfl d_Mo_drop_2 ?_
  refine xz_ne (tgt := 12) (a := sn) hx hb (by omega) d_Mo_drop_5 (by decide) (fun c_5 => ?_) (fun c_5 => ?_)
  · refine lv_iconst (v := nI 0) hx hb d_Mo_drop_12 (by decide) ?_
    refine xpt hx hb hown htw hK hP hD hS 0 0 rfl k_Mo (by decide) fl_Mo_38 rfl rfl rfl (Nat.le_of_ble_eq_true rfl) d_Mo_drop_13 (fun H locs hP hD hS => ?_)
    have hP : va_P D classes [(m0, .inr (8, [.int (nI 0), .int (nI T), .int (nI hd), .ref r1, .ref r2, .ref r3, .ref r4, .int (nI cm), .ref r5, .ref r6, .int (nI sg), .ref r7, .int (nI sn), .ref r8, .ref r9]))] H := hP
    have hD : va_D A [(m0, .inr (8, [.int (nI 0), .int (nI T), .int (nI hd), .ref r1, .ref r2, .ref r3, .ref r4, .int (nI cm), .ref r5, .ref r6, .int (nI sg), .ref r7, .int (nI sn), .ref r8, .ref r9]))] := hD
    refine lv_aload_n hx hb d_Mo_drop_16 rfl (lv_at hl 0 rfl) ?_
    refine xg hx hb hown htw hK hP 0 0 rfl k_Mo (by decide) fl_Mo_38 rfl d_Mo_drop_17 ?_
    refine xz_le (tgt := 25) (a := 0) hx hb (by omega) d_Mo_drop_20 (by decide) (fun c_20 => ?_) (fun c_20 => ?_)
    · refine lv_aload_n hx hb d_Mo_drop_25 rfl (lv_at hl 0 rfl) ?_
      refine lv_dup hx hb d_Mo_drop_26 rfl ?_
      refine xg hx hb hown htw hK hP 0 12 rfl k_Mo (by decide) fl_Mo_73 rfl d_Mo_drop_27 ?_
      refine lv_iconst (v := nI 1) hx hb d_Mo_drop_30 (by decide) ?_
      refine lv_isub hx hb d_Mo_drop_31 ?_
      refine xi (nI_sub (a := sn) (b := 1) (by omega)) ?_
      refine xpt hx hb hown htw hK hP hD hS 0 12 rfl k_Mo (by decide) fl_Mo_73 rfl rfl rfl (Nat.le_of_ble_eq_true rfl) d_Mo_drop_32 (fun H locs hP hD hS => ?_)
      have hP : va_P D classes [(m0, .inr (8, [.int (nI 0), .int (nI T), .int (nI hd), .ref r1, .ref r2, .ref r3, .ref r4, .int (nI cm), .ref r5, .ref r6, .int (nI sg), .ref r7, .int (nI (sn - 1)), .ref r8, .ref r9]))] H := hP
      have hD : va_D A [(m0, .inr (8, [.int (nI 0), .int (nI T), .int (nI hd), .ref r1, .ref r2, .ref r3, .ref r4, .int (nI cm), .ref r5, .ref r6, .int (nI sg), .ref r7, .int (nI (sn - 1)), .ref r8, .ref r9]))] := hD
      refine lv_aload_n hx hb d_Mo_drop_35 rfl (lv_at hl 0 rfl) ?_
      refine xg hx hb hown htw hK hP 0 12 rfl k_Mo (by decide) fl_Mo_73 rfl d_Mo_drop_36 ?_
      exact xr_iret hx hb hr hlocks hP hD hS (Nat.le_of_ble_eq_true rfl) (Nat.le_of_ble_eq_true rfl) (⟨rfl, rfl⟩) d_Mo_drop_39
    · omega
  · omega

abbrev q_Mo_follow_no (K : Nat → ClassId) (m0 : Nat) (th : Nat) (T : Nat) (hd : Nat) (r1 : Nat) (r2 : Nat) (r3 : Nat) (r4 : Nat) (cm : Nat) (r5 : Nat) (r6 : Nat) (sg : Nat) (r7 : Nat) (sn : Nat) (r8 : Nat) (r9 : Nat) (a : Int32) (b : Int32) (x : Int32) : Int32 → va_W → Prop := fun r u => u = [(m0, .inr (8, [.int (nI 2), .int (nI T), .int (nI hd), .ref r1, .ref r2, .ref r3, .ref r4, .int (nI cm), .ref r5, .ref r6, .int (nI sg), .ref r7, .int (nI sn), .ref r8, .ref r9]))] ∧ r = nI 0
set_option maxHeartbeats 4000000 in
set_option maxRecDepth 100000 in
theorem c_Mo_follow_no (l : Launch) (D : va_G) (K : Nat → ClassId) (m0 : Nat) (th : Nat) (T : Nat) (hd : Nat) (r1 : Nat) (r2 : Nat) (r3 : Nat) (r4 : Nat) (cm : Nat) (r5 : Nat) (r6 : Nat) (sg : Nat) (r7 : Nat) (sn : Nat) (r8 : Nat) (r9 : Nat) (a : Int32) (b : Int32) (x : Int32) (hsn : sn = 0) : CI l y_Mo_follow b_Mo_follow 5 .int ({ frames := 0, cells := 0, slots := 0, locals := 0 } : Room) D K [.ref m0, .int a, .int b, .int x] [(m0, .inr (8, [.int (nI th), .int (nI T), .int (nI hd), .ref r1, .ref r2, .ref r3, .ref r4, .int (nI cm), .ref r5, .ref r6, .int (nI sg), .ref r7, .int (nI sn), .ref r8, .ref r9]))] (q_Mo_follow_no K m0 th T hd r1 r2 r3 r4 cm r5 r6 sg r7 sn r8 r9 a b x) := by
  refine CI_of (by decide) (Nat.le_of_ble_eq_true rfl) ?_
  intro p e s m below meth c A b0 ls hF hA hP hD hl
  have hF2 := hF
  obtain ⟨hx, hb, hr, hml, hown, htw, hK, hlocks, hname⟩ := hF
  have hS : va_S A s.heap s.heap [] := va_S.rf
  have hl : lv_has ls 5 [(0, .ref m0), (1, .int a), (2, .int b), (3, .int x)] := hl
  refine lv_aload_n hx hb d_Mo_follow_0 rfl (lv_at hl 0 rfl) ?_
  refine lv_aload_n hx hb d_Mo_follow_1 rfl (lv_at hl 0 rfl) ?_
  refine xg hx hb hown htw hK hP 0 12 rfl k_Mo (by decide) fl_Mo_73 rfl d_Mo_follow_2 ?_
  refine xz_ne (tgt := 12) (a := sn) hx hb (by omega) d_Mo_follow_5 (by decide) (fun c_5 => ?_) (fun c_5 => ?_)
  · omega
  · refine lv_iconst (v := nI 2) hx hb d_Mo_follow_8 (by decide) ?_
    refine lv_goto (tgt := 28) hx hb d_Mo_follow_9 (by decide) ?_
    refine xpt hx hb hown htw hK hP hD hS 0 0 rfl k_Mo (by decide) fl_Mo_38 rfl rfl rfl (Nat.le_of_ble_eq_true rfl) d_Mo_follow_28 (fun H locs hP hD hS => ?_)
    have hP : va_P D classes [(m0, .inr (8, [.int (nI 2), .int (nI T), .int (nI hd), .ref r1, .ref r2, .ref r3, .ref r4, .int (nI cm), .ref r5, .ref r6, .int (nI sg), .ref r7, .int (nI sn), .ref r8, .ref r9]))] H := hP
    have hD : va_D A [(m0, .inr (8, [.int (nI 2), .int (nI T), .int (nI hd), .ref r1, .ref r2, .ref r3, .ref r4, .int (nI cm), .ref r5, .ref r6, .int (nI sg), .ref r7, .int (nI sn), .ref r8, .ref r9]))] := hD
    refine lv_aload_n hx hb d_Mo_follow_31 rfl (lv_at hl 0 rfl) ?_
    refine xg hx hb hown htw hK hP 0 0 rfl k_Mo (by decide) fl_Mo_38 rfl d_Mo_follow_32 ?_
    refine xz_le (tgt := 40) (a := 2) hx hb (by omega) d_Mo_follow_35 (by decide) (fun c_35 => ?_) (fun c_35 => ?_)
    · omega
    · refine lv_iconst (v := nI 0) hx hb d_Mo_follow_38 (by decide) ?_
      exact xr_iret hx hb hr hlocks hP hD hS (Nat.le_of_ble_eq_true rfl) (Nat.le_of_ble_eq_true rfl) (⟨rfl, rfl⟩) d_Mo_follow_39

abbrev q_Mo_follow_bad (K : Nat → ClassId) (m0 : Nat) (th : Nat) (T : Nat) (hd : Nat) (r1 : Nat) (r2 : Nat) (r3 : Nat) (r4 : Nat) (cm : Nat) (r5 : Nat) (r6 : Nat) (sg : Nat) (r7 : Nat) (sn : Nat) (r8 : Nat) (r9 : Nat) (a : Int32) (b : Int32) (x : Int32) : Int32 → va_W → Prop := fun r u => u = [(m0, .inr (8, [.int (nI 1), .int (nI T), .int (nI hd), .ref r1, .ref r2, .ref r3, .ref r4, .int (nI cm), .ref r5, .ref r6, .int (nI sg), .ref r7, .int (nI sn), .ref r8, .ref r9]))] ∧ r = nI 0
set_option maxHeartbeats 4000000 in
set_option maxRecDepth 100000 in
theorem c_Mo_follow_bad (l : Launch) (D : va_G) (K : Nat → ClassId) (m0 : Nat) (th : Nat) (T : Nat) (hd : Nat) (r1 : Nat) (r2 : Nat) (r3 : Nat) (r4 : Nat) (cm : Nat) (r5 : Nat) (r6 : Nat) (sg : Nat) (r7 : Nat) (sn : Nat) (r8 : Nat) (r9 : Nat) (a : Int32) (b : Int32) (x : Int32) (hsn : 0 < sn) (hsn2 : sn ≤ 8) (hbad : x < nI 1 ∨ nI 100 < x) : CI l y_Mo_follow b_Mo_follow 5 .int ({ frames := 0, cells := 0, slots := 0, locals := 0 } : Room) D K [.ref m0, .int a, .int b, .int x] [(m0, .inr (8, [.int (nI th), .int (nI T), .int (nI hd), .ref r1, .ref r2, .ref r3, .ref r4, .int (nI cm), .ref r5, .ref r6, .int (nI sg), .ref r7, .int (nI sn), .ref r8, .ref r9]))] (q_Mo_follow_bad K m0 th T hd r1 r2 r3 r4 cm r5 r6 sg r7 sn r8 r9 a b x) := by
  refine CI_of (by decide) (Nat.le_of_ble_eq_true rfl) ?_
  intro p e s m below meth c A b0 ls hF hA hP hD hl
  have hF2 := hF
  obtain ⟨hx, hb, hr, hml, hown, htw, hK, hlocks, hname⟩ := hF
  have hS : va_S A s.heap s.heap [] := va_S.rf
  have hl : lv_has ls 5 [(0, .ref m0), (1, .int a), (2, .int b), (3, .int x)] := hl
  refine lv_aload_n hx hb d_Mo_follow_0 rfl (lv_at hl 0 rfl) ?_
  refine lv_aload_n hx hb d_Mo_follow_1 rfl (lv_at hl 0 rfl) ?_
  refine xg hx hb hown htw hK hP 0 12 rfl k_Mo (by decide) fl_Mo_73 rfl d_Mo_follow_2 ?_
  refine xz_ne (tgt := 12) (a := sn) hx hb (by omega) d_Mo_follow_5 (by decide) (fun c_5 => ?_) (fun c_5 => ?_)
  · refine lv_iload_n hx hb d_Mo_follow_12 rfl (lv_at hl 3 rfl) ?_
    refine lv_iconst (v := nI 1) hx hb d_Mo_follow_13 (by decide) ?_
    refine lv_icmp_lt (tgt := 23) hx hb d_Mo_follow_14 (by decide) (fun c_14 => ?_) (fun c_14 => ?_)
    · refine lv_iconst (v := nI 1) hx hb d_Mo_follow_23 (by decide) ?_
      refine lv_goto (tgt := 28) hx hb d_Mo_follow_24 (by decide) ?_
      refine xpt hx hb hown htw hK hP hD hS 0 0 rfl k_Mo (by decide) fl_Mo_38 rfl rfl rfl (Nat.le_of_ble_eq_true rfl) d_Mo_follow_28 (fun H locs hP hD hS => ?_)
      have hP : va_P D classes [(m0, .inr (8, [.int (nI 1), .int (nI T), .int (nI hd), .ref r1, .ref r2, .ref r3, .ref r4, .int (nI cm), .ref r5, .ref r6, .int (nI sg), .ref r7, .int (nI sn), .ref r8, .ref r9]))] H := hP
      have hD : va_D A [(m0, .inr (8, [.int (nI 1), .int (nI T), .int (nI hd), .ref r1, .ref r2, .ref r3, .ref r4, .int (nI cm), .ref r5, .ref r6, .int (nI sg), .ref r7, .int (nI sn), .ref r8, .ref r9]))] := hD
      refine lv_aload_n hx hb d_Mo_follow_31 rfl (lv_at hl 0 rfl) ?_
      refine xg hx hb hown htw hK hP 0 0 rfl k_Mo (by decide) fl_Mo_38 rfl d_Mo_follow_32 ?_
      refine xz_le (tgt := 40) (a := 1) hx hb (by omega) d_Mo_follow_35 (by decide) (fun c_35 => ?_) (fun c_35 => ?_)
      · omega
      · refine lv_iconst (v := nI 0) hx hb d_Mo_follow_38 (by decide) ?_
        exact xr_iret hx hb hr hlocks hP hD hS (Nat.le_of_ble_eq_true rfl) (Nat.le_of_ble_eq_true rfl) (⟨rfl, rfl⟩) d_Mo_follow_39
    · refine lv_iload_n hx hb d_Mo_follow_17 rfl (lv_at hl 3 rfl) ?_
      refine lv_bipush (v := nI 100) hx hb d_Mo_follow_18 (by decide) ?_
      refine lv_icmp_le (tgt := 27) hx hb d_Mo_follow_20 (by decide) (fun c_20 => ?_) (fun c_20 => ?_)
      · exact absurd hbad (fun q => q.elim c_14 (fun q => absurd c_20 (Int32.not_le.mpr q)))
      · refine lv_iconst (v := nI 1) hx hb d_Mo_follow_23 (by decide) ?_
        refine lv_goto (tgt := 28) hx hb d_Mo_follow_24 (by decide) ?_
        refine xpt hx hb hown htw hK hP hD hS 0 0 rfl k_Mo (by decide) fl_Mo_38 rfl rfl rfl (Nat.le_of_ble_eq_true rfl) d_Mo_follow_28 (fun H locs hP hD hS => ?_)
        have hP : va_P D classes [(m0, .inr (8, [.int (nI 1), .int (nI T), .int (nI hd), .ref r1, .ref r2, .ref r3, .ref r4, .int (nI cm), .ref r5, .ref r6, .int (nI sg), .ref r7, .int (nI sn), .ref r8, .ref r9]))] H := hP
        have hD : va_D A [(m0, .inr (8, [.int (nI 1), .int (nI T), .int (nI hd), .ref r1, .ref r2, .ref r3, .ref r4, .int (nI cm), .ref r5, .ref r6, .int (nI sg), .ref r7, .int (nI sn), .ref r8, .ref r9]))] := hD
        refine lv_aload_n hx hb d_Mo_follow_31 rfl (lv_at hl 0 rfl) ?_
        refine xg hx hb hown htw hK hP 0 0 rfl k_Mo (by decide) fl_Mo_38 rfl d_Mo_follow_32 ?_
        refine xz_le (tgt := 40) (a := 1) hx hb (by omega) d_Mo_follow_35 (by decide) (fun c_35 => ?_) (fun c_35 => ?_)
        · omega
        · refine lv_iconst (v := nI 0) hx hb d_Mo_follow_38 (by decide) ?_
          exact xr_iret hx hb hr hlocks hP hD hS (Nat.le_of_ble_eq_true rfl) (Nat.le_of_ble_eq_true rfl) (⟨rfl, rfl⟩) d_Mo_follow_39
  · omega

abbrev q_Mo_follow_ok (K : Nat → ClassId) (m0 : Nat) (th : Nat) (T : Nat) (hd : Nat) (r1 : Nat) (r2 : Nat) (r3 : Nat) (r4 : Nat) (cm : Nat) (r5 : Nat) (r6 : Nat) (sg : Nat) (r7 : Nat) (sn : Nat) (r8 : Nat) (r9 : Nat) (rd : Nat → Nat) (rs : Nat → Nat) (ru : Nat → Int32) (rl : Nat → Int32) (tkn : Nat → Nat) (rh : Nat → Nat) (sz : Nat → Nat) (a : Int32) (b : Int32) (n : Nat) : Int32 → va_W → Prop := fun r u => ∃ rh' : Nat → Nat, ∃ z' : Nat, u = [(m0, .inr (8, [.int (nI 0), .int (nI T), .int (nI hd), .ref r1, .ref r2, .ref r3, .ref r4, .int (nI cm), .ref r5, .ref r6, .int (nI sg), .ref r7, .int (nI sn), .ref r8, .ref r9])), (r1, .inl (K 0, 520, .inl (nA rd))), (r2, .inl (K 0, 520, .inl (nA rs))), (r3, .inl (K 0, 520, .inl ru)), (r4, .inl (K 0, 520, .inl rl)), (r6, .inl (K 2, 600, .inl (nA tkn))), (r8, .inl (K 0, 4680, .inl (nA rh'))), (r9, .inl (K 0, 9, .inl (nA (va_up (va_up sz 8 z') (sn - 1) z'))))] ∧ r = nI z' ∧ (st_inc z' (rw_ rh' (sn - 1))) ∧ (∀ v, st_mem z' (rw_ rh' (sn - 1)) v ↔ (fun v => ∃ i9, i9 < hd ∧ (tkn (rd i9) = 0 ∧ (∀ k9, k9 < 8 → byA (ru i9) (rl i9) k9 = byA a b k9) ∧ n ≤ rs i9 % 4096 ∧ st_mem (sz (sn - 1)) (rw_ rh (sn - 1)) (16384 * rd i9 + rs i9 - n)) ∧ 16384 * rd i9 + rs i9 = v) v) ∧ (∀ j, j < 4160 → (j < 520 * (sn - 1) ∨ 520 * (sn - 1) + 520 ≤ j) → rh' j = rh j) ∧ (z' ≤ hd)
set_option maxHeartbeats 4000000 in
set_option maxRecDepth 100000 in
theorem lp_Mo_follow_ok_51 {p : Program} {l : Launch} {e : Env} {s : State} {m : MethodId} {below : List Frame} {meth : Method} {c : Code} {A : Nat → Prop} {D : va_G} {K : Nat → ClassId} (m0 : Nat) (th : Nat) (T : Nat) (hd : Nat) (r1 : Nat) (r2 : Nat) (r3 : Nat) (r4 : Nat) (cm : Nat) (r5 : Nat) (r6 : Nat) (sg : Nat) (r7 : Nat) (sn : Nat) (r8 : Nat) (r9 : Nat) (rd : Nat → Nat) (rs : Nat → Nat) (ru : Nat → Int32) (rl : Nat → Int32) (tkn : Nat → Nat) (rh : Nat → Nat) (sz : Nat → Nat) (a : Int32) (b : Int32) (n : Nat) (hhd : hd < 520) (hrd : ∀ i, i < hd → rd i < 600 ∧ tkn (rd i) ≤ 1) (hrs : ∀ i, i < hd → rs i < 16384) (hsn : 0 < sn) (hsn2 : sn ≤ 8) (hn1 : 1 ≤ n) (hn2 : n ≤ 100) (hsz : ∀ q, q < sn → sz q ≤ 520) (hbd : ∀ q k, q < sn → k < sz q → rh (520 * q + k) < 2 ^ 24) (hF : Fx p s m meth c y_Mo_follow b_Mo_follow 5 (some .int) D K) {b0 : Nat} (hA : AS K s A b0) : ∀ fuel : Nat, ∀ k : Nat, ∀ gg : Nat → Nat, ∀ zz : Nat, (k ≤ hd) → (rf_fill rh gg 8 zz (fun v => ∃ i9, i9 < k ∧ (tkn (rd i9) = 0 ∧ (∀ k9, k9 < 8 → byA (ru i9) (rl i9) k9 = byA a b k9) ∧ n ≤ rs i9 % 4096 ∧ st_mem (sz (sn - 1)) (rw_ rh (sn - 1)) (16384 * rd i9 + rs i9 - n)) ∧ 16384 * rd i9 + rs i9 = v)) → (zz ≤ k) → hd - k < fuel → ∀ (H : Heap) (locs : List Loc), va_P D classes [(m0, .inr (8, [.int (nI 0), .int (nI T), .int (nI hd), .ref r1, .ref r2, .ref r3, .ref r4, .int (nI cm), .ref r5, .ref r6, .int (nI sg), .ref r7, .int (nI sn), .ref r8, .ref r9])), (r1, .inl (K 0, 520, .inl (nA rd))), (r2, .inl (K 0, 520, .inl (nA rs))), (r3, .inl (K 0, 520, .inl ru)), (r4, .inl (K 0, 520, .inl rl)), (r6, .inl (K 2, 600, .inl (nA tkn))), (r8, .inl (K 0, 4680, .inl (nA gg))), (r9, .inl (K 0, 9, .inl (nA (va_up sz 8 zz))))] H → va_D A [(m0, .inr (8, [.int (nI 0), .int (nI T), .int (nI hd), .ref r1, .ref r2, .ref r3, .ref r4, .int (nI cm), .ref r5, .ref r6, .int (nI sg), .ref r7, .int (nI sn), .ref r8, .ref r9])), (r1, .inl (K 0, 520, .inl (nA rd))), (r2, .inl (K 0, 520, .inl (nA rs))), (r3, .inl (K 0, 520, .inl ru)), (r4, .inl (K 0, 520, .inl rl)), (r6, .inl (K 2, 600, .inl (nA tkn))), (r8, .inl (K 0, 4680, .inl (nA gg))), (r9, .inl (K 0, 9, .inl (nA (va_up sz 8 zz))))] → va_S A s.heap H locs → ∀ ls : Array Slot, lv_has ls 5 [(0, .ref m0), (1, .int a), (2, .int b), (3, .int (nI n)), (4, .int (nI k))] → W p l e ({ frames := 2, cells := 0, slots := 0, locals := 47 } : Room) s m ([.ref m0, .int a, .int b, .int (nI n)] : List Value).toArray below meth c H locs 0 0 (MQ below (va_Qi (q_Mo_follow_ok K m0 th T hd r1 r2 r3 r4 cm r5 r6 sg r7 sn r8 r9 rd rs ru rl tkn rh sz a b n) (fun u t => va_P D classes u t.heap ∧ va_D A u) A) ([.ref m0, .int a, .int b, .int (nI n)] : List Value).toArray s 0 0 A) (F0 m 51 ls []) := by
  have hF2 := hF
  obtain ⟨hx, hb, hr, hml, hown, htw, hK, hlocks, hname⟩ := hF
  intro fuel
  induction fuel with
  | zero => intros; omega
  | succ fuel ih =>
    have jn_130 : ∀ k : Nat, ∀ gg : Nat → Nat, ∀ zz : Nat, (k < hd) → (rf_fill rh gg 8 zz (fun v => ∃ i9, i9 < (k + 1) ∧ (tkn (rd i9) = 0 ∧ (∀ k9, k9 < 8 → byA (ru i9) (rl i9) k9 = byA a b k9) ∧ n ≤ rs i9 % 4096 ∧ st_mem (sz (sn - 1)) (rw_ rh (sn - 1)) (16384 * rd i9 + rs i9 - n)) ∧ 16384 * rd i9 + rs i9 = v)) → (zz ≤ k + 1) → (hd - k < fuel + 1) → ∀ (H : Heap) (locs : List Loc), va_P D classes [(m0, .inr (8, [.int (nI 0), .int (nI T), .int (nI hd), .ref r1, .ref r2, .ref r3, .ref r4, .int (nI cm), .ref r5, .ref r6, .int (nI sg), .ref r7, .int (nI sn), .ref r8, .ref r9])), (r1, .inl (K 0, 520, .inl (nA rd))), (r2, .inl (K 0, 520, .inl (nA rs))), (r3, .inl (K 0, 520, .inl ru)), (r4, .inl (K 0, 520, .inl rl)), (r6, .inl (K 2, 600, .inl (nA tkn))), (r8, .inl (K 0, 4680, .inl (nA gg))), (r9, .inl (K 0, 9, .inl (nA (va_up sz 8 zz))))] H → va_D A [(m0, .inr (8, [.int (nI 0), .int (nI T), .int (nI hd), .ref r1, .ref r2, .ref r3, .ref r4, .int (nI cm), .ref r5, .ref r6, .int (nI sg), .ref r7, .int (nI sn), .ref r8, .ref r9])), (r1, .inl (K 0, 520, .inl (nA rd))), (r2, .inl (K 0, 520, .inl (nA rs))), (r3, .inl (K 0, 520, .inl ru)), (r4, .inl (K 0, 520, .inl rl)), (r6, .inl (K 2, 600, .inl (nA tkn))), (r8, .inl (K 0, 4680, .inl (nA gg))), (r9, .inl (K 0, 9, .inl (nA (va_up sz 8 zz))))] → va_S A s.heap H locs → ∀ ls : Array Slot, lv_has ls 5 [(0, .ref m0), (1, .int a), (2, .int b), (3, .int (nI n)), (4, .int (nI k))] → W p l e ({ frames := 2, cells := 0, slots := 0, locals := 47 } : Room) s m ([.ref m0, .int a, .int b, .int (nI n)] : List Value).toArray below meth c H locs 0 0 (MQ below (va_Qi (q_Mo_follow_ok K m0 th T hd r1 r2 r3 r4 cm r5 r6 sg r7 sn r8 r9 rd rs ru rl tkn rh sz a b n) (fun u t => va_P D classes u t.heap ∧ va_D A u) A) ([.ref m0, .int a, .int b, .int (nI n)] : List Value).toArray s 0 0 A) (F0 m 130 ls []) := by
      intro k gg zz hk1 hfl hzk hfu H locs hP hD hS ls hl
      refine lv_iinc (v := nI (k + 1)) (lv' := [(4, .int (nI (k + 1))), (0, .ref m0), (1, .int a), (2, .int b), (3, .int (nI n))]) hx hb d_Mo_follow_130 hl (k := 4) rfl (inc_nI _ _) (by decide) rfl (fun ls hl => ?_)
      refine lv_goto (tgt := 51) hx hb d_Mo_follow_133 (by decide) ?_
      exact ih (k + 1) gg zz (by first | assumption | omega) (by first | assumption | omega) (by first | assumption | omega) (by omega) _ _ hP hD hS _ (lv_sub hl [1, 2, 3, 4, 0] rfl)
    intro k gg zz hk1 hfl hzk hfu H locs hP hD hS ls hl
    refine lv_iload hx hb d_Mo_follow_51 (lv_at hl 4 rfl) ?_
    refine lv_aload_n hx hb d_Mo_follow_53 rfl (lv_at hl 0 rfl) ?_
    refine xg hx hb hown htw hK hP 0 2 rfl k_Mo (by decide) fl_Mo_42 rfl d_Mo_follow_54 ?_
    refine xc_ge (tgt := 136) (a := k) (b := hd) hx hb (by omega) (by omega) d_Mo_follow_57 (by decide) (fun c_57 => ?_) (fun c_57 => ?_)
    · have hk2 : hd = k := by omega
      subst hk2
      refine lv_aload_n hx hb d_Mo_follow_136 rfl (lv_at hl 0 rfl) ?_
      refine lv_aload_n hx hb d_Mo_follow_137 rfl (lv_at hl 0 rfl) ?_
      refine xg hx hb hown htw hK hP 0 12 rfl k_Mo (by decide) fl_Mo_73 rfl d_Mo_follow_138 ?_
      refine lv_iconst (v := nI 1) hx hb d_Mo_follow_141 (by decide) ?_
      refine lv_isub hx hb d_Mo_follow_142 ?_
      refine xi (nI_sub (a := sn) (b := 1) (by omega)) ?_
      refine xcV_i (As := [.int (nI (sn - 1))]) (rest := []) (wr := [(r1, .inl (K 0, 520, .inl (nA rd))), (r2, .inl (K 0, 520, .inl (nA rs))), (r3, .inl (K 0, 520, .inl ru)), (r4, .inl (K 0, 520, .inl rl)), (r6, .inl (K 2, 600, .inl (nA tkn)))]) hx hb hml hown htw hK hA hl.1 hP hD hS (c_Mo_place l D K m0 0 T hd r1 r2 r3 r4 cm r5 r6 sg r7 sn r8 r9 gg (va_up sz 8 zz) (sn - 1) (by omega) (by rw [va_up_self]; omega)) [0, 6, 7] [1, 2, 3, 4, 5] rfl rfl (by decide) (by decide) (by decide) 0 rfl k_Mo ml_Mo_99 w_Mo_place rfl ⟨by decide, by decide⟩ rfl (Nat.le_of_ble_eq_true rfl) ⟨by decide, by decide⟩ d_Mo_follow_143 (fun r u H locs hpost hP hD hS => ?_)
      obtain ⟨rh'_143, rfl, rfl, hcp_143, hot_143⟩ := hpost
      have hP : va_P D classes [(r1, .inl (K 0, 520, .inl (nA rd))), (r2, .inl (K 0, 520, .inl (nA rs))), (r3, .inl (K 0, 520, .inl ru)), (r4, .inl (K 0, 520, .inl rl)), (r6, .inl (K 2, 600, .inl (nA tkn))), (m0, .inr (8, [.int (nI 0), .int (nI T), .int (nI hd), .ref r1, .ref r2, .ref r3, .ref r4, .int (nI cm), .ref r5, .ref r6, .int (nI sg), .ref r7, .int (nI sn), .ref r8, .ref r9])), (r8, .inl (K 0, 4680, .inl (nA rh'_143))), (r9, .inl (K 0, 9, .inl (nA (va_up (va_up sz 8 zz) (sn - 1) ((va_up sz 8 zz) 8)))))] H := hP
      have hD : va_D A [(r1, .inl (K 0, 520, .inl (nA rd))), (r2, .inl (K 0, 520, .inl (nA rs))), (r3, .inl (K 0, 520, .inl ru)), (r4, .inl (K 0, 520, .inl rl)), (r6, .inl (K 2, 600, .inl (nA tkn))), (m0, .inr (8, [.int (nI 0), .int (nI T), .int (nI hd), .ref r1, .ref r2, .ref r3, .ref r4, .int (nI cm), .ref r5, .ref r6, .int (nI sg), .ref r7, .int (nI sn), .ref r8, .ref r9])), (r8, .inl (K 0, 4680, .inl (nA rh'_143))), (r9, .inl (K 0, 9, .inl (nA (va_up (va_up sz 8 zz) (sn - 1) ((va_up sz 8 zz) 8)))))] := hD
      refine xi (y := nI zz) (congrArg nI (va_up_self _ _ _)) ?_
      have hP : va_P D classes [(r1, .inl (K 0, 520, .inl (nA rd))), (r2, .inl (K 0, 520, .inl (nA rs))), (r3, .inl (K 0, 520, .inl ru)), (r4, .inl (K 0, 520, .inl rl)), (r6, .inl (K 2, 600, .inl (nA tkn))), (m0, .inr (8, [.int (nI 0), .int (nI T), .int (nI hd), .ref r1, .ref r2, .ref r3, .ref r4, .int (nI cm), .ref r5, .ref r6, .int (nI sg), .ref r7, .int (nI sn), .ref r8, .ref r9])), (r8, .inl (K 0, 4680, .inl (nA rh'_143))), (r9, .inl (K 0, 9, .inl (nA (va_up (va_up sz 8 zz) (sn - 1) zz))))] H := by rw [show va_up (va_up sz 8 zz) (sn - 1) zz = va_up (va_up sz 8 zz) (sn - 1) ((va_up sz 8 zz) 8) by rw [va_up_self]]; exact hP
      have hD : va_D A [(r1, .inl (K 0, 520, .inl (nA rd))), (r2, .inl (K 0, 520, .inl (nA rs))), (r3, .inl (K 0, 520, .inl ru)), (r4, .inl (K 0, 520, .inl rl)), (r6, .inl (K 2, 600, .inl (nA tkn))), (m0, .inr (8, [.int (nI 0), .int (nI T), .int (nI hd), .ref r1, .ref r2, .ref r3, .ref r4, .int (nI cm), .ref r5, .ref r6, .int (nI sg), .ref r7, .int (nI sn), .ref r8, .ref r9])), (r8, .inl (K 0, 4680, .inl (nA rh'_143))), (r9, .inl (K 0, 9, .inl (nA (va_up (va_up sz 8 zz) (sn - 1) zz))))] := by rw [show va_up (va_up sz 8 zz) (sn - 1) zz = va_up (va_up sz 8 zz) (sn - 1) ((va_up sz 8 zz) 8) by rw [va_up_self]]; exact hD
      obtain ⟨hP, hD⟩ := xp (ws' := [(m0, .inr (8, [.int (nI 0), .int (nI T), .int (nI hd), .ref r1, .ref r2, .ref r3, .ref r4, .int (nI cm), .ref r5, .ref r6, .int (nI sg), .ref r7, .int (nI sn), .ref r8, .ref r9])), (r1, .inl (K 0, 520, .inl (nA rd))), (r2, .inl (K 0, 520, .inl (nA rs))), (r3, .inl (K 0, 520, .inl ru)), (r4, .inl (K 0, 520, .inl rl)), (r6, .inl (K 2, 600, .inl (nA tkn))), (r8, .inl (K 0, 4680, .inl (nA rh'_143))), (r9, .inl (K 0, 9, .inl (nA (va_up (va_up sz 8 zz) (sn - 1) zz))))]) hP hD [5, 0, 1, 2, 3, 4, 6, 7] (by decide) rfl
      exact xr_iret hx hb hr hlocks hP hD hS (Nat.le_of_ble_eq_true rfl) (Nat.le_of_ble_eq_true rfl) (⟨_, _, rfl, rfl, (placed hfl (by omega) (fun i hi => hcp_143 i (by rw [va_up_self]; exact hi)) hot_143).1, (placed hfl (by omega) (fun i hi => hcp_143 i (by rw [va_up_self]; exact hi)) hot_143).2.1, (placed hfl (by omega) (fun i hi => hcp_143 i (by rw [va_up_self]; exact hi)) hot_143).2.2, hzk⟩) d_Mo_follow_146
    · refine lv_aload_n hx hb d_Mo_follow_60 rfl (lv_at hl 0 rfl) ?_
      refine lv_iload hx hb d_Mo_follow_61 (lv_at hl 4 rfl) ?_
      refine xcV_i (As := [.int (nI k)]) (rest := []) (wr := [(r2, .inl (K 0, 520, .inl (nA rs))), (r3, .inl (K 0, 520, .inl ru)), (r4, .inl (K 0, 520, .inl rl)), (r8, .inl (K 0, 4680, .inl (nA gg))), (r9, .inl (K 0, 9, .inl (nA (va_up sz 8 zz))))]) hx hb hml hown htw hK hA hl.1 hP hD hS (c_Mo_found l D K m0 0 T hd r1 r2 r3 r4 cm r5 r6 sg r7 sn r8 r9 rd tkn k (by first | assumption | omega) (by first | assumption | omega) (by exact fun w => hrd k w)) [0, 1, 5] [2, 3, 4, 6, 7] rfl rfl (by decide) (by decide) (by decide) 0 rfl k_Mo ml_Mo_76 w_Mo_found rfl ⟨by decide, by decide⟩ rfl (Nat.le_of_ble_eq_true rfl) ⟨by decide, by decide⟩ d_Mo_follow_63 (fun r u H locs hpost hP hD hS => ?_)
      obtain ⟨rfl, rfl⟩ := hpost
      have hP : va_P D classes [(r2, .inl (K 0, 520, .inl (nA rs))), (r3, .inl (K 0, 520, .inl ru)), (r4, .inl (K 0, 520, .inl rl)), (r8, .inl (K 0, 4680, .inl (nA gg))), (r9, .inl (K 0, 9, .inl (nA (va_up sz 8 zz)))), (m0, .inr (8, [.int (nI 0), .int (nI T), .int (nI hd), .ref r1, .ref r2, .ref r3, .ref r4, .int (nI cm), .ref r5, .ref r6, .int (nI sg), .ref r7, .int (nI sn), .ref r8, .ref r9])), (r1, .inl (K 0, 520, .inl (nA rd))), (r6, .inl (K 2, 600, .inl (nA tkn)))] H := hP
      have hD : va_D A [(r2, .inl (K 0, 520, .inl (nA rs))), (r3, .inl (K 0, 520, .inl ru)), (r4, .inl (K 0, 520, .inl rl)), (r8, .inl (K 0, 4680, .inl (nA gg))), (r9, .inl (K 0, 9, .inl (nA (va_up sz 8 zz)))), (m0, .inr (8, [.int (nI 0), .int (nI T), .int (nI hd), .ref r1, .ref r2, .ref r3, .ref r4, .int (nI cm), .ref r5, .ref r6, .int (nI sg), .ref r7, .int (nI sn), .ref r8, .ref r9])), (r1, .inl (K 0, 520, .inl (nA rd))), (r6, .inl (K 2, 600, .inl (nA tkn)))] := hD
      refine xz_eq (tgt := 130) (a := bN (k < hd ∧ tkn (rd k) = 0)) hx hb (by exact bN_31 _) d_Mo_follow_66 (by decide) (fun c_66 => ?_) (fun c_66 => ?_)
      · obtain ⟨hP9, hD9⟩ := xp (ws' := [(m0, .inr (8, [.int (nI 0), .int (nI T), .int (nI hd), .ref r1, .ref r2, .ref r3, .ref r4, .int (nI cm), .ref r5, .ref r6, .int (nI sg), .ref r7, .int (nI sn), .ref r8, .ref r9])), (r1, .inl (K 0, 520, .inl (nA rd))), (r2, .inl (K 0, 520, .inl (nA rs))), (r3, .inl (K 0, 520, .inl ru)), (r4, .inl (K 0, 520, .inl rl)), (r6, .inl (K 2, 600, .inl (nA tkn))), (r8, .inl (K 0, 4680, .inl (nA gg))), (r9, .inl (K 0, 9, .inl (nA (va_up sz 8 zz))))]) hP hD [5, 6, 0, 1, 2, 7, 3, 4] (by decide) rfl
        exact jn_130 k gg zz (by first | assumption | omega) (by exact rf_fill_congr hfl (sel_n (fun w => (bN_0.mp c_66) ⟨c_57, w.1⟩))) (by first | assumption | omega) (by first | assumption | omega) _ _ hP9 hD9 hS _ (lv_sub hl [0, 1, 2, 3, 4] rfl)
      · refine lv_aload_n hx hb d_Mo_follow_69 rfl (lv_at hl 0 rfl) ?_
        refine lv_iload hx hb d_Mo_follow_70 (lv_at hl 4 rfl) ?_
        refine lv_iload_n hx hb d_Mo_follow_72 rfl (lv_at hl 1 rfl) ?_
        refine lv_iload_n hx hb d_Mo_follow_73 rfl (lv_at hl 2 rfl) ?_
        refine lv_bipush (v := nI 8) hx hb d_Mo_follow_74 (by decide) ?_
        refine xcV_i (As := [.int (nI k), .int a, .int b, .int (nI 8)]) (rest := []) (wr := [(r2, .inl (K 0, 520, .inl (nA rs))), (r8, .inl (K 0, 4680, .inl (nA gg))), (r9, .inl (K 0, 9, .inl (nA (va_up sz 8 zz)))), (r1, .inl (K 0, 520, .inl (nA rd))), (r6, .inl (K 2, 600, .inl (nA tkn)))]) hx hb hml hown htw hK hA hl.1 hP hD hS (c_Mo_alike l D K m0 0 T hd r1 r2 r3 r4 cm r5 r6 sg r7 sn r8 r9 ru rl k a b 8 (by first | assumption | omega) (by first | assumption | omega)) [5, 1, 2] [0, 3, 4, 6, 7] rfl rfl (by decide) (by decide) (by decide) 0 rfl k_Mo ml_Mo_80 w_Mo_alike rfl ⟨by decide, by decide⟩ rfl (Nat.le_of_ble_eq_true rfl) ⟨by decide, by decide⟩ d_Mo_follow_76 (fun r u H locs hpost hP hD hS => ?_)
        obtain ⟨rfl, rfl⟩ := hpost
        have hP : va_P D classes [(r2, .inl (K 0, 520, .inl (nA rs))), (r8, .inl (K 0, 4680, .inl (nA gg))), (r9, .inl (K 0, 9, .inl (nA (va_up sz 8 zz)))), (r1, .inl (K 0, 520, .inl (nA rd))), (r6, .inl (K 2, 600, .inl (nA tkn))), (m0, .inr (8, [.int (nI 0), .int (nI T), .int (nI hd), .ref r1, .ref r2, .ref r3, .ref r4, .int (nI cm), .ref r5, .ref r6, .int (nI sg), .ref r7, .int (nI sn), .ref r8, .ref r9])), (r3, .inl (K 0, 520, .inl ru)), (r4, .inl (K 0, 520, .inl rl))] H := hP
        have hD : va_D A [(r2, .inl (K 0, 520, .inl (nA rs))), (r8, .inl (K 0, 4680, .inl (nA gg))), (r9, .inl (K 0, 9, .inl (nA (va_up sz 8 zz)))), (r1, .inl (K 0, 520, .inl (nA rd))), (r6, .inl (K 2, 600, .inl (nA tkn))), (m0, .inr (8, [.int (nI 0), .int (nI T), .int (nI hd), .ref r1, .ref r2, .ref r3, .ref r4, .int (nI cm), .ref r5, .ref r6, .int (nI sg), .ref r7, .int (nI sn), .ref r8, .ref r9])), (r3, .inl (K 0, 520, .inl ru)), (r4, .inl (K 0, 520, .inl rl))] := hD
        refine xz_eq (tgt := 130) (a := bN (∀ k_9, k_9 < 8 → byA (ru k) (rl k) k_9 = byA a b k_9)) hx hb (by exact bN_31 _) d_Mo_follow_79 (by decide) (fun c_79 => ?_) (fun c_79 => ?_)
        · obtain ⟨hP9, hD9⟩ := xp (ws' := [(m0, .inr (8, [.int (nI 0), .int (nI T), .int (nI hd), .ref r1, .ref r2, .ref r3, .ref r4, .int (nI cm), .ref r5, .ref r6, .int (nI sg), .ref r7, .int (nI sn), .ref r8, .ref r9])), (r1, .inl (K 0, 520, .inl (nA rd))), (r2, .inl (K 0, 520, .inl (nA rs))), (r3, .inl (K 0, 520, .inl ru)), (r4, .inl (K 0, 520, .inl rl)), (r6, .inl (K 2, 600, .inl (nA tkn))), (r8, .inl (K 0, 4680, .inl (nA gg))), (r9, .inl (K 0, 9, .inl (nA (va_up sz 8 zz))))]) hP hD [5, 3, 0, 6, 7, 4, 1, 2] (by decide) rfl
          exact jn_130 k gg zz (by first | assumption | omega) (by exact rf_fill_congr hfl (sel_n (fun w => (bN_0.mp c_79) w.2.1))) (by first | assumption | omega) (by first | assumption | omega) _ _ hP9 hD9 hS _ (lv_sub hl [0, 1, 2, 3, 4] rfl)
        · refine lv_aload_n hx hb d_Mo_follow_82 rfl (lv_at hl 0 rfl) ?_
          refine xg hx hb hown htw hK hP 5 4 rfl k_Mo (by decide) fl_Mo_13 rfl d_Mo_follow_83 ?_
          refine lv_iload hx hb d_Mo_follow_86 (lv_at hl 4 rfl) ?_
          refine xald_i hx hb hK hP 0 rfl (by omega) (by omega) d_Mo_follow_88 ?_
          refine xi (y := nI (rs k)) rfl ?_
          refine lv_sipush (v := nI 4096) hx hb d_Mo_follow_89 (by decide) ?_
          refine lv_irem hx hb d_Mo_follow_92 (by decide) ?_
          refine xi (y := nI (rs k % 4096)) (pk_rem (by have := hrs k (by omega); omega) (by decide) (by decide)) ?_
          refine lv_iload_n hx hb d_Mo_follow_93 rfl (lv_at hl 3 rfl) ?_
          refine xc_lt (tgt := 130) (a := rs k % 4096) (b := n) hx hb (by have := Nat.mod_lt (rs k) (show 0 < 4096 by decide); omega) (by omega) d_Mo_follow_94 (by decide) (fun c_94 => ?_) (fun c_94 => ?_)
          · obtain ⟨hP9, hD9⟩ := xp (ws' := [(m0, .inr (8, [.int (nI 0), .int (nI T), .int (nI hd), .ref r1, .ref r2, .ref r3, .ref r4, .int (nI cm), .ref r5, .ref r6, .int (nI sg), .ref r7, .int (nI sn), .ref r8, .ref r9])), (r1, .inl (K 0, 520, .inl (nA rd))), (r2, .inl (K 0, 520, .inl (nA rs))), (r3, .inl (K 0, 520, .inl ru)), (r4, .inl (K 0, 520, .inl rl)), (r6, .inl (K 2, 600, .inl (nA tkn))), (r8, .inl (K 0, 4680, .inl (nA gg))), (r9, .inl (K 0, 9, .inl (nA (va_up sz 8 zz))))]) hP hD [5, 3, 0, 6, 7, 4, 1, 2] (by decide) rfl
            exact jn_130 k gg zz (by first | assumption | omega) (by exact rf_fill_congr hfl (sel_n (fun w => absurd w.2.2.1 (by omega)))) (by first | assumption | omega) (by first | assumption | omega) _ _ hP9 hD9 hS _ (lv_sub hl [0, 1, 2, 3, 4] rfl)
          · refine lv_aload_n hx hb d_Mo_follow_97 rfl (lv_at hl 0 rfl) ?_
            refine lv_aload_n hx hb d_Mo_follow_98 rfl (lv_at hl 0 rfl) ?_
            refine xg hx hb hown htw hK hP 5 12 rfl k_Mo (by decide) fl_Mo_73 rfl d_Mo_follow_99 ?_
            refine lv_iconst (v := nI 1) hx hb d_Mo_follow_102 (by decide) ?_
            refine lv_isub hx hb d_Mo_follow_103 ?_
            refine xi (nI_sub (a := sn) (b := 1) (by omega)) ?_
            refine lv_aload_n hx hb d_Mo_follow_104 rfl (lv_at hl 0 rfl) ?_
            refine lv_iload hx hb d_Mo_follow_105 (lv_at hl 4 rfl) ?_
            refine xcV_i (As := [.int (nI k)]) (rest := [.int (nI (sn - 1)), .ref m0]) (wr := [(r8, .inl (K 0, 4680, .inl (nA gg))), (r9, .inl (K 0, 9, .inl (nA (va_up sz 8 zz)))), (r6, .inl (K 2, 600, .inl (nA tkn))), (r3, .inl (K 0, 520, .inl ru)), (r4, .inl (K 0, 520, .inl rl))]) hx hb hml hown htw hK hA hl.1 hP hD hS (c_Mo_hitOf l D K m0 0 T hd r1 r2 r3 r4 cm r5 r6 sg r7 sn r8 r9 rd rs k (by first | assumption | omega)) [5, 3, 0] [1, 2, 4, 6, 7] rfl rfl (by decide) (by decide) (by decide) 0 rfl k_Mo ml_Mo_84 w_Mo_hitOf rfl ⟨by decide, by decide⟩ rfl (Nat.le_of_ble_eq_true rfl) ⟨by decide, by decide⟩ d_Mo_follow_107 (fun r u H locs hpost hP hD hS => ?_)
            obtain ⟨rfl, rfl⟩ := hpost
            have hP : va_P D classes [(r8, .inl (K 0, 4680, .inl (nA gg))), (r9, .inl (K 0, 9, .inl (nA (va_up sz 8 zz)))), (r6, .inl (K 2, 600, .inl (nA tkn))), (r3, .inl (K 0, 520, .inl ru)), (r4, .inl (K 0, 520, .inl rl)), (m0, .inr (8, [.int (nI 0), .int (nI T), .int (nI hd), .ref r1, .ref r2, .ref r3, .ref r4, .int (nI cm), .ref r5, .ref r6, .int (nI sg), .ref r7, .int (nI sn), .ref r8, .ref r9])), (r1, .inl (K 0, 520, .inl (nA rd))), (r2, .inl (K 0, 520, .inl (nA rs)))] H := hP
            have hD : va_D A [(r8, .inl (K 0, 4680, .inl (nA gg))), (r9, .inl (K 0, 9, .inl (nA (va_up sz 8 zz)))), (r6, .inl (K 2, 600, .inl (nA tkn))), (r3, .inl (K 0, 520, .inl ru)), (r4, .inl (K 0, 520, .inl rl)), (m0, .inr (8, [.int (nI 0), .int (nI T), .int (nI hd), .ref r1, .ref r2, .ref r3, .ref r4, .int (nI cm), .ref r5, .ref r6, .int (nI sg), .ref r7, .int (nI sn), .ref r8, .ref r9])), (r1, .inl (K 0, 520, .inl (nA rd))), (r2, .inl (K 0, 520, .inl (nA rs)))] := hD
            refine lv_iload_n hx hb d_Mo_follow_110 rfl (lv_at hl 3 rfl) ?_
            refine lv_isub hx hb d_Mo_follow_111 ?_
            refine xi (nI_sub (a := (16384 * (rd k)) + (rs k)) (b := n) (by have := Nat.mod_le (rs k) 4096; omega)) ?_
            refine xcV_i (As := [.int (nI (sn - 1)), .int (nI (((16384 * (rd k)) + (rs k)) - n))]) (rest := []) (wr := [(r6, .inl (K 2, 600, .inl (nA tkn))), (r3, .inl (K 0, 520, .inl ru)), (r4, .inl (K 0, 520, .inl rl)), (r1, .inl (K 0, 520, .inl (nA rd))), (r2, .inl (K 0, 520, .inl (nA rs)))]) hx hb hml hown htw hK hA hl.1 hP hD hS (c_Mo_has l D K m0 0 T hd r1 r2 r3 r4 cm r5 r6 sg r7 sn r8 r9 gg (va_up sz 8 zz) (sn - 1) (((16384 * (rd k)) + (rs k)) - n) (by omega) (by rw [va_up_ne sz _ (show sn - 1 ≠ 8 by omega)]; exact hsz _ (by omega)) (by exact fun i hi => by rw [va_up_ne sz _ (show sn - 1 ≠ 8 by omega)] at hi; have := hsz (sn - 1) (by omega); rw [hfl.2.2 _ (by omega)]; exact hbd _ i (by omega) hi) (by have := hrd k (by omega); have := hrs k (by omega); omega)) [5, 0, 1] [2, 3, 4, 6, 7] rfl rfl (by decide) (by decide) (by decide) 0 rfl k_Mo ml_Mo_95 w_Mo_has rfl ⟨by decide, by decide⟩ rfl (Nat.le_of_ble_eq_true rfl) ⟨by decide, by decide⟩ d_Mo_follow_112 (fun r u H locs hpost hP hD hS => ?_)
            obtain ⟨rfl, rfl⟩ := hpost
            have hP : va_P D classes [(r6, .inl (K 2, 600, .inl (nA tkn))), (r3, .inl (K 0, 520, .inl ru)), (r4, .inl (K 0, 520, .inl rl)), (r1, .inl (K 0, 520, .inl (nA rd))), (r2, .inl (K 0, 520, .inl (nA rs))), (m0, .inr (8, [.int (nI 0), .int (nI T), .int (nI hd), .ref r1, .ref r2, .ref r3, .ref r4, .int (nI cm), .ref r5, .ref r6, .int (nI sg), .ref r7, .int (nI sn), .ref r8, .ref r9])), (r8, .inl (K 0, 4680, .inl (nA gg))), (r9, .inl (K 0, 9, .inl (nA (va_up sz 8 zz))))] H := hP
            have hD : va_D A [(r6, .inl (K 2, 600, .inl (nA tkn))), (r3, .inl (K 0, 520, .inl ru)), (r4, .inl (K 0, 520, .inl rl)), (r1, .inl (K 0, 520, .inl (nA rd))), (r2, .inl (K 0, 520, .inl (nA rs))), (m0, .inr (8, [.int (nI 0), .int (nI T), .int (nI hd), .ref r1, .ref r2, .ref r3, .ref r4, .int (nI cm), .ref r5, .ref r6, .int (nI sg), .ref r7, .int (nI sn), .ref r8, .ref r9])), (r8, .inl (K 0, 4680, .inl (nA gg))), (r9, .inl (K 0, 9, .inl (nA (va_up sz 8 zz))))] := hD
            refine xz_eq (tgt := 130) (a := bN (st_mem ((va_up sz 8 zz) (sn - 1)) (rw_ gg (sn - 1)) (((16384 * (rd k)) + (rs k)) - n))) hx hb (by exact bN_31 _) d_Mo_follow_115 (by decide) (fun c_115 => ?_) (fun c_115 => ?_)
            · obtain ⟨hP9, hD9⟩ := xp (ws' := [(m0, .inr (8, [.int (nI 0), .int (nI T), .int (nI hd), .ref r1, .ref r2, .ref r3, .ref r4, .int (nI cm), .ref r5, .ref r6, .int (nI sg), .ref r7, .int (nI sn), .ref r8, .ref r9])), (r1, .inl (K 0, 520, .inl (nA rd))), (r2, .inl (K 0, 520, .inl (nA rs))), (r3, .inl (K 0, 520, .inl ru)), (r4, .inl (K 0, 520, .inl rl)), (r6, .inl (K 2, 600, .inl (nA tkn))), (r8, .inl (K 0, 4680, .inl (nA gg))), (r9, .inl (K 0, 9, .inl (nA (va_up sz 8 zz))))]) hP hD [5, 3, 4, 1, 2, 0, 6, 7] (by decide) rfl
              exact jn_130 k gg zz (by first | assumption | omega) (by exact rf_fill_congr hfl (sel_n (fun w => (bN_0.mp c_115) ((mem_same hfl.2.2 (show sn - 1 < 8 by omega) (hsz (sn - 1) (by omega))).mpr w.2.2.2)))) (by first | assumption | omega) (by first | assumption | omega) _ _ hP9 hD9 hS _ (lv_sub hl [0, 1, 2, 3, 4] rfl)
            · refine lv_aload_n hx hb d_Mo_follow_118 rfl (lv_at hl 0 rfl) ?_
              refine lv_bipush (v := nI 8) hx hb d_Mo_follow_119 (by decide) ?_
              refine lv_aload_n hx hb d_Mo_follow_121 rfl (lv_at hl 0 rfl) ?_
              refine lv_iload hx hb d_Mo_follow_122 (lv_at hl 4 rfl) ?_
              refine xcV_i (As := [.int (nI k)]) (rest := [.int (nI 8), .ref m0]) (wr := [(r6, .inl (K 2, 600, .inl (nA tkn))), (r3, .inl (K 0, 520, .inl ru)), (r4, .inl (K 0, 520, .inl rl)), (r8, .inl (K 0, 4680, .inl (nA gg))), (r9, .inl (K 0, 9, .inl (nA (va_up sz 8 zz))))]) hx hb hml hown htw hK hA hl.1 hP hD hS (c_Mo_hitOf l D K m0 0 T hd r1 r2 r3 r4 cm r5 r6 sg r7 sn r8 r9 rd rs k (by first | assumption | omega)) [5, 3, 4] [0, 1, 2, 6, 7] rfl rfl (by decide) (by decide) (by decide) 0 rfl k_Mo ml_Mo_84 w_Mo_hitOf rfl ⟨by decide, by decide⟩ rfl (Nat.le_of_ble_eq_true rfl) ⟨by decide, by decide⟩ d_Mo_follow_124 (fun r u H locs hpost hP hD hS => ?_)
              obtain ⟨rfl, rfl⟩ := hpost
              have hP : va_P D classes [(r6, .inl (K 2, 600, .inl (nA tkn))), (r3, .inl (K 0, 520, .inl ru)), (r4, .inl (K 0, 520, .inl rl)), (r8, .inl (K 0, 4680, .inl (nA gg))), (r9, .inl (K 0, 9, .inl (nA (va_up sz 8 zz)))), (m0, .inr (8, [.int (nI 0), .int (nI T), .int (nI hd), .ref r1, .ref r2, .ref r3, .ref r4, .int (nI cm), .ref r5, .ref r6, .int (nI sg), .ref r7, .int (nI sn), .ref r8, .ref r9])), (r1, .inl (K 0, 520, .inl (nA rd))), (r2, .inl (K 0, 520, .inl (nA rs)))] H := hP
              have hD : va_D A [(r6, .inl (K 2, 600, .inl (nA tkn))), (r3, .inl (K 0, 520, .inl ru)), (r4, .inl (K 0, 520, .inl rl)), (r8, .inl (K 0, 4680, .inl (nA gg))), (r9, .inl (K 0, 9, .inl (nA (va_up sz 8 zz)))), (m0, .inr (8, [.int (nI 0), .int (nI T), .int (nI hd), .ref r1, .ref r2, .ref r3, .ref r4, .int (nI cm), .ref r5, .ref r6, .int (nI sg), .ref r7, .int (nI sn), .ref r8, .ref r9])), (r1, .inl (K 0, 520, .inl (nA rd))), (r2, .inl (K 0, 520, .inl (nA rs)))] := hD
              refine xcV_v (As := [.int (nI 8), .int (nI ((16384 * (rd k)) + (rs k)))]) (rest := []) (wr := [(r6, .inl (K 2, 600, .inl (nA tkn))), (r3, .inl (K 0, 520, .inl ru)), (r4, .inl (K 0, 520, .inl rl)), (r1, .inl (K 0, 520, .inl (nA rd))), (r2, .inl (K 0, 520, .inl (nA rs)))]) hx hb hml hown htw hK hA hl.1 hP hD hS (c_Mo_insert l D K m0 0 T hd r1 r2 r3 r4 cm r5 r6 sg r7 sn r8 r9 gg (va_up sz 8 zz) 8 ((16384 * (rd k)) + (rs k)) (by omega) (by rw [va_up_self]; omega) (by rw [va_up_self]; exact hfl.1) (by exact fun i hi => by rw [va_up_self] at hi; exact sel_bd hfl.2.1 hrd hrs (by omega) ⟨i, hi, rfl⟩) (by have := hrd k (by omega); have := hrs k (by omega); omega)) [5, 3, 4] [0, 1, 2, 6, 7] rfl rfl (by decide) (by decide) (by decide) 0 rfl k_Mo ml_Mo_87 w_Mo_insert rfl ⟨by decide, by decide⟩ rfl (Nat.le_of_ble_eq_true rfl) ⟨by decide, by decide⟩ d_Mo_follow_127 (fun u H locs hpost hP hD hS => ?_)
              obtain ⟨rh'_127, z'_127, rfl, hin2_127, hm2_127, ho2_127, hz2_127⟩ := hpost
              have hP : va_P D classes [(r6, .inl (K 2, 600, .inl (nA tkn))), (r3, .inl (K 0, 520, .inl ru)), (r4, .inl (K 0, 520, .inl rl)), (r1, .inl (K 0, 520, .inl (nA rd))), (r2, .inl (K 0, 520, .inl (nA rs))), (m0, .inr (8, [.int (nI 0), .int (nI T), .int (nI hd), .ref r1, .ref r2, .ref r3, .ref r4, .int (nI cm), .ref r5, .ref r6, .int (nI sg), .ref r7, .int (nI sn), .ref r8, .ref r9])), (r8, .inl (K 0, 4680, .inl (nA rh'_127))), (r9, .inl (K 0, 9, .inl (nA (va_up (va_up sz 8 zz) 8 z'_127))))] H := hP
              have hD : va_D A [(r6, .inl (K 2, 600, .inl (nA tkn))), (r3, .inl (K 0, 520, .inl ru)), (r4, .inl (K 0, 520, .inl rl)), (r1, .inl (K 0, 520, .inl (nA rd))), (r2, .inl (K 0, 520, .inl (nA rs))), (m0, .inr (8, [.int (nI 0), .int (nI T), .int (nI hd), .ref r1, .ref r2, .ref r3, .ref r4, .int (nI cm), .ref r5, .ref r6, .int (nI sg), .ref r7, .int (nI sn), .ref r8, .ref r9])), (r8, .inl (K 0, 4680, .inl (nA rh'_127))), (r9, .inl (K 0, 9, .inl (nA (va_up (va_up sz 8 zz) 8 z'_127))))] := hD
              have hP : va_P D classes [(r6, .inl (K 2, 600, .inl (nA tkn))), (r3, .inl (K 0, 520, .inl ru)), (r4, .inl (K 0, 520, .inl rl)), (r1, .inl (K 0, 520, .inl (nA rd))), (r2, .inl (K 0, 520, .inl (nA rs))), (m0, .inr (8, [.int (nI 0), .int (nI T), .int (nI hd), .ref r1, .ref r2, .ref r3, .ref r4, .int (nI cm), .ref r5, .ref r6, .int (nI sg), .ref r7, .int (nI sn), .ref r8, .ref r9])), (r8, .inl (K 0, 4680, .inl (nA rh'_127))), (r9, .inl (K 0, 9, .inl (nA (va_up sz 8 z'_127))))] H := by rw [← up_up sz 8 zz]; exact hP
              have hD : va_D A [(r6, .inl (K 2, 600, .inl (nA tkn))), (r3, .inl (K 0, 520, .inl ru)), (r4, .inl (K 0, 520, .inl rl)), (r1, .inl (K 0, 520, .inl (nA rd))), (r2, .inl (K 0, 520, .inl (nA rs))), (m0, .inr (8, [.int (nI 0), .int (nI T), .int (nI hd), .ref r1, .ref r2, .ref r3, .ref r4, .int (nI cm), .ref r5, .ref r6, .int (nI sg), .ref r7, .int (nI sn), .ref r8, .ref r9])), (r8, .inl (K 0, 4680, .inl (nA rh'_127))), (r9, .inl (K 0, 9, .inl (nA (va_up sz 8 z'_127))))] := by rw [← up_up sz 8 zz]; exact hD
              obtain ⟨hP9, hD9⟩ := xp (ws' := [(m0, .inr (8, [.int (nI 0), .int (nI T), .int (nI hd), .ref r1, .ref r2, .ref r3, .ref r4, .int (nI cm), .ref r5, .ref r6, .int (nI sg), .ref r7, .int (nI sn), .ref r8, .ref r9])), (r1, .inl (K 0, 520, .inl (nA rd))), (r2, .inl (K 0, 520, .inl (nA rs))), (r3, .inl (K 0, 520, .inl ru)), (r4, .inl (K 0, 520, .inl rl)), (r6, .inl (K 2, 600, .inl (nA tkn))), (r8, .inl (K 0, 4680, .inl (nA rh'_127))), (r9, .inl (K 0, 9, .inl (nA (va_up sz 8 z'_127))))]) hP hD [5, 3, 4, 1, 2, 0, 6, 7] (by decide) rfl
              exact jn_130 k rh'_127 z'_127 (by first | assumption | omega) (by exact rf_fill_put hfl hin2_127 (fun v => by rw [hm2_127, va_up_self]) ho2_127 (sel_y ⟨(bN_pos.mp c_66).2, bN_pos.mp c_79, c_94, (mem_same hfl.2.2 (show sn - 1 < 8 by omega) (hsz (sn - 1) (by omega))).mp (bN_pos.mp c_115)⟩)) (by rw [va_up_self] at hz2_127; omega) (by first | assumption | omega) _ _ hP9 hD9 hS _ (lv_sub hl [0, 1, 2, 3, 4] rfl)
set_option maxHeartbeats 4000000 in
set_option maxRecDepth 100000 in
theorem c_Mo_follow_ok (l : Launch) (D : va_G) (K : Nat → ClassId) (m0 : Nat) (th : Nat) (T : Nat) (hd : Nat) (r1 : Nat) (r2 : Nat) (r3 : Nat) (r4 : Nat) (cm : Nat) (r5 : Nat) (r6 : Nat) (sg : Nat) (r7 : Nat) (sn : Nat) (r8 : Nat) (r9 : Nat) (rd : Nat → Nat) (rs : Nat → Nat) (ru : Nat → Int32) (rl : Nat → Int32) (tkn : Nat → Nat) (rh : Nat → Nat) (sz : Nat → Nat) (a : Int32) (b : Int32) (n : Nat) (hhd : hd < 520) (hrd : ∀ i, i < hd → rd i < 600 ∧ tkn (rd i) ≤ 1) (hrs : ∀ i, i < hd → rs i < 16384) (hsn : 0 < sn) (hsn2 : sn ≤ 8) (hn1 : 1 ≤ n) (hn2 : n ≤ 100) (hsz : ∀ q, q < sn → sz q ≤ 520) (hbd : ∀ q k, q < sn → k < sz q → rh (520 * q + k) < 2 ^ 24) : CI l y_Mo_follow b_Mo_follow 5 .int ({ frames := 2, cells := 0, slots := 0, locals := 47 } : Room) D K [.ref m0, .int a, .int b, .int (nI n)] [(m0, .inr (8, [.int (nI th), .int (nI T), .int (nI hd), .ref r1, .ref r2, .ref r3, .ref r4, .int (nI cm), .ref r5, .ref r6, .int (nI sg), .ref r7, .int (nI sn), .ref r8, .ref r9])), (r1, .inl (K 0, 520, .inl (nA rd))), (r2, .inl (K 0, 520, .inl (nA rs))), (r3, .inl (K 0, 520, .inl ru)), (r4, .inl (K 0, 520, .inl rl)), (r6, .inl (K 2, 600, .inl (nA tkn))), (r8, .inl (K 0, 4680, .inl (nA rh))), (r9, .inl (K 0, 9, .inl (nA sz)))] (q_Mo_follow_ok K m0 th T hd r1 r2 r3 r4 cm r5 r6 sg r7 sn r8 r9 rd rs ru rl tkn rh sz a b n) := by
  refine CI_of (by decide) (Nat.le_of_ble_eq_true rfl) ?_
  intro p e s m below meth c A b0 ls hF hA hP hD hl
  have hF2 := hF
  obtain ⟨hx, hb, hr, hml, hown, htw, hK, hlocks, hname⟩ := hF
  have hS : va_S A s.heap s.heap [] := va_S.rf
  have hl : lv_has ls 5 [(0, .ref m0), (1, .int a), (2, .int b), (3, .int (nI n))] := hl
  refine lv_aload_n hx hb d_Mo_follow_0 rfl (lv_at hl 0 rfl) ?_
  refine lv_aload_n hx hb d_Mo_follow_1 rfl (lv_at hl 0 rfl) ?_
  refine xg hx hb hown htw hK hP 0 12 rfl k_Mo (by decide) fl_Mo_73 rfl d_Mo_follow_2 ?_
  refine xz_ne (tgt := 12) (a := sn) hx hb (by omega) d_Mo_follow_5 (by decide) (fun c_5 => ?_) (fun c_5 => ?_)
  · refine lv_iload_n hx hb d_Mo_follow_12 rfl (lv_at hl 3 rfl) ?_
    refine lv_iconst (v := nI 1) hx hb d_Mo_follow_13 (by decide) ?_
    refine xc_lt (tgt := 23) (a := n) (b := 1) hx hb (by omega) (by omega) d_Mo_follow_14 (by decide) (fun c_14 => ?_) (fun c_14 => ?_)
    · omega
    · refine lv_iload_n hx hb d_Mo_follow_17 rfl (lv_at hl 3 rfl) ?_
      refine lv_bipush (v := nI 100) hx hb d_Mo_follow_18 (by decide) ?_
      refine xc_le (tgt := 27) (a := n) (b := 100) hx hb (by omega) (by omega) d_Mo_follow_20 (by decide) (fun c_20 => ?_) (fun c_20 => ?_)
      · refine lv_iconst (v := nI 0) hx hb d_Mo_follow_27 (by decide) ?_
        refine xpt hx hb hown htw hK hP hD hS 0 0 rfl k_Mo (by decide) fl_Mo_38 rfl rfl rfl (Nat.le_of_ble_eq_true rfl) d_Mo_follow_28 (fun H locs hP hD hS => ?_)
        have hP : va_P D classes [(m0, .inr (8, [.int (nI 0), .int (nI T), .int (nI hd), .ref r1, .ref r2, .ref r3, .ref r4, .int (nI cm), .ref r5, .ref r6, .int (nI sg), .ref r7, .int (nI sn), .ref r8, .ref r9])), (r1, .inl (K 0, 520, .inl (nA rd))), (r2, .inl (K 0, 520, .inl (nA rs))), (r3, .inl (K 0, 520, .inl ru)), (r4, .inl (K 0, 520, .inl rl)), (r6, .inl (K 2, 600, .inl (nA tkn))), (r8, .inl (K 0, 4680, .inl (nA rh))), (r9, .inl (K 0, 9, .inl (nA sz)))] H := hP
        have hD : va_D A [(m0, .inr (8, [.int (nI 0), .int (nI T), .int (nI hd), .ref r1, .ref r2, .ref r3, .ref r4, .int (nI cm), .ref r5, .ref r6, .int (nI sg), .ref r7, .int (nI sn), .ref r8, .ref r9])), (r1, .inl (K 0, 520, .inl (nA rd))), (r2, .inl (K 0, 520, .inl (nA rs))), (r3, .inl (K 0, 520, .inl ru)), (r4, .inl (K 0, 520, .inl rl)), (r6, .inl (K 2, 600, .inl (nA tkn))), (r8, .inl (K 0, 4680, .inl (nA rh))), (r9, .inl (K 0, 9, .inl (nA sz)))] := hD
        refine lv_aload_n hx hb d_Mo_follow_31 rfl (lv_at hl 0 rfl) ?_
        refine xg hx hb hown htw hK hP 0 0 rfl k_Mo (by decide) fl_Mo_38 rfl d_Mo_follow_32 ?_
        refine xz_le (tgt := 40) (a := 0) hx hb (by omega) d_Mo_follow_35 (by decide) (fun c_35 => ?_) (fun c_35 => ?_)
        · refine lv_aload_n hx hb d_Mo_follow_40 rfl (lv_at hl 0 rfl) ?_
          refine xg hx hb hown htw hK hP 0 14 rfl k_Mo (by decide) fl_Mo_35 rfl d_Mo_follow_41 ?_
          refine lv_bipush (v := nI 8) hx hb d_Mo_follow_44 (by decide) ?_
          refine lv_iconst (v := nI 0) hx hb d_Mo_follow_46 (by decide) ?_
          refine xast_i hx hb hK hP hD hS 7 rfl (by omega) (by omega) d_Mo_follow_47 (fun H locs hP hD hS => ?_)
          rw [upd_nA] at hP hD
          have hP : va_P D classes [(m0, .inr (8, [.int (nI 0), .int (nI T), .int (nI hd), .ref r1, .ref r2, .ref r3, .ref r4, .int (nI cm), .ref r5, .ref r6, .int (nI sg), .ref r7, .int (nI sn), .ref r8, .ref r9])), (r1, .inl (K 0, 520, .inl (nA rd))), (r2, .inl (K 0, 520, .inl (nA rs))), (r3, .inl (K 0, 520, .inl ru)), (r4, .inl (K 0, 520, .inl rl)), (r6, .inl (K 2, 600, .inl (nA tkn))), (r8, .inl (K 0, 4680, .inl (nA rh))), (r9, .inl (K 0, 9, .inl (nA (va_up sz 8 0))))] H := hP
          have hD : va_D A [(m0, .inr (8, [.int (nI 0), .int (nI T), .int (nI hd), .ref r1, .ref r2, .ref r3, .ref r4, .int (nI cm), .ref r5, .ref r6, .int (nI sg), .ref r7, .int (nI sn), .ref r8, .ref r9])), (r1, .inl (K 0, 520, .inl (nA rd))), (r2, .inl (K 0, 520, .inl (nA rs))), (r3, .inl (K 0, 520, .inl ru)), (r4, .inl (K 0, 520, .inl rl)), (r6, .inl (K 2, 600, .inl (nA tkn))), (r8, .inl (K 0, 4680, .inl (nA rh))), (r9, .inl (K 0, 9, .inl (nA (va_up sz 8 0))))] := hD
          refine lv_iconst (v := nI 0) hx hb d_Mo_follow_48 (by decide) ?_
          refine lv_istore (lv' := [(4, .int (nI 0)), (0, .ref m0), (1, .int a), (2, .int b), (3, .int (nI n))]) hx hb d_Mo_follow_49 hl (by decide) rfl (fun ls hl => ?_)
          exact lp_Mo_follow_ok_51 (l := l) m0 th T hd r1 r2 r3 r4 cm r5 r6 sg r7 sn r8 r9 rd rs ru rl tkn rh sz a b n hhd hrd hrs hsn hsn2 hn1 hn2 hsz hbd hF2 hA _ 0 rh 0 (by first | assumption | omega) (by exact rf_fill_0 (fun v w => by obtain ⟨i, a1, _⟩ := w; omega)) (by first | assumption | omega) (Nat.lt_succ_self _) _ _ hP hD hS _ (lv_sub hl [1, 2, 3, 4, 0] rfl)
        · omega
      · omega
  · omega


abbrev q_Mo_thrown (K : Nat → ClassId) (m0 : Nat) (th : Nat) (T : Nat) (hd : Nat) (r1 : Nat) (r2 : Nat) (r3 : Nat) (r4 : Nat) (cm : Nat) (r5 : Nat) (r6 : Nat) (sg : Nat) (r7 : Nat) (sn : Nat) (r8 : Nat) (r9 : Nat) : Int32 → va_W → Prop := fun r u => u = [(m0, .inr (8, [.int (nI th), .int (nI T), .int (nI hd), .ref r1, .ref r2, .ref r3, .ref r4, .int (nI cm), .ref r5, .ref r6, .int (nI sg), .ref r7, .int (nI sn), .ref r8, .ref r9]))] ∧ r = nI th
set_option maxHeartbeats 4000000 in
set_option maxRecDepth 100000 in
theorem c_Mo_thrown (l : Launch) (D : va_G) (K : Nat → ClassId) (m0 : Nat) (th : Nat) (T : Nat) (hd : Nat) (r1 : Nat) (r2 : Nat) (r3 : Nat) (r4 : Nat) (cm : Nat) (r5 : Nat) (r6 : Nat) (sg : Nat) (r7 : Nat) (sn : Nat) (r8 : Nat) (r9 : Nat)  : CI l y_Mo_thrown b_Mo_thrown 1 .int ({ frames := 0, cells := 0, slots := 0, locals := 0 } : Room) D K [.ref m0] [(m0, .inr (8, [.int (nI th), .int (nI T), .int (nI hd), .ref r1, .ref r2, .ref r3, .ref r4, .int (nI cm), .ref r5, .ref r6, .int (nI sg), .ref r7, .int (nI sn), .ref r8, .ref r9]))] (q_Mo_thrown K m0 th T hd r1 r2 r3 r4 cm r5 r6 sg r7 sn r8 r9) := by
  refine CI_of (by decide) (Nat.le_of_ble_eq_true rfl) ?_
  intro p e s m below meth c A b0 ls hF hA hP hD hl
  have hF2 := hF
  obtain ⟨hx, hb, hr, hml, hown, htw, hK, hlocks, hname⟩ := hF
  have hS : va_S A s.heap s.heap [] := va_S.rf
  have hl : lv_has ls 1 [(0, .ref m0)] := hl
  refine lv_aload_n hx hb d_Mo_thrown_0 rfl (lv_at hl 0 rfl) ?_
  refine xg hx hb hown htw hK hP 0 0 rfl k_Mo (by decide) fl_Mo_38 rfl d_Mo_thrown_1 ?_
  exact xr_iret hx hb hr hlocks hP hD hS (Nat.le_of_ble_eq_true rfl) (Nat.le_of_ble_eq_true rfl) (⟨rfl, rfl⟩) d_Mo_thrown_4

abbrev q_Mo_token_bad (K : Nat → ClassId) (m0 : Nat) (th : Nat) (T : Nat) (hd : Nat) (r1 : Nat) (r2 : Nat) (r3 : Nat) (r4 : Nat) (cm : Nat) (r5 : Nat) (r6 : Nat) (sg : Nat) (r7 : Nat) (sn : Nat) (r8 : Nat) (r9 : Nat) (x : Int32) (y : Int32) (a : Int32) (b : Int32) : Int32 → va_W → Prop := fun r u => u = [(m0, .inr (8, [.int (nI 1), .int (nI T), .int (nI hd), .ref r1, .ref r2, .ref r3, .ref r4, .int (nI cm), .ref r5, .ref r6, .int (nI sg), .ref r7, .int (nI sn), .ref r8, .ref r9]))] ∧ r = nI 0
set_option maxHeartbeats 4000000 in
set_option maxRecDepth 100000 in
theorem c_Mo_token_bad (l : Launch) (D : va_G) (K : Nat → ClassId) (m0 : Nat) (th : Nat) (T : Nat) (hd : Nat) (r1 : Nat) (r2 : Nat) (r3 : Nat) (r4 : Nat) (cm : Nat) (r5 : Nat) (r6 : Nat) (sg : Nat) (r7 : Nat) (sn : Nat) (r8 : Nat) (r9 : Nat) (x : Int32) (y : Int32) (a : Int32) (b : Int32) (hbad : x < 0 ∨ nI 3 < x ∨ y < 0 ∨ nI 4095 < y) : CI l y_Mo_token b_Mo_token 7 .int ({ frames := 0, cells := 0, slots := 0, locals := 0 } : Room) D K [.ref m0, .int x, .int y, .int a, .int b] [(m0, .inr (8, [.int (nI th), .int (nI T), .int (nI hd), .ref r1, .ref r2, .ref r3, .ref r4, .int (nI cm), .ref r5, .ref r6, .int (nI sg), .ref r7, .int (nI sn), .ref r8, .ref r9]))] (q_Mo_token_bad K m0 th T hd r1 r2 r3 r4 cm r5 r6 sg r7 sn r8 r9 x y a b) := by
  refine CI_of (by decide) (Nat.le_of_ble_eq_true rfl) ?_
  intro p e s m below meth c A b0 ls hF hA hP hD hl
  have hF2 := hF
  obtain ⟨hx, hb, hr, hml, hown, htw, hK, hlocks, hname⟩ := hF
  have jn_25 : ∀ (H : Heap) (locs : List Loc), va_P D classes [(m0, .inr (8, [.int (nI 0), .int (nI T), .int (nI hd), .ref r1, .ref r2, .ref r3, .ref r4, .int (nI cm), .ref r5, .ref r6, .int (nI sg), .ref r7, .int (nI sn), .ref r8, .ref r9]))] H → va_D A [(m0, .inr (8, [.int (nI 0), .int (nI T), .int (nI hd), .ref r1, .ref r2, .ref r3, .ref r4, .int (nI cm), .ref r5, .ref r6, .int (nI sg), .ref r7, .int (nI sn), .ref r8, .ref r9]))] → va_S A s.heap H locs → ∀ ls : Array Slot, lv_has ls 7 [(0, .ref m0)] → W p l e ({ frames := 0, cells := 0, slots := 0, locals := 0 } : Room) s m ([.ref m0, .int x, .int y, .int a, .int b] : List Value).toArray below meth c H locs 0 0 (MQ below (va_Qi (q_Mo_token_bad K m0 th T hd r1 r2 r3 r4 cm r5 r6 sg r7 sn r8 r9 x y a b) (fun u t => va_P D classes u t.heap ∧ va_D A u) A) ([.ref m0, .int x, .int y, .int a, .int b] : List Value).toArray s 0 0 A) (F0 m 25 ls []) := by
    intro  H locs hP hD hS ls hl
    refine lv_aload_n hx hb d_Mo_token_25 rfl (lv_at hl 0 rfl) ?_
    refine lv_iconst (v := nI 1) hx hb d_Mo_token_26 (by decide) ?_
    refine xpt hx hb hown htw hK hP hD hS 0 0 rfl k_Mo (by decide) fl_Mo_38 rfl rfl rfl (Nat.le_of_ble_eq_true rfl) d_Mo_token_27 (fun H locs hP hD hS => ?_)
    have hP : va_P D classes [(m0, .inr (8, [.int (nI 1), .int (nI T), .int (nI hd), .ref r1, .ref r2, .ref r3, .ref r4, .int (nI cm), .ref r5, .ref r6, .int (nI sg), .ref r7, .int (nI sn), .ref r8, .ref r9]))] H := hP
    have hD : va_D A [(m0, .inr (8, [.int (nI 1), .int (nI T), .int (nI hd), .ref r1, .ref r2, .ref r3, .ref r4, .int (nI cm), .ref r5, .ref r6, .int (nI sg), .ref r7, .int (nI sn), .ref r8, .ref r9]))] := hD
    refine lv_iconst (v := nI 0) hx hb d_Mo_token_30 (by decide) ?_
    exact xr_iret hx hb hr hlocks hP hD hS (Nat.le_of_ble_eq_true rfl) (Nat.le_of_ble_eq_true rfl) (⟨rfl, rfl⟩) d_Mo_token_31
  have hS : va_S A s.heap s.heap [] := va_S.rf
  have hl : lv_has ls 7 [(0, .ref m0), (1, .int x), (2, .int y), (3, .int a), (4, .int b)] := hl
  refine lv_aload_n hx hb d_Mo_token_0 rfl (lv_at hl 0 rfl) ?_
  refine lv_iconst (v := nI 0) hx hb d_Mo_token_1 (by decide) ?_
  refine xpt hx hb hown htw hK hP hD hS 0 0 rfl k_Mo (by decide) fl_Mo_38 rfl rfl rfl (Nat.le_of_ble_eq_true rfl) d_Mo_token_2 (fun H locs hP hD hS => ?_)
  have hP : va_P D classes [(m0, .inr (8, [.int (nI 0), .int (nI T), .int (nI hd), .ref r1, .ref r2, .ref r3, .ref r4, .int (nI cm), .ref r5, .ref r6, .int (nI sg), .ref r7, .int (nI sn), .ref r8, .ref r9]))] H := hP
  have hD : va_D A [(m0, .inr (8, [.int (nI 0), .int (nI T), .int (nI hd), .ref r1, .ref r2, .ref r3, .ref r4, .int (nI cm), .ref r5, .ref r6, .int (nI sg), .ref r7, .int (nI sn), .ref r8, .ref r9]))] := hD
  refine lv_iload_n hx hb d_Mo_token_5 rfl (lv_at hl 1 rfl) ?_
  refine lv_if_lt (tgt := 25) hx hb d_Mo_token_6 (by decide) (fun c_6 => ?_) (fun c_6 => ?_)
  · exact jn_25   _ _ hP hD hS _ (lv_sub hl [0] rfl)
  · refine lv_iload_n hx hb d_Mo_token_9 rfl (lv_at hl 1 rfl) ?_
    refine lv_iconst (v := nI 3) hx hb d_Mo_token_10 (by decide) ?_
    refine lv_icmp_gt (tgt := 25) hx hb d_Mo_token_11 (by decide) (fun c_11 => ?_) (fun c_11 => ?_)
    · exact jn_25   _ _ hP hD hS _ (lv_sub hl [0] rfl)
    · refine lv_iload_n hx hb d_Mo_token_14 rfl (lv_at hl 2 rfl) ?_
      refine lv_if_lt (tgt := 25) hx hb d_Mo_token_15 (by decide) (fun c_15 => ?_) (fun c_15 => ?_)
      · exact jn_25   _ _ hP hD hS _ (lv_sub hl [0] rfl)
      · refine lv_iload_n hx hb d_Mo_token_18 rfl (lv_at hl 2 rfl) ?_
        refine lv_sipush (v := nI 4095) hx hb d_Mo_token_19 (by decide) ?_
        refine lv_icmp_le (tgt := 32) hx hb d_Mo_token_22 (by decide) (fun c_22 => ?_) (fun c_22 => ?_)
        · exact absurd hbad (fun q => q.elim c_6 (fun q => q.elim c_11 (fun q => q.elim c_15 (fun q => absurd c_22 (Int32.not_le.mpr q)))))
        · exact jn_25   _ _ hP hD hS _ (lv_sub hl [0] rfl)

abbrev q_Mo_token_dup (K : Nat → ClassId) (m0 : Nat) (th : Nat) (T : Nat) (hd : Nat) (r1 : Nat) (r2 : Nat) (r3 : Nat) (r4 : Nat) (cm : Nat) (r5 : Nat) (r6 : Nat) (sg : Nat) (r7 : Nat) (sn : Nat) (r8 : Nat) (r9 : Nat) (rd : Nat → Nat) (rs : Nat → Nat) (ru : Nat → Int32) (rl : Nat → Int32) (fi : Nat) (pl : Nat) (a : Int32) (b : Int32) : Int32 → va_W → Prop := fun r u => u = [(m0, .inr (8, [.int (nI 0), .int (nI T), .int (nI hd), .ref r1, .ref r2, .ref r3, .ref r4, .int (nI cm), .ref r5, .ref r6, .int (nI sg), .ref r7, .int (nI sn), .ref r8, .ref r9])), (r1, .inl (K 0, 520, .inl (nA rd))), (r2, .inl (K 0, 520, .inl (nA rs))), (r3, .inl (K 0, 520, .inl ru)), (r4, .inl (K 0, 520, .inl rl))] ∧ r = nI (T - hd)
set_option maxHeartbeats 4000000 in
set_option maxRecDepth 100000 in
theorem lp_Mo_token_dup_47 {p : Program} {l : Launch} {e : Env} {s : State} {m : MethodId} {below : List Frame} {meth : Method} {c : Code} {A : Nat → Prop} {D : va_G} {K : Nat → ClassId} (m0 : Nat) (th : Nat) (T : Nat) (hd : Nat) (r1 : Nat) (r2 : Nat) (r3 : Nat) (r4 : Nat) (cm : Nat) (r5 : Nat) (r6 : Nat) (sg : Nat) (r7 : Nat) (sn : Nat) (r8 : Nat) (r9 : Nat) (rd : Nat → Nat) (rs : Nat → Nat) (ru : Nat → Int32) (rl : Nat → Int32) (fi : Nat) (pl : Nat) (a : Int32) (b : Int32) (hfi : fi ≤ 3) (hpl : pl ≤ 4095) (hhd : hd ≤ T) (hT : T < 520) (hrs : ∀ k, k < T → rs k < 2 ^ 24) (hdup : ∃ i, hd ≤ i ∧ i < T ∧ rs i = (4096 * fi) + pl ∧ ru i = a ∧ rl i = b) (hF : Fx p s m meth c y_Mo_token b_Mo_token 7 (some .int) D K) {b0 : Nat} (hA : AS K s A b0) : ∀ fuel : Nat, ∀ k : Nat, (hd ≤ k) → (k ≤ T) → (∀ i, hd ≤ i → i < k → ¬ (rs i = (4096 * fi) + pl ∧ ru i = a ∧ rl i = b)) → T - k < fuel → ∀ (H : Heap) (locs : List Loc), va_P D classes [(m0, .inr (8, [.int (nI 0), .int (nI T), .int (nI hd), .ref r1, .ref r2, .ref r3, .ref r4, .int (nI cm), .ref r5, .ref r6, .int (nI sg), .ref r7, .int (nI sn), .ref r8, .ref r9])), (r1, .inl (K 0, 520, .inl (nA rd))), (r2, .inl (K 0, 520, .inl (nA rs))), (r3, .inl (K 0, 520, .inl ru)), (r4, .inl (K 0, 520, .inl rl))] H → va_D A [(m0, .inr (8, [.int (nI 0), .int (nI T), .int (nI hd), .ref r1, .ref r2, .ref r3, .ref r4, .int (nI cm), .ref r5, .ref r6, .int (nI sg), .ref r7, .int (nI sn), .ref r8, .ref r9])), (r1, .inl (K 0, 520, .inl (nA rd))), (r2, .inl (K 0, 520, .inl (nA rs))), (r3, .inl (K 0, 520, .inl ru)), (r4, .inl (K 0, 520, .inl rl))] → va_S A s.heap H locs → ∀ ls : Array Slot, lv_has ls 7 [(0, .ref m0), (3, .int a), (4, .int b), (5, .int (nI ((4096 * fi) + pl))), (6, .int (nI k))] → W p l e ({ frames := 0, cells := 0, slots := 0, locals := 0 } : Room) s m ([.ref m0, .int (nI fi), .int (nI pl), .int a, .int b] : List Value).toArray below meth c H locs 0 0 (MQ below (va_Qi (q_Mo_token_dup K m0 th T hd r1 r2 r3 r4 cm r5 r6 sg r7 sn r8 r9 rd rs ru rl fi pl a b) (fun u t => va_P D classes u t.heap ∧ va_D A u) A) ([.ref m0, .int (nI fi), .int (nI pl), .int a, .int b] : List Value).toArray s 0 0 A) (F0 m 47 ls []) := by
  have hF2 := hF
  obtain ⟨hx, hb, hr, hml, hown, htw, hK, hlocks, hname⟩ := hF
  intro fuel
  induction fuel with
  | zero => intros; omega
  | succ fuel ih =>
    have jn_101 : ∀ k : Nat, (hd ≤ k) → (k < T) → (∀ i, hd ≤ i → i < k + 1 → ¬ (rs i = (4096 * fi) + pl ∧ ru i = a ∧ rl i = b)) → (T - k < fuel + 1) → ∀ (H : Heap) (locs : List Loc), va_P D classes [(m0, .inr (8, [.int (nI 0), .int (nI T), .int (nI hd), .ref r1, .ref r2, .ref r3, .ref r4, .int (nI cm), .ref r5, .ref r6, .int (nI sg), .ref r7, .int (nI sn), .ref r8, .ref r9])), (r1, .inl (K 0, 520, .inl (nA rd))), (r2, .inl (K 0, 520, .inl (nA rs))), (r3, .inl (K 0, 520, .inl ru)), (r4, .inl (K 0, 520, .inl rl))] H → va_D A [(m0, .inr (8, [.int (nI 0), .int (nI T), .int (nI hd), .ref r1, .ref r2, .ref r3, .ref r4, .int (nI cm), .ref r5, .ref r6, .int (nI sg), .ref r7, .int (nI sn), .ref r8, .ref r9])), (r1, .inl (K 0, 520, .inl (nA rd))), (r2, .inl (K 0, 520, .inl (nA rs))), (r3, .inl (K 0, 520, .inl ru)), (r4, .inl (K 0, 520, .inl rl))] → va_S A s.heap H locs → ∀ ls : Array Slot, lv_has ls 7 [(0, .ref m0), (3, .int a), (4, .int b), (5, .int (nI ((4096 * fi) + pl))), (6, .int (nI k))] → W p l e ({ frames := 0, cells := 0, slots := 0, locals := 0 } : Room) s m ([.ref m0, .int (nI fi), .int (nI pl), .int a, .int b] : List Value).toArray below meth c H locs 0 0 (MQ below (va_Qi (q_Mo_token_dup K m0 th T hd r1 r2 r3 r4 cm r5 r6 sg r7 sn r8 r9 rd rs ru rl fi pl a b) (fun u t => va_P D classes u t.heap ∧ va_D A u) A) ([.ref m0, .int (nI fi), .int (nI pl), .int a, .int b] : List Value).toArray s 0 0 A) (F0 m 101 ls []) := by
      intro k h1 h2 hnm hfu H locs hP hD hS ls hl
      refine lv_iinc (v := nI (k + 1)) (lv' := [(6, .int (nI (k + 1))), (0, .ref m0), (3, .int a), (4, .int b), (5, .int (nI ((4096 * fi) + pl)))]) hx hb d_Mo_token_101 hl (k := 4) rfl (inc_nI _ _) (by decide) rfl (fun ls hl => ?_)
      refine lv_goto (tgt := 47) hx hb d_Mo_token_104 (by decide) ?_
      exact ih (k + 1) (by first | assumption | omega) (by first | assumption | omega) (by first | assumption | omega) (by omega) _ _ hP hD hS _ (lv_sub hl [1, 2, 3, 4, 0] rfl)
    intro k h1 h2 hnm hfu H locs hP hD hS ls hl
    refine lv_iload hx hb d_Mo_token_47 (lv_at hl 4 rfl) ?_
    refine lv_aload_n hx hb d_Mo_token_49 rfl (lv_at hl 0 rfl) ?_
    refine xg hx hb hown htw hK hP 0 1 rfl k_Mo (by decide) fl_Mo_45 rfl d_Mo_token_50 ?_
    refine xc_ge (tgt := 107) (a := k) (b := T) hx hb (by omega) (by omega) d_Mo_token_53 (by decide) (fun c_53 => ?_) (fun c_53 => ?_)
    · exact absurd hdup (fun q => by obtain ⟨i, a1, a2, a3⟩ := q; exact hnm i a1 (by omega) a3)
    · refine lv_aload_n hx hb d_Mo_token_56 rfl (lv_at hl 0 rfl) ?_
      refine xg hx hb hown htw hK hP 0 4 rfl k_Mo (by decide) fl_Mo_13 rfl d_Mo_token_57 ?_
      refine lv_iload hx hb d_Mo_token_60 (lv_at hl 4 rfl) ?_
      refine xald_i hx hb hK hP 2 rfl (by omega) (by omega) d_Mo_token_62 ?_
      refine xi (y := nI (rs k)) rfl ?_
      refine lv_iload hx hb d_Mo_token_63 (lv_at hl 3 rfl) ?_
      refine xc_ne (tgt := 101) (a := rs k) (b := (4096 * fi) + pl) hx hb (by have := hrs k (by omega); omega) (by omega) d_Mo_token_65 (by decide) (fun c_65 => ?_) (fun c_65 => ?_)
      · exact jn_101 k (by first | assumption | omega) (by first | assumption | omega) (by exact fun i a1 a2 q => by rcases Nat.lt_or_ge i k with w | w; (exact hnm i a1 w q); (have e : i = k := by omega); (rw [e] at q; exact c_65 q.1)) (by first | assumption | omega) _ _ hP hD hS _ (lv_sub hl [0, 1, 2, 3, 4] rfl)
      · refine lv_aload_n hx hb d_Mo_token_68 rfl (lv_at hl 0 rfl) ?_
        refine xg hx hb hown htw hK hP 0 5 rfl k_Mo (by decide) fl_Mo_16 rfl d_Mo_token_69 ?_
        refine lv_iload hx hb d_Mo_token_72 (lv_at hl 4 rfl) ?_
        refine xald_i hx hb hK hP 3 rfl (by omega) (by omega) d_Mo_token_74 ?_
        refine lv_iload_n hx hb d_Mo_token_75 rfl (lv_at hl 1 rfl) ?_
        refine lv_icmp_ne (tgt := 101) hx hb d_Mo_token_76 (by decide) (fun c_76 => ?_) (fun c_76 => ?_)
        · exact jn_101 k (by first | assumption | omega) (by first | assumption | omega) (by exact fun i a1 a2 q => by rcases Nat.lt_or_ge i k with w | w; (exact hnm i a1 w q); (have e : i = k := by omega); (rw [e] at q; exact c_76 q.2.1)) (by first | assumption | omega) _ _ hP hD hS _ (lv_sub hl [0, 1, 2, 3, 4] rfl)
        · refine lv_aload_n hx hb d_Mo_token_79 rfl (lv_at hl 0 rfl) ?_
          refine xg hx hb hown htw hK hP 0 6 rfl k_Mo (by decide) fl_Mo_19 rfl d_Mo_token_80 ?_
          refine lv_iload hx hb d_Mo_token_83 (lv_at hl 4 rfl) ?_
          refine xald_i hx hb hK hP 4 rfl (by omega) (by omega) d_Mo_token_85 ?_
          refine lv_iload hx hb d_Mo_token_86 (lv_at hl 2 rfl) ?_
          refine lv_icmp_ne (tgt := 101) hx hb d_Mo_token_88 (by decide) (fun c_88 => ?_) (fun c_88 => ?_)
          · exact jn_101 k (by first | assumption | omega) (by first | assumption | omega) (by exact fun i a1 a2 q => by rcases Nat.lt_or_ge i k with w | w; (exact hnm i a1 w q); (have e : i = k := by omega); (rw [e] at q; exact c_88 q.2.2)) (by first | assumption | omega) _ _ hP hD hS _ (lv_sub hl [0, 1, 2, 3, 4] rfl)
          · refine lv_aload_n hx hb d_Mo_token_91 rfl (lv_at hl 0 rfl) ?_
            refine xg hx hb hown htw hK hP 0 1 rfl k_Mo (by decide) fl_Mo_45 rfl d_Mo_token_92 ?_
            refine lv_aload_n hx hb d_Mo_token_95 rfl (lv_at hl 0 rfl) ?_
            refine xg hx hb hown htw hK hP 0 2 rfl k_Mo (by decide) fl_Mo_42 rfl d_Mo_token_96 ?_
            refine lv_isub hx hb d_Mo_token_99 ?_
            refine xi (nI_sub (a := T) (b := hd) (by omega)) ?_
            exact xr_iret hx hb hr hlocks hP hD hS (Nat.le_of_ble_eq_true rfl) (Nat.le_of_ble_eq_true rfl) (⟨rfl, rfl⟩) d_Mo_token_100
set_option maxHeartbeats 4000000 in
set_option maxRecDepth 100000 in
theorem c_Mo_token_dup (l : Launch) (D : va_G) (K : Nat → ClassId) (m0 : Nat) (th : Nat) (T : Nat) (hd : Nat) (r1 : Nat) (r2 : Nat) (r3 : Nat) (r4 : Nat) (cm : Nat) (r5 : Nat) (r6 : Nat) (sg : Nat) (r7 : Nat) (sn : Nat) (r8 : Nat) (r9 : Nat) (rd : Nat → Nat) (rs : Nat → Nat) (ru : Nat → Int32) (rl : Nat → Int32) (fi : Nat) (pl : Nat) (a : Int32) (b : Int32) (hfi : fi ≤ 3) (hpl : pl ≤ 4095) (hhd : hd ≤ T) (hT : T < 520) (hrs : ∀ k, k < T → rs k < 2 ^ 24) (hdup : ∃ i, hd ≤ i ∧ i < T ∧ rs i = (4096 * fi) + pl ∧ ru i = a ∧ rl i = b) : CI l y_Mo_token b_Mo_token 7 .int ({ frames := 0, cells := 0, slots := 0, locals := 0 } : Room) D K [.ref m0, .int (nI fi), .int (nI pl), .int a, .int b] [(m0, .inr (8, [.int (nI th), .int (nI T), .int (nI hd), .ref r1, .ref r2, .ref r3, .ref r4, .int (nI cm), .ref r5, .ref r6, .int (nI sg), .ref r7, .int (nI sn), .ref r8, .ref r9])), (r1, .inl (K 0, 520, .inl (nA rd))), (r2, .inl (K 0, 520, .inl (nA rs))), (r3, .inl (K 0, 520, .inl ru)), (r4, .inl (K 0, 520, .inl rl))] (q_Mo_token_dup K m0 th T hd r1 r2 r3 r4 cm r5 r6 sg r7 sn r8 r9 rd rs ru rl fi pl a b) := by
  refine CI_of (by decide) (Nat.le_of_ble_eq_true rfl) ?_
  intro p e s m below meth c A b0 ls hF hA hP hD hl
  have hF2 := hF
  obtain ⟨hx, hb, hr, hml, hown, htw, hK, hlocks, hname⟩ := hF
  have hS : va_S A s.heap s.heap [] := va_S.rf
  have hl : lv_has ls 7 [(0, .ref m0), (1, .int (nI fi)), (2, .int (nI pl)), (3, .int a), (4, .int b)] := hl
  refine lv_aload_n hx hb d_Mo_token_0 rfl (lv_at hl 0 rfl) ?_
  refine lv_iconst (v := nI 0) hx hb d_Mo_token_1 (by decide) ?_
  refine xpt hx hb hown htw hK hP hD hS 0 0 rfl k_Mo (by decide) fl_Mo_38 rfl rfl rfl (Nat.le_of_ble_eq_true rfl) d_Mo_token_2 (fun H locs hP hD hS => ?_)
  have hP : va_P D classes [(m0, .inr (8, [.int (nI 0), .int (nI T), .int (nI hd), .ref r1, .ref r2, .ref r3, .ref r4, .int (nI cm), .ref r5, .ref r6, .int (nI sg), .ref r7, .int (nI sn), .ref r8, .ref r9])), (r1, .inl (K 0, 520, .inl (nA rd))), (r2, .inl (K 0, 520, .inl (nA rs))), (r3, .inl (K 0, 520, .inl ru)), (r4, .inl (K 0, 520, .inl rl))] H := hP
  have hD : va_D A [(m0, .inr (8, [.int (nI 0), .int (nI T), .int (nI hd), .ref r1, .ref r2, .ref r3, .ref r4, .int (nI cm), .ref r5, .ref r6, .int (nI sg), .ref r7, .int (nI sn), .ref r8, .ref r9])), (r1, .inl (K 0, 520, .inl (nA rd))), (r2, .inl (K 0, 520, .inl (nA rs))), (r3, .inl (K 0, 520, .inl ru)), (r4, .inl (K 0, 520, .inl rl))] := hD
  refine lv_iload_n hx hb d_Mo_token_5 rfl (lv_at hl 1 rfl) ?_
  refine xz_lt (a := fi) hx hb (by omega) d_Mo_token_6 25 (by decide) ?_
  refine lv_iload_n hx hb d_Mo_token_9 rfl (lv_at hl 1 rfl) ?_
  refine lv_iconst (v := nI 3) hx hb d_Mo_token_10 (by decide) ?_
  refine xc_gt (tgt := 25) (a := fi) (b := 3) hx hb (by omega) (by omega) d_Mo_token_11 (by decide) (fun c_11 => ?_) (fun c_11 => ?_)
  · omega
  · refine lv_iload_n hx hb d_Mo_token_14 rfl (lv_at hl 2 rfl) ?_
    refine xz_lt (a := pl) hx hb (by omega) d_Mo_token_15 25 (by decide) ?_
    refine lv_iload_n hx hb d_Mo_token_18 rfl (lv_at hl 2 rfl) ?_
    refine lv_sipush (v := nI 4095) hx hb d_Mo_token_19 (by decide) ?_
    refine xc_le (tgt := 32) (a := pl) (b := 4095) hx hb (by omega) (by omega) d_Mo_token_22 (by decide) (fun c_22 => ?_) (fun c_22 => ?_)
    · refine lv_sipush (v := nI 4096) hx hb d_Mo_token_32 (by decide) ?_
      refine lv_iload_n hx hb d_Mo_token_35 rfl (lv_at hl 1 rfl) ?_
      refine lv_imul hx hb d_Mo_token_36 ?_
      refine xi (nI_mul 4096 fi) ?_
      refine lv_iload_n hx hb d_Mo_token_37 rfl (lv_at hl 2 rfl) ?_
      refine lv_iadd hx hb d_Mo_token_38 ?_
      refine xi (nI_add (4096 * fi) pl) ?_
      refine lv_istore (lv' := [(5, .int (nI ((4096 * fi) + pl))), (0, .ref m0), (1, .int (nI fi)), (2, .int (nI pl)), (3, .int a), (4, .int b)]) hx hb d_Mo_token_39 hl (by decide) rfl (fun ls hl => ?_)
      refine lv_aload_n hx hb d_Mo_token_41 rfl (lv_at hl 1 rfl) ?_
      refine xg hx hb hown htw hK hP 0 2 rfl k_Mo (by decide) fl_Mo_42 rfl d_Mo_token_42 ?_
      refine lv_istore (lv' := [(6, .int (nI hd)), (5, .int (nI ((4096 * fi) + pl))), (0, .ref m0), (1, .int (nI fi)), (2, .int (nI pl)), (3, .int a), (4, .int b)]) hx hb d_Mo_token_45 hl (by decide) rfl (fun ls hl => ?_)
      exact lp_Mo_token_dup_47 (l := l) m0 th T hd r1 r2 r3 r4 cm r5 r6 sg r7 sn r8 r9 rd rs ru rl fi pl a b hfi hpl hhd hT hrs hdup hF2 hA _ hd (by first | assumption | omega) (by first | assumption | omega) (by exact fun i a1 a2 => by omega) (Nat.lt_succ_self _) _ _ hP hD hS _ (lv_sub hl [2, 5, 6, 1, 0] rfl)
    · omega

abbrev q_Mo_token_full (K : Nat → ClassId) (m0 : Nat) (th : Nat) (T : Nat) (hd : Nat) (r1 : Nat) (r2 : Nat) (r3 : Nat) (r4 : Nat) (cm : Nat) (r5 : Nat) (r6 : Nat) (sg : Nat) (r7 : Nat) (sn : Nat) (r8 : Nat) (r9 : Nat) (rd : Nat → Nat) (rs : Nat → Nat) (ru : Nat → Int32) (rl : Nat → Int32) (fi : Nat) (pl : Nat) (a : Int32) (b : Int32) : Int32 → va_W → Prop := fun r u => u = [(m0, .inr (8, [.int (nI 2), .int (nI T), .int (nI hd), .ref r1, .ref r2, .ref r3, .ref r4, .int (nI cm), .ref r5, .ref r6, .int (nI sg), .ref r7, .int (nI sn), .ref r8, .ref r9])), (r1, .inl (K 0, 520, .inl (nA rd))), (r2, .inl (K 0, 520, .inl (nA rs))), (r3, .inl (K 0, 520, .inl ru)), (r4, .inl (K 0, 520, .inl rl))] ∧ r = nI 0
set_option maxHeartbeats 4000000 in
set_option maxRecDepth 100000 in
theorem lp_Mo_token_full_47 {p : Program} {l : Launch} {e : Env} {s : State} {m : MethodId} {below : List Frame} {meth : Method} {c : Code} {A : Nat → Prop} {D : va_G} {K : Nat → ClassId} (m0 : Nat) (th : Nat) (T : Nat) (hd : Nat) (r1 : Nat) (r2 : Nat) (r3 : Nat) (r4 : Nat) (cm : Nat) (r5 : Nat) (r6 : Nat) (sg : Nat) (r7 : Nat) (sn : Nat) (r8 : Nat) (r9 : Nat) (rd : Nat → Nat) (rs : Nat → Nat) (ru : Nat → Int32) (rl : Nat → Int32) (fi : Nat) (pl : Nat) (a : Int32) (b : Int32) (hfi : fi ≤ 3) (hpl : pl ≤ 4095) (hhd : hd ≤ T) (hT : T < 520) (hrs : ∀ k, k < T → rs k < 2 ^ 24) (hno : ¬ ∃ i, hd ≤ i ∧ i < T ∧ rs i = (4096 * fi) + pl ∧ ru i = a ∧ rl i = b) (hfull : 120 ≤ T - hd) (hF : Fx p s m meth c y_Mo_token b_Mo_token 7 (some .int) D K) {b0 : Nat} (hA : AS K s A b0) : ∀ fuel : Nat, ∀ k : Nat, (hd ≤ k) → (k ≤ T) → (∀ i, hd ≤ i → i < k → ¬ (rs i = (4096 * fi) + pl ∧ ru i = a ∧ rl i = b)) → T - k < fuel → ∀ (H : Heap) (locs : List Loc), va_P D classes [(m0, .inr (8, [.int (nI 0), .int (nI T), .int (nI hd), .ref r1, .ref r2, .ref r3, .ref r4, .int (nI cm), .ref r5, .ref r6, .int (nI sg), .ref r7, .int (nI sn), .ref r8, .ref r9])), (r1, .inl (K 0, 520, .inl (nA rd))), (r2, .inl (K 0, 520, .inl (nA rs))), (r3, .inl (K 0, 520, .inl ru)), (r4, .inl (K 0, 520, .inl rl))] H → va_D A [(m0, .inr (8, [.int (nI 0), .int (nI T), .int (nI hd), .ref r1, .ref r2, .ref r3, .ref r4, .int (nI cm), .ref r5, .ref r6, .int (nI sg), .ref r7, .int (nI sn), .ref r8, .ref r9])), (r1, .inl (K 0, 520, .inl (nA rd))), (r2, .inl (K 0, 520, .inl (nA rs))), (r3, .inl (K 0, 520, .inl ru)), (r4, .inl (K 0, 520, .inl rl))] → va_S A s.heap H locs → ∀ ls : Array Slot, lv_has ls 7 [(0, .ref m0), (3, .int a), (4, .int b), (5, .int (nI ((4096 * fi) + pl))), (6, .int (nI k))] → W p l e ({ frames := 0, cells := 0, slots := 0, locals := 0 } : Room) s m ([.ref m0, .int (nI fi), .int (nI pl), .int a, .int b] : List Value).toArray below meth c H locs 0 0 (MQ below (va_Qi (q_Mo_token_full K m0 th T hd r1 r2 r3 r4 cm r5 r6 sg r7 sn r8 r9 rd rs ru rl fi pl a b) (fun u t => va_P D classes u t.heap ∧ va_D A u) A) ([.ref m0, .int (nI fi), .int (nI pl), .int a, .int b] : List Value).toArray s 0 0 A) (F0 m 47 ls []) := by
  have hF2 := hF
  obtain ⟨hx, hb, hr, hml, hown, htw, hK, hlocks, hname⟩ := hF
  intro fuel
  induction fuel with
  | zero => intros; omega
  | succ fuel ih =>
    have jn_101 : ∀ k : Nat, (hd ≤ k) → (k < T) → (∀ i, hd ≤ i → i < k + 1 → ¬ (rs i = (4096 * fi) + pl ∧ ru i = a ∧ rl i = b)) → (T - k < fuel + 1) → ∀ (H : Heap) (locs : List Loc), va_P D classes [(m0, .inr (8, [.int (nI 0), .int (nI T), .int (nI hd), .ref r1, .ref r2, .ref r3, .ref r4, .int (nI cm), .ref r5, .ref r6, .int (nI sg), .ref r7, .int (nI sn), .ref r8, .ref r9])), (r1, .inl (K 0, 520, .inl (nA rd))), (r2, .inl (K 0, 520, .inl (nA rs))), (r3, .inl (K 0, 520, .inl ru)), (r4, .inl (K 0, 520, .inl rl))] H → va_D A [(m0, .inr (8, [.int (nI 0), .int (nI T), .int (nI hd), .ref r1, .ref r2, .ref r3, .ref r4, .int (nI cm), .ref r5, .ref r6, .int (nI sg), .ref r7, .int (nI sn), .ref r8, .ref r9])), (r1, .inl (K 0, 520, .inl (nA rd))), (r2, .inl (K 0, 520, .inl (nA rs))), (r3, .inl (K 0, 520, .inl ru)), (r4, .inl (K 0, 520, .inl rl))] → va_S A s.heap H locs → ∀ ls : Array Slot, lv_has ls 7 [(0, .ref m0), (3, .int a), (4, .int b), (5, .int (nI ((4096 * fi) + pl))), (6, .int (nI k))] → W p l e ({ frames := 0, cells := 0, slots := 0, locals := 0 } : Room) s m ([.ref m0, .int (nI fi), .int (nI pl), .int a, .int b] : List Value).toArray below meth c H locs 0 0 (MQ below (va_Qi (q_Mo_token_full K m0 th T hd r1 r2 r3 r4 cm r5 r6 sg r7 sn r8 r9 rd rs ru rl fi pl a b) (fun u t => va_P D classes u t.heap ∧ va_D A u) A) ([.ref m0, .int (nI fi), .int (nI pl), .int a, .int b] : List Value).toArray s 0 0 A) (F0 m 101 ls []) := by
      intro k h1 h2 hnm hfu H locs hP hD hS ls hl
      refine lv_iinc (v := nI (k + 1)) (lv' := [(6, .int (nI (k + 1))), (0, .ref m0), (3, .int a), (4, .int b), (5, .int (nI ((4096 * fi) + pl)))]) hx hb d_Mo_token_101 hl (k := 4) rfl (inc_nI _ _) (by decide) rfl (fun ls hl => ?_)
      refine lv_goto (tgt := 47) hx hb d_Mo_token_104 (by decide) ?_
      exact ih (k + 1) (by first | assumption | omega) (by first | assumption | omega) (by first | assumption | omega) (by omega) _ _ hP hD hS _ (lv_sub hl [1, 2, 3, 4, 0] rfl)
    intro k h1 h2 hnm hfu H locs hP hD hS ls hl
    refine lv_iload hx hb d_Mo_token_47 (lv_at hl 4 rfl) ?_
    refine lv_aload_n hx hb d_Mo_token_49 rfl (lv_at hl 0 rfl) ?_
    refine xg hx hb hown htw hK hP 0 1 rfl k_Mo (by decide) fl_Mo_45 rfl d_Mo_token_50 ?_
    refine xc_ge (tgt := 107) (a := k) (b := T) hx hb (by omega) (by omega) d_Mo_token_53 (by decide) (fun c_53 => ?_) (fun c_53 => ?_)
    · refine lv_aload_n hx hb d_Mo_token_107 rfl (lv_at hl 0 rfl) ?_
      refine xg hx hb hown htw hK hP 0 1 rfl k_Mo (by decide) fl_Mo_45 rfl d_Mo_token_108 ?_
      refine lv_aload_n hx hb d_Mo_token_111 rfl (lv_at hl 0 rfl) ?_
      refine xg hx hb hown htw hK hP 0 2 rfl k_Mo (by decide) fl_Mo_42 rfl d_Mo_token_112 ?_
      refine lv_isub hx hb d_Mo_token_115 ?_
      refine xi (nI_sub (a := T) (b := hd) (by omega)) ?_
      refine lv_bipush (v := nI 120) hx hb d_Mo_token_116 (by decide) ?_
      refine xc_lt (tgt := 128) (a := T - hd) (b := 120) hx hb (by omega) (by omega) d_Mo_token_118 (by decide) (fun c_118 => ?_) (fun c_118 => ?_)
      · omega
      · refine lv_aload_n hx hb d_Mo_token_121 rfl (lv_at hl 0 rfl) ?_
        refine lv_iconst (v := nI 2) hx hb d_Mo_token_122 (by decide) ?_
        refine xpt hx hb hown htw hK hP hD hS 0 0 rfl k_Mo (by decide) fl_Mo_38 rfl rfl rfl (Nat.le_of_ble_eq_true rfl) d_Mo_token_123 (fun H locs hP hD hS => ?_)
        have hP : va_P D classes [(m0, .inr (8, [.int (nI 2), .int (nI T), .int (nI hd), .ref r1, .ref r2, .ref r3, .ref r4, .int (nI cm), .ref r5, .ref r6, .int (nI sg), .ref r7, .int (nI sn), .ref r8, .ref r9])), (r1, .inl (K 0, 520, .inl (nA rd))), (r2, .inl (K 0, 520, .inl (nA rs))), (r3, .inl (K 0, 520, .inl ru)), (r4, .inl (K 0, 520, .inl rl))] H := hP
        have hD : va_D A [(m0, .inr (8, [.int (nI 2), .int (nI T), .int (nI hd), .ref r1, .ref r2, .ref r3, .ref r4, .int (nI cm), .ref r5, .ref r6, .int (nI sg), .ref r7, .int (nI sn), .ref r8, .ref r9])), (r1, .inl (K 0, 520, .inl (nA rd))), (r2, .inl (K 0, 520, .inl (nA rs))), (r3, .inl (K 0, 520, .inl ru)), (r4, .inl (K 0, 520, .inl rl))] := hD
        refine lv_iconst (v := nI 0) hx hb d_Mo_token_126 (by decide) ?_
        exact xr_iret hx hb hr hlocks hP hD hS (Nat.le_of_ble_eq_true rfl) (Nat.le_of_ble_eq_true rfl) (⟨rfl, rfl⟩) d_Mo_token_127
    · refine lv_aload_n hx hb d_Mo_token_56 rfl (lv_at hl 0 rfl) ?_
      refine xg hx hb hown htw hK hP 0 4 rfl k_Mo (by decide) fl_Mo_13 rfl d_Mo_token_57 ?_
      refine lv_iload hx hb d_Mo_token_60 (lv_at hl 4 rfl) ?_
      refine xald_i hx hb hK hP 2 rfl (by omega) (by omega) d_Mo_token_62 ?_
      refine xi (y := nI (rs k)) rfl ?_
      refine lv_iload hx hb d_Mo_token_63 (lv_at hl 3 rfl) ?_
      refine xc_ne (tgt := 101) (a := rs k) (b := (4096 * fi) + pl) hx hb (by have := hrs k (by omega); omega) (by omega) d_Mo_token_65 (by decide) (fun c_65 => ?_) (fun c_65 => ?_)
      · exact jn_101 k (by first | assumption | omega) (by first | assumption | omega) (by exact fun i a1 a2 q => by rcases Nat.lt_or_ge i k with w | w; (exact hnm i a1 w q); (have e : i = k := by omega); (rw [e] at q; exact c_65 q.1)) (by first | assumption | omega) _ _ hP hD hS _ (lv_sub hl [0, 1, 2, 3, 4] rfl)
      · refine lv_aload_n hx hb d_Mo_token_68 rfl (lv_at hl 0 rfl) ?_
        refine xg hx hb hown htw hK hP 0 5 rfl k_Mo (by decide) fl_Mo_16 rfl d_Mo_token_69 ?_
        refine lv_iload hx hb d_Mo_token_72 (lv_at hl 4 rfl) ?_
        refine xald_i hx hb hK hP 3 rfl (by omega) (by omega) d_Mo_token_74 ?_
        refine lv_iload_n hx hb d_Mo_token_75 rfl (lv_at hl 1 rfl) ?_
        refine lv_icmp_ne (tgt := 101) hx hb d_Mo_token_76 (by decide) (fun c_76 => ?_) (fun c_76 => ?_)
        · exact jn_101 k (by first | assumption | omega) (by first | assumption | omega) (by exact fun i a1 a2 q => by rcases Nat.lt_or_ge i k with w | w; (exact hnm i a1 w q); (have e : i = k := by omega); (rw [e] at q; exact c_76 q.2.1)) (by first | assumption | omega) _ _ hP hD hS _ (lv_sub hl [0, 1, 2, 3, 4] rfl)
        · refine lv_aload_n hx hb d_Mo_token_79 rfl (lv_at hl 0 rfl) ?_
          refine xg hx hb hown htw hK hP 0 6 rfl k_Mo (by decide) fl_Mo_19 rfl d_Mo_token_80 ?_
          refine lv_iload hx hb d_Mo_token_83 (lv_at hl 4 rfl) ?_
          refine xald_i hx hb hK hP 4 rfl (by omega) (by omega) d_Mo_token_85 ?_
          refine lv_iload hx hb d_Mo_token_86 (lv_at hl 2 rfl) ?_
          refine lv_icmp_ne (tgt := 101) hx hb d_Mo_token_88 (by decide) (fun c_88 => ?_) (fun c_88 => ?_)
          · exact jn_101 k (by first | assumption | omega) (by first | assumption | omega) (by exact fun i a1 a2 q => by rcases Nat.lt_or_ge i k with w | w; (exact hnm i a1 w q); (have e : i = k := by omega); (rw [e] at q; exact c_88 q.2.2)) (by first | assumption | omega) _ _ hP hD hS _ (lv_sub hl [0, 1, 2, 3, 4] rfl)
          · exact absurd ⟨k, h1, c_53, c_65, c_76, c_88⟩ hno
set_option maxHeartbeats 4000000 in
set_option maxRecDepth 100000 in
theorem c_Mo_token_full (l : Launch) (D : va_G) (K : Nat → ClassId) (m0 : Nat) (th : Nat) (T : Nat) (hd : Nat) (r1 : Nat) (r2 : Nat) (r3 : Nat) (r4 : Nat) (cm : Nat) (r5 : Nat) (r6 : Nat) (sg : Nat) (r7 : Nat) (sn : Nat) (r8 : Nat) (r9 : Nat) (rd : Nat → Nat) (rs : Nat → Nat) (ru : Nat → Int32) (rl : Nat → Int32) (fi : Nat) (pl : Nat) (a : Int32) (b : Int32) (hfi : fi ≤ 3) (hpl : pl ≤ 4095) (hhd : hd ≤ T) (hT : T < 520) (hrs : ∀ k, k < T → rs k < 2 ^ 24) (hno : ¬ ∃ i, hd ≤ i ∧ i < T ∧ rs i = (4096 * fi) + pl ∧ ru i = a ∧ rl i = b) (hfull : 120 ≤ T - hd) : CI l y_Mo_token b_Mo_token 7 .int ({ frames := 0, cells := 0, slots := 0, locals := 0 } : Room) D K [.ref m0, .int (nI fi), .int (nI pl), .int a, .int b] [(m0, .inr (8, [.int (nI th), .int (nI T), .int (nI hd), .ref r1, .ref r2, .ref r3, .ref r4, .int (nI cm), .ref r5, .ref r6, .int (nI sg), .ref r7, .int (nI sn), .ref r8, .ref r9])), (r1, .inl (K 0, 520, .inl (nA rd))), (r2, .inl (K 0, 520, .inl (nA rs))), (r3, .inl (K 0, 520, .inl ru)), (r4, .inl (K 0, 520, .inl rl))] (q_Mo_token_full K m0 th T hd r1 r2 r3 r4 cm r5 r6 sg r7 sn r8 r9 rd rs ru rl fi pl a b) := by
  refine CI_of (by decide) (Nat.le_of_ble_eq_true rfl) ?_
  intro p e s m below meth c A b0 ls hF hA hP hD hl
  have hF2 := hF
  obtain ⟨hx, hb, hr, hml, hown, htw, hK, hlocks, hname⟩ := hF
  have hS : va_S A s.heap s.heap [] := va_S.rf
  have hl : lv_has ls 7 [(0, .ref m0), (1, .int (nI fi)), (2, .int (nI pl)), (3, .int a), (4, .int b)] := hl
  refine lv_aload_n hx hb d_Mo_token_0 rfl (lv_at hl 0 rfl) ?_
  refine lv_iconst (v := nI 0) hx hb d_Mo_token_1 (by decide) ?_
  refine xpt hx hb hown htw hK hP hD hS 0 0 rfl k_Mo (by decide) fl_Mo_38 rfl rfl rfl (Nat.le_of_ble_eq_true rfl) d_Mo_token_2 (fun H locs hP hD hS => ?_)
  have hP : va_P D classes [(m0, .inr (8, [.int (nI 0), .int (nI T), .int (nI hd), .ref r1, .ref r2, .ref r3, .ref r4, .int (nI cm), .ref r5, .ref r6, .int (nI sg), .ref r7, .int (nI sn), .ref r8, .ref r9])), (r1, .inl (K 0, 520, .inl (nA rd))), (r2, .inl (K 0, 520, .inl (nA rs))), (r3, .inl (K 0, 520, .inl ru)), (r4, .inl (K 0, 520, .inl rl))] H := hP
  have hD : va_D A [(m0, .inr (8, [.int (nI 0), .int (nI T), .int (nI hd), .ref r1, .ref r2, .ref r3, .ref r4, .int (nI cm), .ref r5, .ref r6, .int (nI sg), .ref r7, .int (nI sn), .ref r8, .ref r9])), (r1, .inl (K 0, 520, .inl (nA rd))), (r2, .inl (K 0, 520, .inl (nA rs))), (r3, .inl (K 0, 520, .inl ru)), (r4, .inl (K 0, 520, .inl rl))] := hD
  refine lv_iload_n hx hb d_Mo_token_5 rfl (lv_at hl 1 rfl) ?_
  refine xz_lt (a := fi) hx hb (by omega) d_Mo_token_6 25 (by decide) ?_
  refine lv_iload_n hx hb d_Mo_token_9 rfl (lv_at hl 1 rfl) ?_
  refine lv_iconst (v := nI 3) hx hb d_Mo_token_10 (by decide) ?_
  refine xc_gt (tgt := 25) (a := fi) (b := 3) hx hb (by omega) (by omega) d_Mo_token_11 (by decide) (fun c_11 => ?_) (fun c_11 => ?_)
  · omega
  · refine lv_iload_n hx hb d_Mo_token_14 rfl (lv_at hl 2 rfl) ?_
    refine xz_lt (a := pl) hx hb (by omega) d_Mo_token_15 25 (by decide) ?_
    refine lv_iload_n hx hb d_Mo_token_18 rfl (lv_at hl 2 rfl) ?_
    refine lv_sipush (v := nI 4095) hx hb d_Mo_token_19 (by decide) ?_
    refine xc_le (tgt := 32) (a := pl) (b := 4095) hx hb (by omega) (by omega) d_Mo_token_22 (by decide) (fun c_22 => ?_) (fun c_22 => ?_)
    · refine lv_sipush (v := nI 4096) hx hb d_Mo_token_32 (by decide) ?_
      refine lv_iload_n hx hb d_Mo_token_35 rfl (lv_at hl 1 rfl) ?_
      refine lv_imul hx hb d_Mo_token_36 ?_
      refine xi (nI_mul 4096 fi) ?_
      refine lv_iload_n hx hb d_Mo_token_37 rfl (lv_at hl 2 rfl) ?_
      refine lv_iadd hx hb d_Mo_token_38 ?_
      refine xi (nI_add (4096 * fi) pl) ?_
      refine lv_istore (lv' := [(5, .int (nI ((4096 * fi) + pl))), (0, .ref m0), (1, .int (nI fi)), (2, .int (nI pl)), (3, .int a), (4, .int b)]) hx hb d_Mo_token_39 hl (by decide) rfl (fun ls hl => ?_)
      refine lv_aload_n hx hb d_Mo_token_41 rfl (lv_at hl 1 rfl) ?_
      refine xg hx hb hown htw hK hP 0 2 rfl k_Mo (by decide) fl_Mo_42 rfl d_Mo_token_42 ?_
      refine lv_istore (lv' := [(6, .int (nI hd)), (5, .int (nI ((4096 * fi) + pl))), (0, .ref m0), (1, .int (nI fi)), (2, .int (nI pl)), (3, .int a), (4, .int b)]) hx hb d_Mo_token_45 hl (by decide) rfl (fun ls hl => ?_)
      exact lp_Mo_token_full_47 (l := l) m0 th T hd r1 r2 r3 r4 cm r5 r6 sg r7 sn r8 r9 rd rs ru rl fi pl a b hfi hpl hhd hT hrs hno hfull hF2 hA _ hd (by first | assumption | omega) (by first | assumption | omega) (by exact fun i a1 a2 => by omega) (Nat.lt_succ_self _) _ _ hP hD hS _ (lv_sub hl [2, 5, 6, 1, 0] rfl)
    · omega

abbrev q_Mo_token_new (K : Nat → ClassId) (m0 : Nat) (th : Nat) (T : Nat) (hd : Nat) (r1 : Nat) (r2 : Nat) (r3 : Nat) (r4 : Nat) (cm : Nat) (r5 : Nat) (r6 : Nat) (sg : Nat) (r7 : Nat) (sn : Nat) (r8 : Nat) (r9 : Nat) (rd : Nat → Nat) (rs : Nat → Nat) (ru : Nat → Int32) (rl : Nat → Int32) (fi : Nat) (pl : Nat) (a : Int32) (b : Int32) : Int32 → va_W → Prop := fun r u => u = [(m0, .inr (8, [.int (nI 0), .int (nI (T + 1)), .int (nI hd), .ref r1, .ref r2, .ref r3, .ref r4, .int (nI cm), .ref r5, .ref r6, .int (nI sg), .ref r7, .int (nI sn), .ref r8, .ref r9])), (r1, .inl (K 0, 520, .inl (nA (va_up rd T cm)))), (r2, .inl (K 0, 520, .inl (nA (va_up rs T ((4096 * fi) + pl))))), (r3, .inl (K 0, 520, .inl (upd ru T a))), (r4, .inl (K 0, 520, .inl (upd rl T b)))] ∧ r = nI ((T + 1) - hd)
set_option maxHeartbeats 4000000 in
set_option maxRecDepth 100000 in
theorem lp_Mo_token_new_47 {p : Program} {l : Launch} {e : Env} {s : State} {m : MethodId} {below : List Frame} {meth : Method} {c : Code} {A : Nat → Prop} {D : va_G} {K : Nat → ClassId} (m0 : Nat) (th : Nat) (T : Nat) (hd : Nat) (r1 : Nat) (r2 : Nat) (r3 : Nat) (r4 : Nat) (cm : Nat) (r5 : Nat) (r6 : Nat) (sg : Nat) (r7 : Nat) (sn : Nat) (r8 : Nat) (r9 : Nat) (rd : Nat → Nat) (rs : Nat → Nat) (ru : Nat → Int32) (rl : Nat → Int32) (fi : Nat) (pl : Nat) (a : Int32) (b : Int32) (hfi : fi ≤ 3) (hpl : pl ≤ 4095) (hhd : hd ≤ T) (hT : T < 520) (hrs : ∀ k, k < T → rs k < 2 ^ 24) (hno : ¬ ∃ i, hd ≤ i ∧ i < T ∧ rs i = (4096 * fi) + pl ∧ ru i = a ∧ rl i = b) (hfull : T - hd < 120) (hF : Fx p s m meth c y_Mo_token b_Mo_token 7 (some .int) D K) {b0 : Nat} (hA : AS K s A b0) : ∀ fuel : Nat, ∀ k : Nat, (hd ≤ k) → (k ≤ T) → (∀ i, hd ≤ i → i < k → ¬ (rs i = (4096 * fi) + pl ∧ ru i = a ∧ rl i = b)) → T - k < fuel → ∀ (H : Heap) (locs : List Loc), va_P D classes [(m0, .inr (8, [.int (nI 0), .int (nI T), .int (nI hd), .ref r1, .ref r2, .ref r3, .ref r4, .int (nI cm), .ref r5, .ref r6, .int (nI sg), .ref r7, .int (nI sn), .ref r8, .ref r9])), (r1, .inl (K 0, 520, .inl (nA rd))), (r2, .inl (K 0, 520, .inl (nA rs))), (r3, .inl (K 0, 520, .inl ru)), (r4, .inl (K 0, 520, .inl rl))] H → va_D A [(m0, .inr (8, [.int (nI 0), .int (nI T), .int (nI hd), .ref r1, .ref r2, .ref r3, .ref r4, .int (nI cm), .ref r5, .ref r6, .int (nI sg), .ref r7, .int (nI sn), .ref r8, .ref r9])), (r1, .inl (K 0, 520, .inl (nA rd))), (r2, .inl (K 0, 520, .inl (nA rs))), (r3, .inl (K 0, 520, .inl ru)), (r4, .inl (K 0, 520, .inl rl))] → va_S A s.heap H locs → ∀ ls : Array Slot, lv_has ls 7 [(0, .ref m0), (3, .int a), (4, .int b), (5, .int (nI ((4096 * fi) + pl))), (6, .int (nI k))] → W p l e ({ frames := 0, cells := 0, slots := 0, locals := 0 } : Room) s m ([.ref m0, .int (nI fi), .int (nI pl), .int a, .int b] : List Value).toArray below meth c H locs 0 0 (MQ below (va_Qi (q_Mo_token_new K m0 th T hd r1 r2 r3 r4 cm r5 r6 sg r7 sn r8 r9 rd rs ru rl fi pl a b) (fun u t => va_P D classes u t.heap ∧ va_D A u) A) ([.ref m0, .int (nI fi), .int (nI pl), .int a, .int b] : List Value).toArray s 0 0 A) (F0 m 47 ls []) := by
  have hF2 := hF
  obtain ⟨hx, hb, hr, hml, hown, htw, hK, hlocks, hname⟩ := hF
  intro fuel
  induction fuel with
  | zero => intros; omega
  | succ fuel ih =>
    have jn_101 : ∀ k : Nat, (hd ≤ k) → (k < T) → (∀ i, hd ≤ i → i < k + 1 → ¬ (rs i = (4096 * fi) + pl ∧ ru i = a ∧ rl i = b)) → (T - k < fuel + 1) → ∀ (H : Heap) (locs : List Loc), va_P D classes [(m0, .inr (8, [.int (nI 0), .int (nI T), .int (nI hd), .ref r1, .ref r2, .ref r3, .ref r4, .int (nI cm), .ref r5, .ref r6, .int (nI sg), .ref r7, .int (nI sn), .ref r8, .ref r9])), (r1, .inl (K 0, 520, .inl (nA rd))), (r2, .inl (K 0, 520, .inl (nA rs))), (r3, .inl (K 0, 520, .inl ru)), (r4, .inl (K 0, 520, .inl rl))] H → va_D A [(m0, .inr (8, [.int (nI 0), .int (nI T), .int (nI hd), .ref r1, .ref r2, .ref r3, .ref r4, .int (nI cm), .ref r5, .ref r6, .int (nI sg), .ref r7, .int (nI sn), .ref r8, .ref r9])), (r1, .inl (K 0, 520, .inl (nA rd))), (r2, .inl (K 0, 520, .inl (nA rs))), (r3, .inl (K 0, 520, .inl ru)), (r4, .inl (K 0, 520, .inl rl))] → va_S A s.heap H locs → ∀ ls : Array Slot, lv_has ls 7 [(0, .ref m0), (3, .int a), (4, .int b), (5, .int (nI ((4096 * fi) + pl))), (6, .int (nI k))] → W p l e ({ frames := 0, cells := 0, slots := 0, locals := 0 } : Room) s m ([.ref m0, .int (nI fi), .int (nI pl), .int a, .int b] : List Value).toArray below meth c H locs 0 0 (MQ below (va_Qi (q_Mo_token_new K m0 th T hd r1 r2 r3 r4 cm r5 r6 sg r7 sn r8 r9 rd rs ru rl fi pl a b) (fun u t => va_P D classes u t.heap ∧ va_D A u) A) ([.ref m0, .int (nI fi), .int (nI pl), .int a, .int b] : List Value).toArray s 0 0 A) (F0 m 101 ls []) := by
      intro k h1 h2 hnm hfu H locs hP hD hS ls hl
      refine lv_iinc (v := nI (k + 1)) (lv' := [(6, .int (nI (k + 1))), (0, .ref m0), (3, .int a), (4, .int b), (5, .int (nI ((4096 * fi) + pl)))]) hx hb d_Mo_token_101 hl (k := 4) rfl (inc_nI _ _) (by decide) rfl (fun ls hl => ?_)
      refine lv_goto (tgt := 47) hx hb d_Mo_token_104 (by decide) ?_
      exact ih (k + 1) (by first | assumption | omega) (by first | assumption | omega) (by first | assumption | omega) (by omega) _ _ hP hD hS _ (lv_sub hl [1, 2, 3, 4, 0] rfl)
    intro k h1 h2 hnm hfu H locs hP hD hS ls hl
    refine lv_iload hx hb d_Mo_token_47 (lv_at hl 4 rfl) ?_
    refine lv_aload_n hx hb d_Mo_token_49 rfl (lv_at hl 0 rfl) ?_
    refine xg hx hb hown htw hK hP 0 1 rfl k_Mo (by decide) fl_Mo_45 rfl d_Mo_token_50 ?_
    refine xc_ge (tgt := 107) (a := k) (b := T) hx hb (by omega) (by omega) d_Mo_token_53 (by decide) (fun c_53 => ?_) (fun c_53 => ?_)
    · refine lv_aload_n hx hb d_Mo_token_107 rfl (lv_at hl 0 rfl) ?_
      refine xg hx hb hown htw hK hP 0 1 rfl k_Mo (by decide) fl_Mo_45 rfl d_Mo_token_108 ?_
      refine lv_aload_n hx hb d_Mo_token_111 rfl (lv_at hl 0 rfl) ?_
      refine xg hx hb hown htw hK hP 0 2 rfl k_Mo (by decide) fl_Mo_42 rfl d_Mo_token_112 ?_
      refine lv_isub hx hb d_Mo_token_115 ?_
      refine xi (nI_sub (a := T) (b := hd) (by omega)) ?_
      refine lv_bipush (v := nI 120) hx hb d_Mo_token_116 (by decide) ?_
      refine xc_lt (tgt := 128) (a := T - hd) (b := 120) hx hb (by omega) (by omega) d_Mo_token_118 (by decide) (fun c_118 => ?_) (fun c_118 => ?_)
      · refine lv_aload_n hx hb d_Mo_token_128 rfl (lv_at hl 0 rfl) ?_
        refine xg hx hb hown htw hK hP 0 3 rfl k_Mo (by decide) fl_Mo_7 rfl d_Mo_token_129 ?_
        refine lv_aload_n hx hb d_Mo_token_132 rfl (lv_at hl 0 rfl) ?_
        refine xg hx hb hown htw hK hP 0 1 rfl k_Mo (by decide) fl_Mo_45 rfl d_Mo_token_133 ?_
        refine lv_aload_n hx hb d_Mo_token_136 rfl (lv_at hl 0 rfl) ?_
        refine xg hx hb hown htw hK hP 0 7 rfl k_Mo (by decide) fl_Mo_48 rfl d_Mo_token_137 ?_
        refine xast_i hx hb hK hP hD hS 1 rfl (by omega) (by omega) d_Mo_token_140 (fun H locs hP hD hS => ?_)
        rw [upd_nA] at hP hD
        have hP : va_P D classes [(m0, .inr (8, [.int (nI 0), .int (nI T), .int (nI hd), .ref r1, .ref r2, .ref r3, .ref r4, .int (nI cm), .ref r5, .ref r6, .int (nI sg), .ref r7, .int (nI sn), .ref r8, .ref r9])), (r1, .inl (K 0, 520, .inl (nA (va_up rd T cm)))), (r2, .inl (K 0, 520, .inl (nA rs))), (r3, .inl (K 0, 520, .inl ru)), (r4, .inl (K 0, 520, .inl rl))] H := hP
        have hD : va_D A [(m0, .inr (8, [.int (nI 0), .int (nI T), .int (nI hd), .ref r1, .ref r2, .ref r3, .ref r4, .int (nI cm), .ref r5, .ref r6, .int (nI sg), .ref r7, .int (nI sn), .ref r8, .ref r9])), (r1, .inl (K 0, 520, .inl (nA (va_up rd T cm)))), (r2, .inl (K 0, 520, .inl (nA rs))), (r3, .inl (K 0, 520, .inl ru)), (r4, .inl (K 0, 520, .inl rl))] := hD
        refine lv_aload_n hx hb d_Mo_token_141 rfl (lv_at hl 0 rfl) ?_
        refine xg hx hb hown htw hK hP 0 4 rfl k_Mo (by decide) fl_Mo_13 rfl d_Mo_token_142 ?_
        refine lv_aload_n hx hb d_Mo_token_145 rfl (lv_at hl 0 rfl) ?_
        refine xg hx hb hown htw hK hP 0 1 rfl k_Mo (by decide) fl_Mo_45 rfl d_Mo_token_146 ?_
        refine lv_iload hx hb d_Mo_token_149 (lv_at hl 3 rfl) ?_
        refine xast_i hx hb hK hP hD hS 2 rfl (by omega) (by omega) d_Mo_token_151 (fun H locs hP hD hS => ?_)
        rw [upd_nA] at hP hD
        have hP : va_P D classes [(m0, .inr (8, [.int (nI 0), .int (nI T), .int (nI hd), .ref r1, .ref r2, .ref r3, .ref r4, .int (nI cm), .ref r5, .ref r6, .int (nI sg), .ref r7, .int (nI sn), .ref r8, .ref r9])), (r1, .inl (K 0, 520, .inl (nA (va_up rd T cm)))), (r2, .inl (K 0, 520, .inl (nA (va_up rs T ((4096 * fi) + pl))))), (r3, .inl (K 0, 520, .inl ru)), (r4, .inl (K 0, 520, .inl rl))] H := hP
        have hD : va_D A [(m0, .inr (8, [.int (nI 0), .int (nI T), .int (nI hd), .ref r1, .ref r2, .ref r3, .ref r4, .int (nI cm), .ref r5, .ref r6, .int (nI sg), .ref r7, .int (nI sn), .ref r8, .ref r9])), (r1, .inl (K 0, 520, .inl (nA (va_up rd T cm)))), (r2, .inl (K 0, 520, .inl (nA (va_up rs T ((4096 * fi) + pl))))), (r3, .inl (K 0, 520, .inl ru)), (r4, .inl (K 0, 520, .inl rl))] := hD
        refine lv_aload_n hx hb d_Mo_token_152 rfl (lv_at hl 0 rfl) ?_
        refine xg hx hb hown htw hK hP 0 5 rfl k_Mo (by decide) fl_Mo_16 rfl d_Mo_token_153 ?_
        refine lv_aload_n hx hb d_Mo_token_156 rfl (lv_at hl 0 rfl) ?_
        refine xg hx hb hown htw hK hP 0 1 rfl k_Mo (by decide) fl_Mo_45 rfl d_Mo_token_157 ?_
        refine lv_iload_n hx hb d_Mo_token_160 rfl (lv_at hl 1 rfl) ?_
        refine xast_i hx hb hK hP hD hS 3 rfl (by omega) (by omega) d_Mo_token_161 (fun H locs hP hD hS => ?_)
        have hP : va_P D classes [(m0, .inr (8, [.int (nI 0), .int (nI T), .int (nI hd), .ref r1, .ref r2, .ref r3, .ref r4, .int (nI cm), .ref r5, .ref r6, .int (nI sg), .ref r7, .int (nI sn), .ref r8, .ref r9])), (r1, .inl (K 0, 520, .inl (nA (va_up rd T cm)))), (r2, .inl (K 0, 520, .inl (nA (va_up rs T ((4096 * fi) + pl))))), (r3, .inl (K 0, 520, .inl (upd ru T a))), (r4, .inl (K 0, 520, .inl rl))] H := hP
        have hD : va_D A [(m0, .inr (8, [.int (nI 0), .int (nI T), .int (nI hd), .ref r1, .ref r2, .ref r3, .ref r4, .int (nI cm), .ref r5, .ref r6, .int (nI sg), .ref r7, .int (nI sn), .ref r8, .ref r9])), (r1, .inl (K 0, 520, .inl (nA (va_up rd T cm)))), (r2, .inl (K 0, 520, .inl (nA (va_up rs T ((4096 * fi) + pl))))), (r3, .inl (K 0, 520, .inl (upd ru T a))), (r4, .inl (K 0, 520, .inl rl))] := hD
        refine lv_aload_n hx hb d_Mo_token_162 rfl (lv_at hl 0 rfl) ?_
        refine xg hx hb hown htw hK hP 0 6 rfl k_Mo (by decide) fl_Mo_19 rfl d_Mo_token_163 ?_
        refine lv_aload_n hx hb d_Mo_token_166 rfl (lv_at hl 0 rfl) ?_
        refine xg hx hb hown htw hK hP 0 1 rfl k_Mo (by decide) fl_Mo_45 rfl d_Mo_token_167 ?_
        refine lv_iload hx hb d_Mo_token_170 (lv_at hl 2 rfl) ?_
        refine xast_i hx hb hK hP hD hS 4 rfl (by omega) (by omega) d_Mo_token_172 (fun H locs hP hD hS => ?_)
        have hP : va_P D classes [(m0, .inr (8, [.int (nI 0), .int (nI T), .int (nI hd), .ref r1, .ref r2, .ref r3, .ref r4, .int (nI cm), .ref r5, .ref r6, .int (nI sg), .ref r7, .int (nI sn), .ref r8, .ref r9])), (r1, .inl (K 0, 520, .inl (nA (va_up rd T cm)))), (r2, .inl (K 0, 520, .inl (nA (va_up rs T ((4096 * fi) + pl))))), (r3, .inl (K 0, 520, .inl (upd ru T a))), (r4, .inl (K 0, 520, .inl (upd rl T b)))] H := hP
        have hD : va_D A [(m0, .inr (8, [.int (nI 0), .int (nI T), .int (nI hd), .ref r1, .ref r2, .ref r3, .ref r4, .int (nI cm), .ref r5, .ref r6, .int (nI sg), .ref r7, .int (nI sn), .ref r8, .ref r9])), (r1, .inl (K 0, 520, .inl (nA (va_up rd T cm)))), (r2, .inl (K 0, 520, .inl (nA (va_up rs T ((4096 * fi) + pl))))), (r3, .inl (K 0, 520, .inl (upd ru T a))), (r4, .inl (K 0, 520, .inl (upd rl T b)))] := hD
        refine lv_aload_n hx hb d_Mo_token_173 rfl (lv_at hl 0 rfl) ?_
        refine lv_dup hx hb d_Mo_token_174 rfl ?_
        refine xg hx hb hown htw hK hP 0 1 rfl k_Mo (by decide) fl_Mo_45 rfl d_Mo_token_175 ?_
        refine lv_iconst (v := nI 1) hx hb d_Mo_token_178 (by decide) ?_
        refine lv_iadd hx hb d_Mo_token_179 ?_
        refine xi (nI_add T 1) ?_
        refine xpt hx hb hown htw hK hP hD hS 0 1 rfl k_Mo (by decide) fl_Mo_45 rfl rfl rfl (Nat.le_of_ble_eq_true rfl) d_Mo_token_180 (fun H locs hP hD hS => ?_)
        have hP : va_P D classes [(m0, .inr (8, [.int (nI 0), .int (nI (T + 1)), .int (nI hd), .ref r1, .ref r2, .ref r3, .ref r4, .int (nI cm), .ref r5, .ref r6, .int (nI sg), .ref r7, .int (nI sn), .ref r8, .ref r9])), (r1, .inl (K 0, 520, .inl (nA (va_up rd T cm)))), (r2, .inl (K 0, 520, .inl (nA (va_up rs T ((4096 * fi) + pl))))), (r3, .inl (K 0, 520, .inl (upd ru T a))), (r4, .inl (K 0, 520, .inl (upd rl T b)))] H := hP
        have hD : va_D A [(m0, .inr (8, [.int (nI 0), .int (nI (T + 1)), .int (nI hd), .ref r1, .ref r2, .ref r3, .ref r4, .int (nI cm), .ref r5, .ref r6, .int (nI sg), .ref r7, .int (nI sn), .ref r8, .ref r9])), (r1, .inl (K 0, 520, .inl (nA (va_up rd T cm)))), (r2, .inl (K 0, 520, .inl (nA (va_up rs T ((4096 * fi) + pl))))), (r3, .inl (K 0, 520, .inl (upd ru T a))), (r4, .inl (K 0, 520, .inl (upd rl T b)))] := hD
        refine lv_aload_n hx hb d_Mo_token_183 rfl (lv_at hl 0 rfl) ?_
        refine xg hx hb hown htw hK hP 0 1 rfl k_Mo (by decide) fl_Mo_45 rfl d_Mo_token_184 ?_
        refine lv_aload_n hx hb d_Mo_token_187 rfl (lv_at hl 0 rfl) ?_
        refine xg hx hb hown htw hK hP 0 2 rfl k_Mo (by decide) fl_Mo_42 rfl d_Mo_token_188 ?_
        refine lv_isub hx hb d_Mo_token_191 ?_
        refine xi (nI_sub (a := T + 1) (b := hd) (by omega)) ?_
        exact xr_iret hx hb hr hlocks hP hD hS (Nat.le_of_ble_eq_true rfl) (Nat.le_of_ble_eq_true rfl) (⟨rfl, rfl⟩) d_Mo_token_192
      · omega
    · refine lv_aload_n hx hb d_Mo_token_56 rfl (lv_at hl 0 rfl) ?_
      refine xg hx hb hown htw hK hP 0 4 rfl k_Mo (by decide) fl_Mo_13 rfl d_Mo_token_57 ?_
      refine lv_iload hx hb d_Mo_token_60 (lv_at hl 4 rfl) ?_
      refine xald_i hx hb hK hP 2 rfl (by omega) (by omega) d_Mo_token_62 ?_
      refine xi (y := nI (rs k)) rfl ?_
      refine lv_iload hx hb d_Mo_token_63 (lv_at hl 3 rfl) ?_
      refine xc_ne (tgt := 101) (a := rs k) (b := (4096 * fi) + pl) hx hb (by have := hrs k (by omega); omega) (by omega) d_Mo_token_65 (by decide) (fun c_65 => ?_) (fun c_65 => ?_)
      · exact jn_101 k (by first | assumption | omega) (by first | assumption | omega) (by exact fun i a1 a2 q => by rcases Nat.lt_or_ge i k with w | w; (exact hnm i a1 w q); (have e : i = k := by omega); (rw [e] at q; exact c_65 q.1)) (by first | assumption | omega) _ _ hP hD hS _ (lv_sub hl [0, 1, 2, 3, 4] rfl)
      · refine lv_aload_n hx hb d_Mo_token_68 rfl (lv_at hl 0 rfl) ?_
        refine xg hx hb hown htw hK hP 0 5 rfl k_Mo (by decide) fl_Mo_16 rfl d_Mo_token_69 ?_
        refine lv_iload hx hb d_Mo_token_72 (lv_at hl 4 rfl) ?_
        refine xald_i hx hb hK hP 3 rfl (by omega) (by omega) d_Mo_token_74 ?_
        refine lv_iload_n hx hb d_Mo_token_75 rfl (lv_at hl 1 rfl) ?_
        refine lv_icmp_ne (tgt := 101) hx hb d_Mo_token_76 (by decide) (fun c_76 => ?_) (fun c_76 => ?_)
        · exact jn_101 k (by first | assumption | omega) (by first | assumption | omega) (by exact fun i a1 a2 q => by rcases Nat.lt_or_ge i k with w | w; (exact hnm i a1 w q); (have e : i = k := by omega); (rw [e] at q; exact c_76 q.2.1)) (by first | assumption | omega) _ _ hP hD hS _ (lv_sub hl [0, 1, 2, 3, 4] rfl)
        · refine lv_aload_n hx hb d_Mo_token_79 rfl (lv_at hl 0 rfl) ?_
          refine xg hx hb hown htw hK hP 0 6 rfl k_Mo (by decide) fl_Mo_19 rfl d_Mo_token_80 ?_
          refine lv_iload hx hb d_Mo_token_83 (lv_at hl 4 rfl) ?_
          refine xald_i hx hb hK hP 4 rfl (by omega) (by omega) d_Mo_token_85 ?_
          refine lv_iload hx hb d_Mo_token_86 (lv_at hl 2 rfl) ?_
          refine lv_icmp_ne (tgt := 101) hx hb d_Mo_token_88 (by decide) (fun c_88 => ?_) (fun c_88 => ?_)
          · exact jn_101 k (by first | assumption | omega) (by first | assumption | omega) (by exact fun i a1 a2 q => by rcases Nat.lt_or_ge i k with w | w; (exact hnm i a1 w q); (have e : i = k := by omega); (rw [e] at q; exact c_88 q.2.2)) (by first | assumption | omega) _ _ hP hD hS _ (lv_sub hl [0, 1, 2, 3, 4] rfl)
          · exact absurd ⟨k, h1, c_53, c_65, c_76, c_88⟩ hno
set_option maxHeartbeats 4000000 in
set_option maxRecDepth 100000 in
theorem c_Mo_token_new (l : Launch) (D : va_G) (K : Nat → ClassId) (m0 : Nat) (th : Nat) (T : Nat) (hd : Nat) (r1 : Nat) (r2 : Nat) (r3 : Nat) (r4 : Nat) (cm : Nat) (r5 : Nat) (r6 : Nat) (sg : Nat) (r7 : Nat) (sn : Nat) (r8 : Nat) (r9 : Nat) (rd : Nat → Nat) (rs : Nat → Nat) (ru : Nat → Int32) (rl : Nat → Int32) (fi : Nat) (pl : Nat) (a : Int32) (b : Int32) (hfi : fi ≤ 3) (hpl : pl ≤ 4095) (hhd : hd ≤ T) (hT : T < 520) (hrs : ∀ k, k < T → rs k < 2 ^ 24) (hno : ¬ ∃ i, hd ≤ i ∧ i < T ∧ rs i = (4096 * fi) + pl ∧ ru i = a ∧ rl i = b) (hfull : T - hd < 120) : CI l y_Mo_token b_Mo_token 7 .int ({ frames := 0, cells := 0, slots := 0, locals := 0 } : Room) D K [.ref m0, .int (nI fi), .int (nI pl), .int a, .int b] [(m0, .inr (8, [.int (nI th), .int (nI T), .int (nI hd), .ref r1, .ref r2, .ref r3, .ref r4, .int (nI cm), .ref r5, .ref r6, .int (nI sg), .ref r7, .int (nI sn), .ref r8, .ref r9])), (r1, .inl (K 0, 520, .inl (nA rd))), (r2, .inl (K 0, 520, .inl (nA rs))), (r3, .inl (K 0, 520, .inl ru)), (r4, .inl (K 0, 520, .inl rl))] (q_Mo_token_new K m0 th T hd r1 r2 r3 r4 cm r5 r6 sg r7 sn r8 r9 rd rs ru rl fi pl a b) := by
  refine CI_of (by decide) (Nat.le_of_ble_eq_true rfl) ?_
  intro p e s m below meth c A b0 ls hF hA hP hD hl
  have hF2 := hF
  obtain ⟨hx, hb, hr, hml, hown, htw, hK, hlocks, hname⟩ := hF
  have hS : va_S A s.heap s.heap [] := va_S.rf
  have hl : lv_has ls 7 [(0, .ref m0), (1, .int (nI fi)), (2, .int (nI pl)), (3, .int a), (4, .int b)] := hl
  refine lv_aload_n hx hb d_Mo_token_0 rfl (lv_at hl 0 rfl) ?_
  refine lv_iconst (v := nI 0) hx hb d_Mo_token_1 (by decide) ?_
  refine xpt hx hb hown htw hK hP hD hS 0 0 rfl k_Mo (by decide) fl_Mo_38 rfl rfl rfl (Nat.le_of_ble_eq_true rfl) d_Mo_token_2 (fun H locs hP hD hS => ?_)
  have hP : va_P D classes [(m0, .inr (8, [.int (nI 0), .int (nI T), .int (nI hd), .ref r1, .ref r2, .ref r3, .ref r4, .int (nI cm), .ref r5, .ref r6, .int (nI sg), .ref r7, .int (nI sn), .ref r8, .ref r9])), (r1, .inl (K 0, 520, .inl (nA rd))), (r2, .inl (K 0, 520, .inl (nA rs))), (r3, .inl (K 0, 520, .inl ru)), (r4, .inl (K 0, 520, .inl rl))] H := hP
  have hD : va_D A [(m0, .inr (8, [.int (nI 0), .int (nI T), .int (nI hd), .ref r1, .ref r2, .ref r3, .ref r4, .int (nI cm), .ref r5, .ref r6, .int (nI sg), .ref r7, .int (nI sn), .ref r8, .ref r9])), (r1, .inl (K 0, 520, .inl (nA rd))), (r2, .inl (K 0, 520, .inl (nA rs))), (r3, .inl (K 0, 520, .inl ru)), (r4, .inl (K 0, 520, .inl rl))] := hD
  refine lv_iload_n hx hb d_Mo_token_5 rfl (lv_at hl 1 rfl) ?_
  refine xz_lt (a := fi) hx hb (by omega) d_Mo_token_6 25 (by decide) ?_
  refine lv_iload_n hx hb d_Mo_token_9 rfl (lv_at hl 1 rfl) ?_
  refine lv_iconst (v := nI 3) hx hb d_Mo_token_10 (by decide) ?_
  refine xc_gt (tgt := 25) (a := fi) (b := 3) hx hb (by omega) (by omega) d_Mo_token_11 (by decide) (fun c_11 => ?_) (fun c_11 => ?_)
  · omega
  · refine lv_iload_n hx hb d_Mo_token_14 rfl (lv_at hl 2 rfl) ?_
    refine xz_lt (a := pl) hx hb (by omega) d_Mo_token_15 25 (by decide) ?_
    refine lv_iload_n hx hb d_Mo_token_18 rfl (lv_at hl 2 rfl) ?_
    refine lv_sipush (v := nI 4095) hx hb d_Mo_token_19 (by decide) ?_
    refine xc_le (tgt := 32) (a := pl) (b := 4095) hx hb (by omega) (by omega) d_Mo_token_22 (by decide) (fun c_22 => ?_) (fun c_22 => ?_)
    · refine lv_sipush (v := nI 4096) hx hb d_Mo_token_32 (by decide) ?_
      refine lv_iload_n hx hb d_Mo_token_35 rfl (lv_at hl 1 rfl) ?_
      refine lv_imul hx hb d_Mo_token_36 ?_
      refine xi (nI_mul 4096 fi) ?_
      refine lv_iload_n hx hb d_Mo_token_37 rfl (lv_at hl 2 rfl) ?_
      refine lv_iadd hx hb d_Mo_token_38 ?_
      refine xi (nI_add (4096 * fi) pl) ?_
      refine lv_istore (lv' := [(5, .int (nI ((4096 * fi) + pl))), (0, .ref m0), (1, .int (nI fi)), (2, .int (nI pl)), (3, .int a), (4, .int b)]) hx hb d_Mo_token_39 hl (by decide) rfl (fun ls hl => ?_)
      refine lv_aload_n hx hb d_Mo_token_41 rfl (lv_at hl 1 rfl) ?_
      refine xg hx hb hown htw hK hP 0 2 rfl k_Mo (by decide) fl_Mo_42 rfl d_Mo_token_42 ?_
      refine lv_istore (lv' := [(6, .int (nI hd)), (5, .int (nI ((4096 * fi) + pl))), (0, .ref m0), (1, .int (nI fi)), (2, .int (nI pl)), (3, .int a), (4, .int b)]) hx hb d_Mo_token_45 hl (by decide) rfl (fun ls hl => ?_)
      exact lp_Mo_token_new_47 (l := l) m0 th T hd r1 r2 r3 r4 cm r5 r6 sg r7 sn r8 r9 rd rs ru rl fi pl a b hfi hpl hhd hT hrs hno hfull hF2 hA _ hd (by first | assumption | omega) (by first | assumption | omega) (by exact fun i a1 a2 => by omega) (Nat.lt_succ_self _) _ _ hP hD hS _ (lv_sub hl [2, 5, 6, 1, 0] rfl)
    · omega

abbrev q_Mo_inside (K : Nat → ClassId) (m0 : Nat) (th : Nat) (T : Nat) (hd : Nat) (r1 : Nat) (r2 : Nat) (r3 : Nat) (r4 : Nat) (cm : Nat) (r5 : Nat) (r6 : Nat) (sg : Nat) (r7 : Nat) (sn : Nat) (r8 : Nat) (r9 : Nat) (wh : Nat → Int) (x : Int) : Int32 → va_W → Prop := fun r u => u = [(m0, .inr (8, [.int (nI th), .int (nI T), .int (nI hd), .ref r1, .ref r2, .ref r3, .ref r4, .int (nI cm), .ref r5, .ref r6, .int (nI sg), .ref r7, .int (nI sn), .ref r8, .ref r9])), (r5, .inl (K 0, 600, .inl (zA wh)))] ∧ r = nI (cnz wh x cm)
set_option maxHeartbeats 4000000 in
set_option maxRecDepth 100000 in
theorem lp_Mo_inside_4 {p : Program} {l : Launch} {e : Env} {s : State} {m : MethodId} {below : List Frame} {meth : Method} {c : Code} {A : Nat → Prop} {D : va_G} {K : Nat → ClassId} (m0 : Nat) (th : Nat) (T : Nat) (hd : Nat) (r1 : Nat) (r2 : Nat) (r3 : Nat) (r4 : Nat) (cm : Nat) (r5 : Nat) (r6 : Nat) (sg : Nat) (r7 : Nat) (sn : Nat) (r8 : Nat) (r9 : Nat) (wh : Nat → Int) (x : Int) (hcm : cm ≤ 600) (hw : ∀ d, d < cm → -2 ≤ wh d ∧ wh d ≤ 1000) (hx1 : -2 ≤ x) (hx2 : x ≤ 1000) (hF : Fx p s m meth c y_Mo_inside b_Mo_inside 4 (some .int) D K) {b0 : Nat} (hA : AS K s A b0) : ∀ fuel : Nat, ∀ d : Nat, (d ≤ cm) → cm - d < fuel → ∀ (H : Heap) (locs : List Loc), va_P D classes [(m0, .inr (8, [.int (nI th), .int (nI T), .int (nI hd), .ref r1, .ref r2, .ref r3, .ref r4, .int (nI cm), .ref r5, .ref r6, .int (nI sg), .ref r7, .int (nI sn), .ref r8, .ref r9])), (r5, .inl (K 0, 600, .inl (zA wh)))] H → va_D A [(m0, .inr (8, [.int (nI th), .int (nI T), .int (nI hd), .ref r1, .ref r2, .ref r3, .ref r4, .int (nI cm), .ref r5, .ref r6, .int (nI sg), .ref r7, .int (nI sn), .ref r8, .ref r9])), (r5, .inl (K 0, 600, .inl (zA wh)))] → va_S A s.heap H locs → ∀ ls : Array Slot, lv_has ls 4 [(0, .ref m0), (1, .int (zI x)), (2, .int (nI (cnz wh x d))), (3, .int (nI d))] → W p l e ({ frames := 0, cells := 0, slots := 0, locals := 0 } : Room) s m ([.ref m0, .int (zI x)] : List Value).toArray below meth c H locs 0 0 (MQ below (va_Qi (q_Mo_inside K m0 th T hd r1 r2 r3 r4 cm r5 r6 sg r7 sn r8 r9 wh x) (fun u t => va_P D classes u t.heap ∧ va_D A u) A) ([.ref m0, .int (zI x)] : List Value).toArray s 0 0 A) (F0 m 4 ls []) := by
  have hF2 := hF
  obtain ⟨hx, hb, hr, hml, hown, htw, hK, hlocks, hname⟩ := hF
  intro fuel
  induction fuel with
  | zero => intros; omega
  | succ fuel ih =>
    have jn_25 : ∀ d : Nat, ∀ cc2 : Nat, (d < cm) → (cm - d < fuel + 1) → (cc2 = cnz wh x (d + 1)) → ∀ (H : Heap) (locs : List Loc), va_P D classes [(m0, .inr (8, [.int (nI th), .int (nI T), .int (nI hd), .ref r1, .ref r2, .ref r3, .ref r4, .int (nI cm), .ref r5, .ref r6, .int (nI sg), .ref r7, .int (nI sn), .ref r8, .ref r9])), (r5, .inl (K 0, 600, .inl (zA wh)))] H → va_D A [(m0, .inr (8, [.int (nI th), .int (nI T), .int (nI hd), .ref r1, .ref r2, .ref r3, .ref r4, .int (nI cm), .ref r5, .ref r6, .int (nI sg), .ref r7, .int (nI sn), .ref r8, .ref r9])), (r5, .inl (K 0, 600, .inl (zA wh)))] → va_S A s.heap H locs → ∀ ls : Array Slot, lv_has ls 4 [(0, .ref m0), (1, .int (zI x)), (2, .int (nI cc2)), (3, .int (nI d))] → W p l e ({ frames := 0, cells := 0, slots := 0, locals := 0 } : Room) s m ([.ref m0, .int (zI x)] : List Value).toArray below meth c H locs 0 0 (MQ below (va_Qi (q_Mo_inside K m0 th T hd r1 r2 r3 r4 cm r5 r6 sg r7 sn r8 r9 wh x) (fun u t => va_P D classes u t.heap ∧ va_D A u) A) ([.ref m0, .int (zI x)] : List Value).toArray s 0 0 A) (F0 m 25 ls []) := by
      intro d cc2 hd2 hfu hcc H locs hP hD hS ls hl
      subst hcc
      refine lv_iinc (v := nI (d + 1)) (lv' := [(3, .int (nI (d + 1))), (0, .ref m0), (1, .int (zI x)), (2, .int (nI (cnz wh x (d + 1))))]) hx hb d_Mo_inside_25 hl (k := 3) rfl (inc_nI _ _) (by decide) rfl (fun ls hl => ?_)
      refine lv_goto (tgt := 4) hx hb d_Mo_inside_28 (by decide) ?_
      exact ih (d + 1) (by first | assumption | omega) (by omega) _ _ hP hD hS _ (lv_sub hl [1, 2, 3, 0] rfl)
    intro d hd2 hfu H locs hP hD hS ls hl
    refine lv_iload_n hx hb d_Mo_inside_4 rfl (lv_at hl 3 rfl) ?_
    refine lv_aload_n hx hb d_Mo_inside_5 rfl (lv_at hl 0 rfl) ?_
    refine xg hx hb hown htw hK hP 0 7 rfl k_Mo (by decide) fl_Mo_48 rfl d_Mo_inside_6 ?_
    refine xc_ge (tgt := 31) (a := d) (b := cm) hx hb (by omega) (by omega) d_Mo_inside_9 (by decide) (fun c_9 => ?_) (fun c_9 => ?_)
    · have hk2 : d = cm := by omega
      subst hk2
      refine lv_iload_n hx hb d_Mo_inside_31 rfl (lv_at hl 2 rfl) ?_
      exact xr_iret hx hb hr hlocks hP hD hS (Nat.le_of_ble_eq_true rfl) (Nat.le_of_ble_eq_true rfl) (⟨rfl, rfl⟩) d_Mo_inside_32
    · refine lv_aload_n hx hb d_Mo_inside_12 rfl (lv_at hl 0 rfl) ?_
      refine xg hx hb hown htw hK hP 0 8 rfl k_Mo (by decide) fl_Mo_22 rfl d_Mo_inside_13 ?_
      refine lv_iload_n hx hb d_Mo_inside_16 rfl (lv_at hl 3 rfl) ?_
      refine xald_i hx hb hK hP 1 rfl (by omega) (by omega) d_Mo_inside_17 ?_
      refine xi (y := zI (wh d)) rfl ?_
      have hwd := hw d (by omega)
      refine lv_iload_n hx hb d_Mo_inside_18 rfl (lv_at hl 1 rfl) ?_
      refine xcz_ne (tgt := 25) (a := wh d) (b := x) hx hb (rfl) (rfl) (by omega) (by omega) (by omega) (by omega) d_Mo_inside_19 (by decide) (fun c_19 => ?_) (fun c_19 => ?_)
      · exact jn_25 d (cnz wh x d) (by first | assumption | omega) (by first | assumption | omega) (by exact (cnz_n c_19).symm) _ _ hP hD hS _ (lv_sub hl [0, 1, 2, 3] rfl)
      · refine lv_iinc (v := nI ((cnz wh x d) + 1)) (lv' := [(2, .int (nI ((cnz wh x d) + 1))), (0, .ref m0), (1, .int (zI x)), (3, .int (nI d))]) hx hb d_Mo_inside_22 hl (k := 2) rfl (inc_nI _ _) (by decide) rfl (fun ls hl => ?_)
        exact jn_25 d ((cnz wh x d) + 1) (by first | assumption | omega) (by first | assumption | omega) (by exact (cnz_y c_19).symm) _ _ hP hD hS _ (lv_sub hl [1, 2, 0, 3] rfl)
set_option maxHeartbeats 4000000 in
set_option maxRecDepth 100000 in
theorem c_Mo_inside (l : Launch) (D : va_G) (K : Nat → ClassId) (m0 : Nat) (th : Nat) (T : Nat) (hd : Nat) (r1 : Nat) (r2 : Nat) (r3 : Nat) (r4 : Nat) (cm : Nat) (r5 : Nat) (r6 : Nat) (sg : Nat) (r7 : Nat) (sn : Nat) (r8 : Nat) (r9 : Nat) (wh : Nat → Int) (x : Int) (hcm : cm ≤ 600) (hw : ∀ d, d < cm → -2 ≤ wh d ∧ wh d ≤ 1000) (hx1 : -2 ≤ x) (hx2 : x ≤ 1000) : CI l y_Mo_inside b_Mo_inside 4 .int ({ frames := 0, cells := 0, slots := 0, locals := 0 } : Room) D K [.ref m0, .int (zI x)] [(m0, .inr (8, [.int (nI th), .int (nI T), .int (nI hd), .ref r1, .ref r2, .ref r3, .ref r4, .int (nI cm), .ref r5, .ref r6, .int (nI sg), .ref r7, .int (nI sn), .ref r8, .ref r9])), (r5, .inl (K 0, 600, .inl (zA wh)))] (q_Mo_inside K m0 th T hd r1 r2 r3 r4 cm r5 r6 sg r7 sn r8 r9 wh x) := by
  refine CI_of (by decide) (Nat.le_of_ble_eq_true rfl) ?_
  intro p e s m below meth c A b0 ls hF hA hP hD hl
  have hF2 := hF
  obtain ⟨hx, hb, hr, hml, hown, htw, hK, hlocks, hname⟩ := hF
  have hS : va_S A s.heap s.heap [] := va_S.rf
  have hl : lv_has ls 4 [(0, .ref m0), (1, .int (zI x))] := hl
  refine lv_iconst (v := nI 0) hx hb d_Mo_inside_0 (by decide) ?_
  refine lv_istore_n (lv' := [(2, .int (nI 0)), (0, .ref m0), (1, .int (zI x))]) hx hb d_Mo_inside_1 rfl hl (by decide) rfl (fun ls hl => ?_)
  rw [show nI 0 = nI (cnz wh x 0) from rfl] at hl
  refine lv_iconst (v := nI 0) hx hb d_Mo_inside_2 (by decide) ?_
  refine lv_istore_n (lv' := [(3, .int (nI 0)), (2, .int (nI (cnz wh x 0))), (0, .ref m0), (1, .int (zI x))]) hx hb d_Mo_inside_3 rfl hl (by decide) rfl (fun ls hl => ?_)
  exact lp_Mo_inside_4 (l := l) m0 th T hd r1 r2 r3 r4 cm r5 r6 sg r7 sn r8 r9 wh x hcm hw hx1 hx2 hF2 hA _ 0 (by first | assumption | omega) (Nat.lt_succ_self _) _ _ hP hD hS _ (lv_sub hl [2, 3, 1, 0] rfl)

abbrev q_Mo_gather (K : Nat → ClassId) (m0 : Nat) (th : Nat) (T : Nat) (hd : Nat) (r1 : Nat) (r2 : Nat) (r3 : Nat) (r4 : Nat) (cm : Nat) (r5 : Nat) (r6 : Nat) (sg : Nat) (r7 : Nat) (sn : Nat) (r8 : Nat) (r9 : Nat) (wh : Nat → Int) (tkn : Nat → Nat) (q : Nat) (bf : Nat) : Int32 → va_W → Prop := fun r u => u = [(m0, .inr (8, [.int (nI th), .int (nI T), .int (nI hd), .ref r1, .ref r2, .ref r3, .ref r4, .int (nI cm), .ref r5, .ref r6, .int (nI sg), .ref r7, .int (nI sn), .ref r8, .ref r9])), (r5, .inl (K 0, 600, .inl (zA (whG wh tkn q bf cm)))), (r6, .inl (K 2, 600, .inl (nA tkn)))] ∧ r = nI (rfn wh tkn q bf cm)
set_option maxHeartbeats 4000000 in
set_option maxRecDepth 100000 in
theorem lp_Mo_gather_5 {p : Program} {l : Launch} {e : Env} {s : State} {m : MethodId} {below : List Frame} {meth : Method} {c : Code} {A : Nat → Prop} {D : va_G} {K : Nat → ClassId} (m0 : Nat) (th : Nat) (T : Nat) (hd : Nat) (r1 : Nat) (r2 : Nat) (r3 : Nat) (r4 : Nat) (cm : Nat) (r5 : Nat) (r6 : Nat) (sg : Nat) (r7 : Nat) (sn : Nat) (r8 : Nat) (r9 : Nat) (wh : Nat → Int) (tkn : Nat → Nat) (q : Nat) (bf : Nat) (hcm : cm ≤ 600) (hw : ∀ d, d < cm → -2 ≤ wh d ∧ wh d ≤ 1000) (hq : q ≤ 1000) (hbf : bf ≤ 1) (htk : ∀ d, d < cm → tkn d ≤ 1) (hF : Fx p s m meth c y_Mo_gather b_Mo_gather 5 (some .int) D K) {b0 : Nat} (hA : AS K s A b0) : ∀ fuel : Nat, ∀ d : Nat, (d ≤ cm) → cm - d < fuel → ∀ (H : Heap) (locs : List Loc), va_P D classes [(m0, .inr (8, [.int (nI th), .int (nI T), .int (nI hd), .ref r1, .ref r2, .ref r3, .ref r4, .int (nI cm), .ref r5, .ref r6, .int (nI sg), .ref r7, .int (nI sn), .ref r8, .ref r9])), (r5, .inl (K 0, 600, .inl (zA (whG wh tkn q bf d)))), (r6, .inl (K 2, 600, .inl (nA tkn)))] H → va_D A [(m0, .inr (8, [.int (nI th), .int (nI T), .int (nI hd), .ref r1, .ref r2, .ref r3, .ref r4, .int (nI cm), .ref r5, .ref r6, .int (nI sg), .ref r7, .int (nI sn), .ref r8, .ref r9])), (r5, .inl (K 0, 600, .inl (zA (whG wh tkn q bf d)))), (r6, .inl (K 2, 600, .inl (nA tkn)))] → va_S A s.heap H locs → ∀ ls : Array Slot, lv_has ls 5 [(0, .ref m0), (1, .int (nI q)), (2, .int (nI bf)), (3, .int (nI (rfn wh tkn q bf d))), (4, .int (nI d))] → W p l e ({ frames := 0, cells := 0, slots := 0, locals := 0 } : Room) s m ([.ref m0, .int (nI q), .int (nI bf)] : List Value).toArray below meth c H locs 0 0 (MQ below (va_Qi (q_Mo_gather K m0 th T hd r1 r2 r3 r4 cm r5 r6 sg r7 sn r8 r9 wh tkn q bf) (fun u t => va_P D classes u t.heap ∧ va_D A u) A) ([.ref m0, .int (nI q), .int (nI bf)] : List Value).toArray s 0 0 A) (F0 m 5 ls []) := by
  have hF2 := hF
  obtain ⟨hx, hb, hr, hml, hown, htw, hK, hlocks, hname⟩ := hF
  intro fuel
  induction fuel with
  | zero => intros; omega
  | succ fuel ih =>
    have jn_84 : ∀ d : Nat, ∀ cc2 : Nat, ∀ ww : Nat → Int, (d < cm) → (cm - d < fuel + 1) → (cc2 = rfn wh tkn q bf (d + 1)) → (ww = whG wh tkn q bf (d + 1)) → ∀ (H : Heap) (locs : List Loc), va_P D classes [(m0, .inr (8, [.int (nI th), .int (nI T), .int (nI hd), .ref r1, .ref r2, .ref r3, .ref r4, .int (nI cm), .ref r5, .ref r6, .int (nI sg), .ref r7, .int (nI sn), .ref r8, .ref r9])), (r5, .inl (K 0, 600, .inl (zA ww))), (r6, .inl (K 2, 600, .inl (nA tkn)))] H → va_D A [(m0, .inr (8, [.int (nI th), .int (nI T), .int (nI hd), .ref r1, .ref r2, .ref r3, .ref r4, .int (nI cm), .ref r5, .ref r6, .int (nI sg), .ref r7, .int (nI sn), .ref r8, .ref r9])), (r5, .inl (K 0, 600, .inl (zA ww))), (r6, .inl (K 2, 600, .inl (nA tkn)))] → va_S A s.heap H locs → ∀ ls : Array Slot, lv_has ls 5 [(0, .ref m0), (1, .int (nI q)), (2, .int (nI bf)), (3, .int (nI cc2)), (4, .int (nI d))] → W p l e ({ frames := 0, cells := 0, slots := 0, locals := 0 } : Room) s m ([.ref m0, .int (nI q), .int (nI bf)] : List Value).toArray below meth c H locs 0 0 (MQ below (va_Qi (q_Mo_gather K m0 th T hd r1 r2 r3 r4 cm r5 r6 sg r7 sn r8 r9 wh tkn q bf) (fun u t => va_P D classes u t.heap ∧ va_D A u) A) ([.ref m0, .int (nI q), .int (nI bf)] : List Value).toArray s 0 0 A) (F0 m 84 ls []) := by
      intro d cc2 ww hd2 hfu hcc hww H locs hP hD hS ls hl
      subst hcc
      subst hww
      refine lv_iinc (v := nI (d + 1)) (lv' := [(4, .int (nI (d + 1))), (0, .ref m0), (1, .int (nI q)), (2, .int (nI bf)), (3, .int (nI (rfn wh tkn q bf (d + 1))))]) hx hb d_Mo_gather_84 hl (k := 4) rfl (inc_nI _ _) (by decide) rfl (fun ls hl => ?_)
      refine lv_goto (tgt := 5) hx hb d_Mo_gather_87 (by decide) ?_
      exact ih (d + 1) (by first | assumption | omega) (by omega) _ _ hP hD hS _ (lv_sub hl [1, 2, 3, 4, 0] rfl)
    have jn_43 : ∀ d : Nat, (d < cm) → (cm - d < fuel + 1) → (whP wh q bf d) → ∀ (H : Heap) (locs : List Loc), va_P D classes [(m0, .inr (8, [.int (nI th), .int (nI T), .int (nI hd), .ref r1, .ref r2, .ref r3, .ref r4, .int (nI cm), .ref r5, .ref r6, .int (nI sg), .ref r7, .int (nI sn), .ref r8, .ref r9])), (r5, .inl (K 0, 600, .inl (zA (whG wh tkn q bf d)))), (r6, .inl (K 2, 600, .inl (nA tkn)))] H → va_D A [(m0, .inr (8, [.int (nI th), .int (nI T), .int (nI hd), .ref r1, .ref r2, .ref r3, .ref r4, .int (nI cm), .ref r5, .ref r6, .int (nI sg), .ref r7, .int (nI sn), .ref r8, .ref r9])), (r5, .inl (K 0, 600, .inl (zA (whG wh tkn q bf d)))), (r6, .inl (K 2, 600, .inl (nA tkn)))] → va_S A s.heap H locs → ∀ ls : Array Slot, lv_has ls 5 [(0, .ref m0), (1, .int (nI q)), (2, .int (nI bf)), (3, .int (nI (rfn wh tkn q bf d))), (4, .int (nI d))] → W p l e ({ frames := 0, cells := 0, slots := 0, locals := 0 } : Room) s m ([.ref m0, .int (nI q), .int (nI bf)] : List Value).toArray below meth c H locs 0 0 (MQ below (va_Qi (q_Mo_gather K m0 th T hd r1 r2 r3 r4 cm r5 r6 sg r7 sn r8 r9 wh tkn q bf) (fun u t => va_P D classes u t.heap ∧ va_D A u) A) ([.ref m0, .int (nI q), .int (nI bf)] : List Value).toArray s 0 0 A) (F0 m 43 ls []) := by
      intro d hd2 hfu hsel H locs hP hD hS ls hl
      refine lv_aload_n hx hb d_Mo_gather_43 rfl (lv_at hl 0 rfl) ?_
      refine xg hx hb hown htw hK hP 0 8 rfl k_Mo (by decide) fl_Mo_22 rfl d_Mo_gather_44 ?_
      refine lv_iload hx hb d_Mo_gather_47 (lv_at hl 4 rfl) ?_
      refine lv_aload_n hx hb d_Mo_gather_49 rfl (lv_at hl 0 rfl) ?_
      refine xg hx hb hown htw hK hP 0 9 rfl k_Mo (by decide) fl_Mo_25 rfl d_Mo_gather_50 ?_
      refine lv_iload hx hb d_Mo_gather_53 (lv_at hl 4 rfl) ?_
      refine xald_z hx hb hK hP 2 rfl (by omega) (by omega) d_Mo_gather_55 ?_
      refine xi (y := nI (tkn d)) rfl ?_
      refine xz_eq (tgt := 64) (a := tkn d) hx hb (by have := htk d (by omega); omega) d_Mo_gather_56 (by decide) (fun c_56 => ?_) (fun c_56 => ?_)
      · refine lv_iload_n hx hb d_Mo_gather_64 rfl (lv_at hl 1 rfl) ?_
        refine xast_i hx hb hK hP hD hS 1 rfl (by omega) (by omega) d_Mo_gather_65 (fun H locs hP hD hS => ?_)
        rw [upd_zAn] at hP hD
        have hP : va_P D classes [(m0, .inr (8, [.int (nI th), .int (nI T), .int (nI hd), .ref r1, .ref r2, .ref r3, .ref r4, .int (nI cm), .ref r5, .ref r6, .int (nI sg), .ref r7, .int (nI sn), .ref r8, .ref r9])), (r5, .inl (K 0, 600, .inl (zA (va_up (whG wh tkn q bf d) d ((q : Nat) : Int))))), (r6, .inl (K 2, 600, .inl (nA tkn)))] H := hP
        have hD : va_D A [(m0, .inr (8, [.int (nI th), .int (nI T), .int (nI hd), .ref r1, .ref r2, .ref r3, .ref r4, .int (nI cm), .ref r5, .ref r6, .int (nI sg), .ref r7, .int (nI sn), .ref r8, .ref r9])), (r5, .inl (K 0, 600, .inl (zA (va_up (whG wh tkn q bf d) d ((q : Nat) : Int))))), (r6, .inl (K 2, 600, .inl (nA tkn)))] := hD
        refine lv_iload_n hx hb d_Mo_gather_66 rfl (lv_at hl 3 rfl) ?_
        refine lv_aload_n hx hb d_Mo_gather_67 rfl (lv_at hl 0 rfl) ?_
        refine xg hx hb hown htw hK hP 0 9 rfl k_Mo (by decide) fl_Mo_25 rfl d_Mo_gather_68 ?_
        refine lv_iload hx hb d_Mo_gather_71 (lv_at hl 4 rfl) ?_
        refine xald_z hx hb hK hP 2 rfl (by omega) (by omega) d_Mo_gather_73 ?_
        refine xi (y := nI (tkn d)) rfl ?_
        refine xz_eq (tgt := 81) (a := tkn d) hx hb (by have := htk d (by omega); omega) d_Mo_gather_74 (by decide) (fun c_74 => ?_) (fun c_74 => ?_)
        · refine lv_iconst (v := nI 1) hx hb d_Mo_gather_81 (by decide) ?_
          refine lv_iadd hx hb d_Mo_gather_82 ?_
          refine xi (nI_add (rfn wh tkn q bf d) 1) ?_
          refine lv_istore_n (lv' := [(3, .int (nI ((rfn wh tkn q bf d) + 1))), (0, .ref m0), (1, .int (nI q)), (2, .int (nI bf)), (4, .int (nI d))]) hx hb d_Mo_gather_83 rfl hl (by decide) rfl (fun ls hl => ?_)
          exact jn_84 d ((rfn wh tkn q bf d) + 1) (va_up (whG wh tkn q bf d) d ((q : Nat) : Int)) (by first | assumption | omega) (by first | assumption | omega) (by first | exact (cnP_y ⟨hsel, c_74⟩).symm | exact (cnP_n (fun w => by omega)).symm) (by first | exact whG_y hsel (by rw [if_pos c_56]) | exact whG_y hsel (by rw [if_neg (by omega)])) _ _ hP hD hS _ (lv_sub hl [1, 2, 3, 0, 4] rfl)
        · refine lv_iconst (v := nI 0) hx hb d_Mo_gather_77 (by decide) ?_
          refine lv_goto (tgt := 82) hx hb d_Mo_gather_78 (by decide) ?_
          refine lv_iadd hx hb d_Mo_gather_82 ?_
          refine xi (nI_add (rfn wh tkn q bf d) 0) ?_
          refine lv_istore_n (lv' := [(3, .int (nI ((rfn wh tkn q bf d) + 0))), (0, .ref m0), (1, .int (nI q)), (2, .int (nI bf)), (4, .int (nI d))]) hx hb d_Mo_gather_83 rfl hl (by decide) rfl (fun ls hl => ?_)
          exact jn_84 d ((rfn wh tkn q bf d) + 0) (va_up (whG wh tkn q bf d) d ((q : Nat) : Int)) (by first | assumption | omega) (by first | assumption | omega) (by first | exact (cnP_y ⟨hsel, c_74⟩).symm | exact (cnP_n (fun w => by omega)).symm) (by first | exact whG_y hsel (by rw [if_pos c_56]) | exact whG_y hsel (by rw [if_neg (by omega)])) _ _ hP hD hS _ (lv_sub hl [1, 2, 3, 0, 4] rfl)
      · refine lv_bipush (v := zI (-2)) hx hb d_Mo_gather_59 (by decide) ?_
        refine lv_goto (tgt := 65) hx hb d_Mo_gather_61 (by decide) ?_
        refine xast_i hx hb hK hP hD hS 1 rfl (by omega) (by omega) d_Mo_gather_65 (fun H locs hP hD hS => ?_)
        rw [upd_zA] at hP hD
        have hP : va_P D classes [(m0, .inr (8, [.int (nI th), .int (nI T), .int (nI hd), .ref r1, .ref r2, .ref r3, .ref r4, .int (nI cm), .ref r5, .ref r6, .int (nI sg), .ref r7, .int (nI sn), .ref r8, .ref r9])), (r5, .inl (K 0, 600, .inl (zA (va_up (whG wh tkn q bf d) d (-2))))), (r6, .inl (K 2, 600, .inl (nA tkn)))] H := hP
        have hD : va_D A [(m0, .inr (8, [.int (nI th), .int (nI T), .int (nI hd), .ref r1, .ref r2, .ref r3, .ref r4, .int (nI cm), .ref r5, .ref r6, .int (nI sg), .ref r7, .int (nI sn), .ref r8, .ref r9])), (r5, .inl (K 0, 600, .inl (zA (va_up (whG wh tkn q bf d) d (-2))))), (r6, .inl (K 2, 600, .inl (nA tkn)))] := hD
        refine lv_iload_n hx hb d_Mo_gather_66 rfl (lv_at hl 3 rfl) ?_
        refine lv_aload_n hx hb d_Mo_gather_67 rfl (lv_at hl 0 rfl) ?_
        refine xg hx hb hown htw hK hP 0 9 rfl k_Mo (by decide) fl_Mo_25 rfl d_Mo_gather_68 ?_
        refine lv_iload hx hb d_Mo_gather_71 (lv_at hl 4 rfl) ?_
        refine xald_z hx hb hK hP 2 rfl (by omega) (by omega) d_Mo_gather_73 ?_
        refine xi (y := nI (tkn d)) rfl ?_
        refine xz_eq (tgt := 81) (a := tkn d) hx hb (by have := htk d (by omega); omega) d_Mo_gather_74 (by decide) (fun c_74 => ?_) (fun c_74 => ?_)
        · refine lv_iconst (v := nI 1) hx hb d_Mo_gather_81 (by decide) ?_
          refine lv_iadd hx hb d_Mo_gather_82 ?_
          refine xi (nI_add (rfn wh tkn q bf d) 1) ?_
          refine lv_istore_n (lv' := [(3, .int (nI ((rfn wh tkn q bf d) + 1))), (0, .ref m0), (1, .int (nI q)), (2, .int (nI bf)), (4, .int (nI d))]) hx hb d_Mo_gather_83 rfl hl (by decide) rfl (fun ls hl => ?_)
          exact jn_84 d ((rfn wh tkn q bf d) + 1) (va_up (whG wh tkn q bf d) d (-2)) (by first | assumption | omega) (by first | assumption | omega) (by first | exact (cnP_y ⟨hsel, c_74⟩).symm | exact (cnP_n (fun w => by omega)).symm) (by first | exact whG_y hsel (by rw [if_pos c_56]) | exact whG_y hsel (by rw [if_neg (by omega)])) _ _ hP hD hS _ (lv_sub hl [1, 2, 3, 0, 4] rfl)
        · refine lv_iconst (v := nI 0) hx hb d_Mo_gather_77 (by decide) ?_
          refine lv_goto (tgt := 82) hx hb d_Mo_gather_78 (by decide) ?_
          refine lv_iadd hx hb d_Mo_gather_82 ?_
          refine xi (nI_add (rfn wh tkn q bf d) 0) ?_
          refine lv_istore_n (lv' := [(3, .int (nI ((rfn wh tkn q bf d) + 0))), (0, .ref m0), (1, .int (nI q)), (2, .int (nI bf)), (4, .int (nI d))]) hx hb d_Mo_gather_83 rfl hl (by decide) rfl (fun ls hl => ?_)
          exact jn_84 d ((rfn wh tkn q bf d) + 0) (va_up (whG wh tkn q bf d) d (-2)) (by first | assumption | omega) (by first | assumption | omega) (by first | exact (cnP_y ⟨hsel, c_74⟩).symm | exact (cnP_n (fun w => by omega)).symm) (by first | exact whG_y hsel (by rw [if_pos c_56]) | exact whG_y hsel (by rw [if_neg (by omega)])) _ _ hP hD hS _ (lv_sub hl [1, 2, 3, 0, 4] rfl)
    intro d hd2 hfu H locs hP hD hS ls hl
    refine lv_iload hx hb d_Mo_gather_5 (lv_at hl 4 rfl) ?_
    refine lv_aload_n hx hb d_Mo_gather_7 rfl (lv_at hl 0 rfl) ?_
    refine xg hx hb hown htw hK hP 0 7 rfl k_Mo (by decide) fl_Mo_48 rfl d_Mo_gather_8 ?_
    refine xc_ge (tgt := 90) (a := d) (b := cm) hx hb (by omega) (by omega) d_Mo_gather_11 (by decide) (fun c_11 => ?_) (fun c_11 => ?_)
    · have hk2 : d = cm := by omega
      subst hk2
      refine lv_iload_n hx hb d_Mo_gather_90 rfl (lv_at hl 3 rfl) ?_
      exact xr_iret hx hb hr hlocks hP hD hS (Nat.le_of_ble_eq_true rfl) (Nat.le_of_ble_eq_true rfl) (⟨rfl, rfl⟩) d_Mo_gather_91
    · refine lv_aload_n hx hb d_Mo_gather_14 rfl (lv_at hl 0 rfl) ?_
      refine xg hx hb hown htw hK hP 0 8 rfl k_Mo (by decide) fl_Mo_22 rfl d_Mo_gather_15 ?_
      refine lv_iload hx hb d_Mo_gather_18 (lv_at hl 4 rfl) ?_
      refine xald_i hx hb hK hP 1 rfl (by omega) (by omega) d_Mo_gather_20 ?_
      refine xi (y := zI ((whG wh tkn q bf d) d)) rfl ?_
      refine xi (y := zI (wh d)) (congrArg zI (whG_at _ _ _ _ _ (Nat.le_refl d))) ?_
      have hwd := hw d (by omega)
      refine lv_iload_n hx hb d_Mo_gather_21 rfl (lv_at hl 1 rfl) ?_
      refine xcz_ge (tgt := 43) (a := wh d) (b := ((q : Nat) : Int)) hx hb (rfl) (nI_zI _) (by omega) (by omega) (by omega) (by omega) d_Mo_gather_22 (by decide) (fun c_22 => ?_) (fun c_22 => ?_)
      · exact jn_43 d (by first | assumption | omega) (by first | assumption | omega) (by exact Or.inl c_22) _ _ hP hD hS _ (lv_sub hl [0, 1, 2, 3, 4] rfl)
      · refine lv_iload_n hx hb d_Mo_gather_25 rfl (lv_at hl 2 rfl) ?_
        refine xz_eq (tgt := 84) (a := bf) hx hb (by omega) d_Mo_gather_26 (by decide) (fun c_26 => ?_) (fun c_26 => ?_)
        · exact jn_84 d (rfn wh tkn q bf d) (whG wh tkn q bf d) (by first | assumption | omega) (by first | assumption | omega) (by exact (cnP_n (fun w => w.1.elim (fun w => by omega) (fun w => by omega))).symm) (by exact whG_n (fun w => w.elim (fun w => by omega) (fun w => by omega))) _ _ hP hD hS _ (lv_sub hl [0, 1, 2, 3, 4] rfl)
        · refine lv_aload_n hx hb d_Mo_gather_29 rfl (lv_at hl 0 rfl) ?_
          refine xg hx hb hown htw hK hP 0 8 rfl k_Mo (by decide) fl_Mo_22 rfl d_Mo_gather_30 ?_
          refine lv_iload hx hb d_Mo_gather_33 (lv_at hl 4 rfl) ?_
          refine xald_i hx hb hK hP 1 rfl (by omega) (by omega) d_Mo_gather_35 ?_
          refine xi (y := zI ((whG wh tkn q bf d) d)) rfl ?_
          refine xi (y := zI (wh d)) (congrArg zI (whG_at _ _ _ _ _ (Nat.le_refl d))) ?_
          have hwd := hw d (by omega)
          refine lv_iconst (v := zI (-1)) hx hb d_Mo_gather_36 (by decide) ?_
          refine xcz_eq (tgt := 43) (a := wh d) (b := (-1)) hx hb (rfl) (rfl) (by omega) (by omega) (by omega) (by omega) d_Mo_gather_37 (by decide) (fun c_37 => ?_) (fun c_37 => ?_)
          · exact jn_43 d (by first | assumption | omega) (by first | assumption | omega) (by exact Or.inr ⟨by omega, c_37⟩) _ _ hP hD hS _ (lv_sub hl [0, 1, 2, 3, 4] rfl)
          · refine lv_goto (tgt := 84) hx hb d_Mo_gather_40 (by decide) ?_
            exact jn_84 d (rfn wh tkn q bf d) (whG wh tkn q bf d) (by first | assumption | omega) (by first | assumption | omega) (by exact (cnP_n (fun w => w.1.elim (fun w => by omega) (fun w => c_37 w.2))).symm) (by exact whG_n (fun w => w.elim (fun w => by omega) (fun w => c_37 w.2))) _ _ hP hD hS _ (lv_sub hl [0, 1, 2, 3, 4] rfl)
set_option maxHeartbeats 4000000 in
set_option maxRecDepth 100000 in
theorem c_Mo_gather (l : Launch) (D : va_G) (K : Nat → ClassId) (m0 : Nat) (th : Nat) (T : Nat) (hd : Nat) (r1 : Nat) (r2 : Nat) (r3 : Nat) (r4 : Nat) (cm : Nat) (r5 : Nat) (r6 : Nat) (sg : Nat) (r7 : Nat) (sn : Nat) (r8 : Nat) (r9 : Nat) (wh : Nat → Int) (tkn : Nat → Nat) (q : Nat) (bf : Nat) (hcm : cm ≤ 600) (hw : ∀ d, d < cm → -2 ≤ wh d ∧ wh d ≤ 1000) (hq : q ≤ 1000) (hbf : bf ≤ 1) (htk : ∀ d, d < cm → tkn d ≤ 1) : CI l y_Mo_gather b_Mo_gather 5 .int ({ frames := 0, cells := 0, slots := 0, locals := 0 } : Room) D K [.ref m0, .int (nI q), .int (nI bf)] [(m0, .inr (8, [.int (nI th), .int (nI T), .int (nI hd), .ref r1, .ref r2, .ref r3, .ref r4, .int (nI cm), .ref r5, .ref r6, .int (nI sg), .ref r7, .int (nI sn), .ref r8, .ref r9])), (r5, .inl (K 0, 600, .inl (zA wh))), (r6, .inl (K 2, 600, .inl (nA tkn)))] (q_Mo_gather K m0 th T hd r1 r2 r3 r4 cm r5 r6 sg r7 sn r8 r9 wh tkn q bf) := by
  refine CI_of (by decide) (Nat.le_of_ble_eq_true rfl) ?_
  intro p e s m below meth c A b0 ls hF hA hP hD hl
  have hF2 := hF
  obtain ⟨hx, hb, hr, hml, hown, htw, hK, hlocks, hname⟩ := hF
  have hS : va_S A s.heap s.heap [] := va_S.rf
  have hl : lv_has ls 5 [(0, .ref m0), (1, .int (nI q)), (2, .int (nI bf))] := hl
  refine lv_iconst (v := nI 0) hx hb d_Mo_gather_0 (by decide) ?_
  refine lv_istore_n (lv' := [(3, .int (nI 0)), (0, .ref m0), (1, .int (nI q)), (2, .int (nI bf))]) hx hb d_Mo_gather_1 rfl hl (by decide) rfl (fun ls hl => ?_)
  refine lv_iconst (v := nI 0) hx hb d_Mo_gather_2 (by decide) ?_
  rw [show nI 0 = nI (rfn wh tkn q bf 0) from rfl] at hl
  have hP : va_P D classes [(m0, .inr (8, [.int (nI th), .int (nI T), .int (nI hd), .ref r1, .ref r2, .ref r3, .ref r4, .int (nI cm), .ref r5, .ref r6, .int (nI sg), .ref r7, .int (nI sn), .ref r8, .ref r9])), (r5, .inl (K 0, 600, .inl (zA (whG wh tkn q bf 0)))), (r6, .inl (K 2, 600, .inl (nA tkn)))] s.heap := by rw [whG_0 wh tkn q bf]; exact hP
  have hD : va_D A [(m0, .inr (8, [.int (nI th), .int (nI T), .int (nI hd), .ref r1, .ref r2, .ref r3, .ref r4, .int (nI cm), .ref r5, .ref r6, .int (nI sg), .ref r7, .int (nI sn), .ref r8, .ref r9])), (r5, .inl (K 0, 600, .inl (zA (whG wh tkn q bf 0)))), (r6, .inl (K 2, 600, .inl (nA tkn)))] := by rw [whG_0 wh tkn q bf]; exact hD
  have hP : va_P D classes [(m0, .inr (8, [.int (nI th), .int (nI T), .int (nI hd), .ref r1, .ref r2, .ref r3, .ref r4, .int (nI cm), .ref r5, .ref r6, .int (nI sg), .ref r7, .int (nI sn), .ref r8, .ref r9])), (r5, .inl (K 0, 600, .inl (zA (whG wh tkn q bf 0)))), (r6, .inl (K 2, 600, .inl (nA tkn)))] s.heap := hP
  have hD : va_D A [(m0, .inr (8, [.int (nI th), .int (nI T), .int (nI hd), .ref r1, .ref r2, .ref r3, .ref r4, .int (nI cm), .ref r5, .ref r6, .int (nI sg), .ref r7, .int (nI sn), .ref r8, .ref r9])), (r5, .inl (K 0, 600, .inl (zA (whG wh tkn q bf 0)))), (r6, .inl (K 2, 600, .inl (nA tkn)))] := hD
  refine lv_istore (lv' := [(4, .int (nI 0)), (3, .int (nI (rfn wh tkn q bf 0))), (0, .ref m0), (1, .int (nI q)), (2, .int (nI bf))]) hx hb d_Mo_gather_3 hl (by decide) rfl (fun ls hl => ?_)
  exact lp_Mo_gather_5 (l := l) m0 th T hd r1 r2 r3 r4 cm r5 r6 sg r7 sn r8 r9 wh tkn q bf hcm hw hq hbf htk hF2 hA _ 0 (by first | assumption | omega) (Nat.lt_succ_self _) _ _ hP hD hS _ (lv_sub hl [2, 3, 4, 1, 0] rfl)


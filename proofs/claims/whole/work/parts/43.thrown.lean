abbrev q_SI_token_bad (K : Nat → ClassId) (x0 : Nat) (s0 : Nat) (l0 : Nat) (p0 : Nat) (k0 : Nat) (bf : Nat) (x : Int32) (y : Int32) (a : Int32) (b : Int32) : va_W → Prop := fun u => u = ([(x0, .inr (6, [.ref s0, .ref l0, .ref p0, .ref k0, .int (nI bf)]))] : va_W)
set_option maxHeartbeats 4000000 in
set_option maxRecDepth 100000 in
theorem c_SI_token_bad (l : Launch) (D : va_G) (K : Nat → ClassId) (x0 : Nat) (s0 : Nat) (l0 : Nat) (p0 : Nat) (k0 : Nat) (bf : Nat) (x : Int32) (y : Int32) (a : Int32) (b : Int32) (hfl : l.flags = flags0) (hbad : x < 0 ∨ nI 4 ≤ x ∨ y < 0 ∨ nI 4096 ≤ y) : CT l y_SI_token b_SI_token 9 (some .int) ({ frames := 8, cells := 1, slots := 6, locals := 220 } : Room) D K [.ref x0, .int x, .int y, .int a, .int b] ([(x0, .inr (6, [.ref s0, .ref l0, .ref p0, .ref k0, .int (nI bf)]))] : va_W) "java/lang/IllegalArgumentException" (q_SI_token_bad K x0 s0 l0 p0 k0 bf x y a b) := by
  refine CT_of (by decide) (Nat.le_of_ble_eq_true rfl) ?_
  intro p e s m below meth c A b0 ls hF hA hno hP hD hl
  have hF2 := hF
  obtain ⟨hx, hb, hr, hml, hown, htw, hK, hlocks, hname⟩ := hF
  have hS : va_S A s.heap s.heap [] := va_S.rf
  have hl : lv_has ls 9 [(0, .ref x0), (1, .int x), (2, .int y), (3, .int a), (4, .int b)] := hl
  refine lv_iload_n hx hb d_SI_token_0 rfl (lv_at hl 1 rfl) ?_
  refine lv_if_lt (tgt := 20) hx hb d_SI_token_1 (by decide) (fun c_1 => ?_) (fun c_1 => ?_)
  · exact xthrow_IA (k := 43) (rest := []) hfl hx hb (by rw [hml]; exact hl.1.symm) hlocks hown htw hA hno hP hD hS (List.mem_of_getElem? (i := 0) rfl) ⟨Nat.le_of_ble_eq_true rfl, Nat.le_of_ble_eq_true rfl, Nat.le_of_ble_eq_true rfl, Nat.le_of_ble_eq_true rfl⟩ ⟨Nat.le_of_ble_eq_true rfl, Nat.le_of_ble_eq_true rfl⟩ (rfl) d_SI_token_20 d_SI_token_23 d_SI_token_24 d_SI_token_26 d_SI_token_29
  · refine lv_iload_n hx hb d_SI_token_4 rfl (lv_at hl 1 rfl) ?_
    refine lv_iconst (v := nI 4) hx hb d_SI_token_5 (by decide) ?_
    refine lv_icmp_ge (tgt := 20) hx hb d_SI_token_6 (by decide) (fun c_6 => ?_) (fun c_6 => ?_)
    · exact xthrow_IA (k := 43) (rest := []) hfl hx hb (by rw [hml]; exact hl.1.symm) hlocks hown htw hA hno hP hD hS (List.mem_of_getElem? (i := 0) rfl) ⟨Nat.le_of_ble_eq_true rfl, Nat.le_of_ble_eq_true rfl, Nat.le_of_ble_eq_true rfl, Nat.le_of_ble_eq_true rfl⟩ ⟨Nat.le_of_ble_eq_true rfl, Nat.le_of_ble_eq_true rfl⟩ (rfl) d_SI_token_20 d_SI_token_23 d_SI_token_24 d_SI_token_26 d_SI_token_29
    · refine lv_iload_n hx hb d_SI_token_9 rfl (lv_at hl 2 rfl) ?_
      refine lv_if_lt (tgt := 20) hx hb d_SI_token_10 (by decide) (fun c_10 => ?_) (fun c_10 => ?_)
      · exact xthrow_IA (k := 43) (rest := []) hfl hx hb (by rw [hml]; exact hl.1.symm) hlocks hown htw hA hno hP hD hS (List.mem_of_getElem? (i := 0) rfl) ⟨Nat.le_of_ble_eq_true rfl, Nat.le_of_ble_eq_true rfl, Nat.le_of_ble_eq_true rfl, Nat.le_of_ble_eq_true rfl⟩ ⟨Nat.le_of_ble_eq_true rfl, Nat.le_of_ble_eq_true rfl⟩ (rfl) d_SI_token_20 d_SI_token_23 d_SI_token_24 d_SI_token_26 d_SI_token_29
      · refine lv_iload_n hx hb d_SI_token_13 rfl (lv_at hl 2 rfl) ?_
        refine lv_sipush (v := nI 4096) hx hb d_SI_token_14 (by decide) ?_
        refine lv_icmp_lt (tgt := 30) hx hb d_SI_token_17 (by decide) (fun c_17 => ?_) (fun c_17 => ?_)
        · exact absurd hbad (fun q => q.elim c_1 (fun q => q.elim c_6 (fun q => q.elim c_10 (fun q => absurd c_17 (Int32.not_lt.mpr q)))))
        · exact xthrow_IA (k := 43) (rest := []) hfl hx hb (by rw [hml]; exact hl.1.symm) hlocks hown htw hA hno hP hD hS (List.mem_of_getElem? (i := 0) rfl) ⟨Nat.le_of_ble_eq_true rfl, Nat.le_of_ble_eq_true rfl, Nat.le_of_ble_eq_true rfl, Nat.le_of_ble_eq_true rfl⟩ ⟨Nat.le_of_ble_eq_true rfl, Nat.le_of_ble_eq_true rfl⟩ (rfl) d_SI_token_20 d_SI_token_23 d_SI_token_24 d_SI_token_26 d_SI_token_29

abbrev q_SI_token_full (K : Nat → ClassId) (x0 : Nat) (s0 : Nat) (l0 : Nat) (p0 : Nat) (k0 : Nat) (bf : Nat) (t0 : Nat) (a1 : Nat) (a2 : Nat) (a3 : Nat) (cm : Nat) (b1 : Nat) (b2 : Nat) (T : Nat) (st : Nat → Nat) (ch : Nat → Nat) (ct : Nat → Int64) (fi : Nat) (pl_ : Nat) (a : Int32) (b : Int32) : va_W → Prop := fun u => u = ([(x0, .inr (6, [.ref s0, .ref l0, .ref p0, .ref k0, .int (nI bf)])), (s0, .inr (4, [.ref t0, .ref a1, .ref a2, .ref a3, .int (nI cm)])), (t0, .inr (5, [.ref b1, .ref b2, .int (nI T)])), (a2, .inl (K 0, 601, .inl (nA st))), (b1, .inl (K 0, 512, .inl (nA ch))), (b2, .inl (K 1, 512, .inr (.inl ct)))] : va_W)
set_option maxHeartbeats 4000000 in
set_option maxRecDepth 100000 in
theorem c_SI_token_full (l : Launch) (D : va_G) (K : Nat → ClassId) (x0 : Nat) (s0 : Nat) (l0 : Nat) (p0 : Nat) (k0 : Nat) (bf : Nat) (t0 : Nat) (a1 : Nat) (a2 : Nat) (a3 : Nat) (cm : Nat) (b1 : Nat) (b2 : Nat) (T : Nat) (st : Nat → Nat) (ch : Nat → Nat) (ct : Nat → Int64) (fi : Nat) (pl_ : Nat) (a : Int32) (b : Int32) (hfl : l.flags = flags0) (hfi : fi ≤ 3) (hpl : pl_ ≤ 4095) (hcm : cm ≤ 600) (hT : T < 512) (hst : st cm ≤ T) (hch : ∀ k, k < T → ch k < 2 ^ 24) (hso : ∀ i j, st cm ≤ i → i < j → j < T → ch i < ch j ∨ (ch i = ch j ∧ ct i < ct j)) (hnd : ¬ (∃ i, st cm ≤ i ∧ i < T ∧ ch i = (cm * 2 ^ 2 + fi) * 2 ^ 12 + pl_ ∧ ct i = tmL a b)) (hfull : 120 ≤ T - st cm) : CT l y_SI_token b_SI_token 9 (some .int) ({ frames := 8, cells := 1, slots := 6, locals := 220 } : Room) D K [.ref x0, .int (nI fi), .int (nI pl_), .int a, .int b] ([(x0, .inr (6, [.ref s0, .ref l0, .ref p0, .ref k0, .int (nI bf)])), (s0, .inr (4, [.ref t0, .ref a1, .ref a2, .ref a3, .int (nI cm)])), (t0, .inr (5, [.ref b1, .ref b2, .int (nI T)])), (a2, .inl (K 0, 601, .inl (nA st))), (b1, .inl (K 0, 512, .inl (nA ch))), (b2, .inl (K 1, 512, .inr (.inl ct)))] : va_W) "java/lang/IllegalStateException" (q_SI_token_full K x0 s0 l0 p0 k0 bf t0 a1 a2 a3 cm b1 b2 T st ch ct fi pl_ a b) := by
  refine CT_of (by decide) (Nat.le_of_ble_eq_true rfl) ?_
  intro p e s m below meth c A b0 ls hF hA hno hP hD hl
  have hF2 := hF
  obtain ⟨hx, hb, hr, hml, hown, htw, hK, hlocks, hname⟩ := hF
  have hS : va_S A s.heap s.heap [] := va_S.rf
  have hl : lv_has ls 9 [(0, .ref x0), (1, .int (nI fi)), (2, .int (nI pl_)), (3, .int a), (4, .int b)] := hl
  refine lv_iload_n hx hb d_SI_token_0 rfl (lv_at hl 1 rfl) ?_
  refine xz_lt (a := fi) hx hb (by omega) d_SI_token_1 20 (by decide) ?_
  refine lv_iload_n hx hb d_SI_token_4 rfl (lv_at hl 1 rfl) ?_
  refine lv_iconst (v := nI 4) hx hb d_SI_token_5 (by decide) ?_
  refine xc_ge (tgt := 20) (a := fi) (b := 4) hx hb (by omega) (by omega) d_SI_token_6 (by decide) (fun c_6 => ?_) (fun c_6 => ?_)
  · omega
  · refine lv_iload_n hx hb d_SI_token_9 rfl (lv_at hl 2 rfl) ?_
    refine xz_lt (a := pl_) hx hb (by omega) d_SI_token_10 20 (by decide) ?_
    refine lv_iload_n hx hb d_SI_token_13 rfl (lv_at hl 2 rfl) ?_
    refine lv_sipush (v := nI 4096) hx hb d_SI_token_14 (by decide) ?_
    refine xc_lt (tgt := 30) (a := pl_) (b := 4096) hx hb (by omega) (by omega) d_SI_token_17 (by decide) (fun c_17 => ?_) (fun c_17 => ?_)
    · refine lv_aload_n hx hb d_SI_token_30 rfl (lv_at hl 0 rfl) ?_
      refine xg hx hb hown htw hK hP 0 0 rfl k_SI (by decide) fl_SI_10 rfl d_SI_token_31 ?_
      refine xg hx hb hown htw hK hP 1 4 rfl k_Sh (by decide) fl_SI_48 rfl d_SI_token_34 ?_
      refine lv_iload_n hx hb d_SI_token_37 rfl (lv_at hl 1 rfl) ?_
      refine lv_iload_n hx hb d_SI_token_38 rfl (lv_at hl 2 rfl) ?_
      refine xcS_i (As := [.int (nI cm), .int (nI fi), .int (nI pl_)]) (rest := []) (wr := ([(x0, .inr (6, [.ref s0, .ref l0, .ref p0, .ref k0, .int (nI bf)])), (s0, .inr (4, [.ref t0, .ref a1, .ref a2, .ref a3, .int (nI cm)])), (t0, .inr (5, [.ref b1, .ref b2, .int (nI T)])), (a2, .inl (K 0, 601, .inl (nA st))), (b1, .inl (K 0, 512, .inl (nA ch))), (b2, .inl (K 1, 512, .inr (.inl ct)))] : va_W)) hx hb hml hown htw hK hA hl.1 hP hD hS (c_SI_hitOf l D K cm fi pl_ (by first | assumption | omega) (by first | assumption | omega) (by first | assumption | omega)) [] [0, 1, 2, 3, 4, 5] rfl rfl (by decide) (by decide) (by decide) ml_SI_51 w_SI_hitOf rfl ⟨by decide, by decide⟩ rfl (Nat.le_of_ble_eq_true rfl) ⟨by decide, by decide⟩ d_SI_token_39 (fun r u H locs hpost hP hD hS => ?_)
      obtain ⟨rfl, rfl⟩ := hpost
      have hP : va_P D classes ([(x0, .inr (6, [.ref s0, .ref l0, .ref p0, .ref k0, .int (nI bf)])), (s0, .inr (4, [.ref t0, .ref a1, .ref a2, .ref a3, .int (nI cm)])), (t0, .inr (5, [.ref b1, .ref b2, .int (nI T)])), (a2, .inl (K 0, 601, .inl (nA st))), (b1, .inl (K 0, 512, .inl (nA ch))), (b2, .inl (K 1, 512, .inr (.inl ct)))] : va_W) H := hP
      have hD : va_D A ([(x0, .inr (6, [.ref s0, .ref l0, .ref p0, .ref k0, .int (nI bf)])), (s0, .inr (4, [.ref t0, .ref a1, .ref a2, .ref a3, .int (nI cm)])), (t0, .inr (5, [.ref b1, .ref b2, .int (nI T)])), (a2, .inl (K 0, 601, .inl (nA st))), (b1, .inl (K 0, 512, .inl (nA ch))), (b2, .inl (K 1, 512, .inr (.inl ct)))] : va_W) := hD
      refine lv_istore (lv' := [(5, .int (nI ((cm * 2 ^ 2 + fi) * 2 ^ 12 + pl_))), (0, .ref x0), (1, .int (nI fi)), (2, .int (nI pl_)), (3, .int a), (4, .int b)]) hx hb d_SI_token_42 hl (by decide) rfl (fun ls hl => ?_)
      refine lv_iload_n hx hb d_SI_token_44 rfl (lv_at hl 4 rfl) ?_
      refine lv_iload hx hb d_SI_token_45 (lv_at hl 5 rfl) ?_
      refine xcS_l (As := [.int a, .int b]) (rest := []) (wr := ([(x0, .inr (6, [.ref s0, .ref l0, .ref p0, .ref k0, .int (nI bf)])), (s0, .inr (4, [.ref t0, .ref a1, .ref a2, .ref a3, .int (nI cm)])), (t0, .inr (5, [.ref b1, .ref b2, .int (nI T)])), (a2, .inl (K 0, 601, .inl (nA st))), (b1, .inl (K 0, 512, .inl (nA ch))), (b2, .inl (K 1, 512, .inr (.inl ct)))] : va_W)) hx hb hml hown htw hK hA hl.1 hP hD hS (c_SI_termOf l D K a b ) [] [0, 1, 2, 3, 4, 5] rfl rfl (by decide) (by decide) (by decide) ml_SI_55 w_SI_termOf rfl ⟨by decide, by decide⟩ rfl (Nat.le_of_ble_eq_true rfl) ⟨by decide, by decide⟩ d_SI_token_47 (fun r u H locs hpost hP hD hS => ?_)
      obtain ⟨rfl, rfl⟩ := hpost
      have hP : va_P D classes ([(x0, .inr (6, [.ref s0, .ref l0, .ref p0, .ref k0, .int (nI bf)])), (s0, .inr (4, [.ref t0, .ref a1, .ref a2, .ref a3, .int (nI cm)])), (t0, .inr (5, [.ref b1, .ref b2, .int (nI T)])), (a2, .inl (K 0, 601, .inl (nA st))), (b1, .inl (K 0, 512, .inl (nA ch))), (b2, .inl (K 1, 512, .inr (.inl ct)))] : va_W) H := hP
      have hD : va_D A ([(x0, .inr (6, [.ref s0, .ref l0, .ref p0, .ref k0, .int (nI bf)])), (s0, .inr (4, [.ref t0, .ref a1, .ref a2, .ref a3, .int (nI cm)])), (t0, .inr (5, [.ref b1, .ref b2, .int (nI T)])), (a2, .inl (K 0, 601, .inl (nA st))), (b1, .inl (K 0, 512, .inl (nA ch))), (b2, .inl (K 1, 512, .inr (.inl ct)))] : va_W) := hD
      refine lv_lstore (lv' := [(6, .long (tmL a b)), (5, .int (nI ((cm * 2 ^ 2 + fi) * 2 ^ 12 + pl_))), (0, .ref x0), (1, .int (nI fi)), (2, .int (nI pl_)), (3, .int a), (4, .int b)]) hx hb d_SI_token_50 hl (by decide) rfl (fun ls hl => ?_)
      refine lv_aload_n hx hb d_SI_token_52 rfl (lv_at hl 2 rfl) ?_
      refine xg hx hb hown htw hK hP 0 0 rfl k_SI (by decide) fl_SI_10 rfl d_SI_token_53 ?_
      refine lv_iload hx hb d_SI_token_56 (lv_at hl 1 rfl) ?_
      refine lv_lload hx hb d_SI_token_58 (lv_at hl 0 rfl) ?_
      refine xcV_i (As := [.int (nI ((cm * 2 ^ 2 + fi) * 2 ^ 12 + pl_)), .long (tmL a b)]) (rest := []) (wr := ([(x0, .inr (6, [.ref s0, .ref l0, .ref p0, .ref k0, .int (nI bf)]))] : va_W)) hx hb hml hown htw hK hA hl.1 hP hD hS (c_Sh_spotInHand l D K s0 t0 a1 a2 a3 cm b1 b2 T st ch ct ((cm * 2 ^ 2 + fi) * 2 ^ 12 + pl_) (tmL a b) (by first | assumption | omega) (by first | assumption | omega) (by first | assumption | omega) (by first | assumption | omega) (by first | assumption | omega)) [1, 2, 3, 4, 5] [0] rfl rfl (by decide) (by decide) (by decide) 0 rfl k_Sh ml_SI_59 w_Sh_spotInHand rfl ⟨by decide, by decide⟩ rfl (Nat.le_of_ble_eq_true rfl) ⟨by decide, by decide⟩ d_SI_token_60 (fun r u H locs hpost hP hD hS => ?_)
      obtain ⟨pp_60, rfl, rfl, hp1_60, hp2_60, hp3_60, hp4_60⟩ := hpost
      have hP : va_P D classes ([(x0, .inr (6, [.ref s0, .ref l0, .ref p0, .ref k0, .int (nI bf)])), (s0, .inr (4, [.ref t0, .ref a1, .ref a2, .ref a3, .int (nI cm)])), (t0, .inr (5, [.ref b1, .ref b2, .int (nI T)])), (a2, .inl (K 0, 601, .inl (nA st))), (b1, .inl (K 0, 512, .inl (nA ch))), (b2, .inl (K 1, 512, .inr (.inl ct)))] : va_W) H := hP
      have hD : va_D A ([(x0, .inr (6, [.ref s0, .ref l0, .ref p0, .ref k0, .int (nI bf)])), (s0, .inr (4, [.ref t0, .ref a1, .ref a2, .ref a3, .int (nI cm)])), (t0, .inr (5, [.ref b1, .ref b2, .int (nI T)])), (a2, .inl (K 0, 601, .inl (nA st))), (b1, .inl (K 0, 512, .inl (nA ch))), (b2, .inl (K 1, 512, .inr (.inl ct)))] : va_W) := hD
      refine lv_istore (lv' := [(8, .int (nI pp_60)), (6, .long (tmL a b)), (5, .int (nI ((cm * 2 ^ 2 + fi) * 2 ^ 12 + pl_))), (0, .ref x0), (1, .int (nI fi)), (2, .int (nI pl_)), (3, .int a), (4, .int b)]) hx hb d_SI_token_63 hl (by decide) rfl (fun ls hl => ?_)
      refine lv_aload_n hx hb d_SI_token_65 rfl (lv_at hl 3 rfl) ?_
      refine xg hx hb hown htw hK hP 0 0 rfl k_SI (by decide) fl_SI_10 rfl d_SI_token_66 ?_
      refine lv_iload hx hb d_SI_token_69 (lv_at hl 0 rfl) ?_
      refine lv_iload hx hb d_SI_token_71 (lv_at hl 2 rfl) ?_
      refine lv_lload hx hb d_SI_token_73 (lv_at hl 1 rfl) ?_
      refine xcV_i (As := [.int (nI pp_60), .int (nI ((cm * 2 ^ 2 + fi) * 2 ^ 12 + pl_)), .long (tmL a b)]) (rest := []) (wr := ([(x0, .inr (6, [.ref s0, .ref l0, .ref p0, .ref k0, .int (nI bf)]))] : va_W)) hx hb hml hown htw hK hA hl.1 hP hD hS (c_Sh_handHasBefore l D K s0 t0 a1 a2 a3 cm b1 b2 T st ch ct pp_60 ((cm * 2 ^ 2 + fi) * 2 ^ 12 + pl_) (tmL a b) (by first | assumption | omega) (by first | assumption | omega) (by first | assumption | omega) (by first | assumption | omega) (by first | assumption | omega) (by first | assumption | omega)) [1, 2, 3, 4, 5] [0] rfl rfl (by decide) (by decide) (by decide) 0 rfl k_Sh ml_SI_63 w_Sh_handHasBefore rfl ⟨by decide, by decide⟩ rfl (Nat.le_of_ble_eq_true rfl) ⟨by decide, by decide⟩ d_SI_token_75 (fun r u H locs hpost hP hD hS => ?_)
      obtain ⟨rfl, rfl⟩ := hpost
      have hP : va_P D classes ([(x0, .inr (6, [.ref s0, .ref l0, .ref p0, .ref k0, .int (nI bf)])), (s0, .inr (4, [.ref t0, .ref a1, .ref a2, .ref a3, .int (nI cm)])), (t0, .inr (5, [.ref b1, .ref b2, .int (nI T)])), (a2, .inl (K 0, 601, .inl (nA st))), (b1, .inl (K 0, 512, .inl (nA ch))), (b2, .inl (K 1, 512, .inr (.inl ct)))] : va_W) H := hP
      have hD : va_D A ([(x0, .inr (6, [.ref s0, .ref l0, .ref p0, .ref k0, .int (nI bf)])), (s0, .inr (4, [.ref t0, .ref a1, .ref a2, .ref a3, .int (nI cm)])), (t0, .inr (5, [.ref b1, .ref b2, .int (nI T)])), (a2, .inl (K 0, 601, .inl (nA st))), (b1, .inl (K 0, 512, .inl (nA ch))), (b2, .inl (K 1, 512, .inr (.inl ct)))] : va_W) := hD
      refine xz_ne (tgt := 119) (a := bN (st cm < pp_60 ∧ ch (pp_60 - 1) = ((cm * 2 ^ 2 + fi) * 2 ^ 12 + pl_) ∧ ct (pp_60 - 1) = (tmL a b))) hx hb (by exact bN_31 _) d_SI_token_78 (by decide) (fun c_78 => ?_) (fun c_78 => ?_)
      · exact absurd ⟨pp_60 - 1, by have := (bN_pos.mp c_78).1; omega, by have := (bN_pos.mp c_78).1; omega, (bN_pos.mp c_78).2.1, (bN_pos.mp c_78).2.2⟩ hnd
      · refine lv_aload_n hx hb d_SI_token_81 rfl (lv_at hl 3 rfl) ?_
        refine xg hx hb hown htw hK hP 0 0 rfl k_SI (by decide) fl_SI_10 rfl d_SI_token_82 ?_
        refine xcV_i (As := []) (rest := []) (wr := ([(x0, .inr (6, [.ref s0, .ref l0, .ref p0, .ref k0, .int (nI bf)])), (b1, .inl (K 0, 512, .inl (nA ch))), (b2, .inl (K 1, 512, .inr (.inl ct)))] : va_W)) hx hb hml hown htw hK hA hl.1 hP hD hS (c_Sh_inHand l D K s0 t0 a1 a2 a3 cm b1 b2 T st (by first | assumption | omega) (by first | assumption | omega)) [1, 2, 3] [0, 4, 5] rfl rfl (by decide) (by decide) (by decide) 0 rfl k_Sh ml_SI_67 w_Sh_inHand rfl ⟨by decide, by decide⟩ rfl (Nat.le_of_ble_eq_true rfl) ⟨by decide, by decide⟩ d_SI_token_85 (fun r u H locs hpost hP hD hS => ?_)
        obtain ⟨rfl, rfl⟩ := hpost
        have hP : va_P D classes ([(x0, .inr (6, [.ref s0, .ref l0, .ref p0, .ref k0, .int (nI bf)])), (b1, .inl (K 0, 512, .inl (nA ch))), (b2, .inl (K 1, 512, .inr (.inl ct))), (s0, .inr (4, [.ref t0, .ref a1, .ref a2, .ref a3, .int (nI cm)])), (t0, .inr (5, [.ref b1, .ref b2, .int (nI T)])), (a2, .inl (K 0, 601, .inl (nA st)))] : va_W) H := hP
        have hD : va_D A ([(x0, .inr (6, [.ref s0, .ref l0, .ref p0, .ref k0, .int (nI bf)])), (b1, .inl (K 0, 512, .inl (nA ch))), (b2, .inl (K 1, 512, .inr (.inl ct))), (s0, .inr (4, [.ref t0, .ref a1, .ref a2, .ref a3, .int (nI cm)])), (t0, .inr (5, [.ref b1, .ref b2, .int (nI T)])), (a2, .inl (K 0, 601, .inl (nA st)))] : va_W) := hD
        refine lv_bipush (v := nI 120) hx hb d_SI_token_88 (by decide) ?_
        refine xc_lt (tgt := 103) (a := T - st cm) (b := 120) hx hb (by omega) (by omega) d_SI_token_90 (by decide) (fun c_90 => ?_) (fun c_90 => ?_)
        · omega
        · obtain ⟨hP, hD⟩ := xp (ws' := [(x0, .inr (6, [.ref s0, .ref l0, .ref p0, .ref k0, .int (nI bf)])), (s0, .inr (4, [.ref t0, .ref a1, .ref a2, .ref a3, .int (nI cm)])), (t0, .inr (5, [.ref b1, .ref b2, .int (nI T)])), (a2, .inl (K 0, 601, .inl (nA st))), (b1, .inl (K 0, 512, .inl (nA ch))), (b2, .inl (K 1, 512, .inr (.inl ct)))]) hP hD [0, 3, 4, 5, 1, 2] (by decide) rfl
          exact xthrow_IS (k := 73) (rest := []) hfl hx hb (by rw [hml]; exact hl.1.symm) hlocks hown htw hA hno hP hD hS (List.mem_of_getElem? (i := 1) rfl) ⟨Nat.le_of_ble_eq_true rfl, Nat.le_of_ble_eq_true rfl, Nat.le_of_ble_eq_true rfl, Nat.le_of_ble_eq_true rfl⟩ ⟨Nat.le_of_ble_eq_true rfl, Nat.le_of_ble_eq_true rfl⟩ (rfl) d_SI_token_93 d_SI_token_96 d_SI_token_97 d_SI_token_99 d_SI_token_102
    · omega

abbrev q_SI_take_out (K : Nat → ClassId) (x0 : Nat) (s0 : Nat) (l0 : Nat) (p0 : Nat) (k0 : Nat) (bf : Nat) (t0 : Nat) (a1 : Nat) (a2 : Nat) (a3 : Nat) (cm : Nat) (sa : Nat → Nat) (x : Int32) : va_W → Prop := fun u => u = ([(x0, .inr (6, [.ref s0, .ref l0, .ref p0, .ref k0, .int (nI bf)])), (s0, .inr (4, [.ref t0, .ref a1, .ref a2, .ref a3, .int (nI cm)])), (a1, .inl (K 0, 600, .inl (nA sa)))] : va_W)
set_option maxHeartbeats 4000000 in
set_option maxRecDepth 100000 in
theorem c_SI_take_out (l : Launch) (D : va_G) (K : Nat → ClassId) (x0 : Nat) (s0 : Nat) (l0 : Nat) (p0 : Nat) (k0 : Nat) (bf : Nat) (t0 : Nat) (a1 : Nat) (a2 : Nat) (a3 : Nat) (cm : Nat) (sa : Nat → Nat) (x : Int32) (hfl : l.flags = flags0) (hcm : cm ≤ 600) (hd : x < 0 ∨ nI cm ≤ x) : CT l y_SI_take b_SI_take 2 none ({ frames := 8, cells := 1, slots := 6, locals := 220 } : Room) D K [.ref x0, .int x] ([(x0, .inr (6, [.ref s0, .ref l0, .ref p0, .ref k0, .int (nI bf)])), (s0, .inr (4, [.ref t0, .ref a1, .ref a2, .ref a3, .int (nI cm)])), (a1, .inl (K 0, 600, .inl (nA sa)))] : va_W) "java/lang/IndexOutOfBoundsException" (q_SI_take_out K x0 s0 l0 p0 k0 bf t0 a1 a2 a3 cm sa x) := by
  refine CT_of (by decide) (Nat.le_of_ble_eq_true rfl) ?_
  intro p e s m below meth c A b0 ls hF hA hno hP hD hl
  have hF2 := hF
  obtain ⟨hx, hb, hr, hml, hown, htw, hK, hlocks, hname⟩ := hF
  have hS : va_S A s.heap s.heap [] := va_S.rf
  have hl : lv_has ls 2 [(0, .ref x0), (1, .int x)] := hl
  refine lv_aload_n hx hb d_SI_take_0 rfl (lv_at hl 0 rfl) ?_
  refine xg hx hb hown htw hK hP 0 0 rfl k_SI (by decide) fl_SI_10 rfl d_SI_take_1 ?_
  refine lv_iload_n hx hb d_SI_take_4 rfl (lv_at hl 1 rfl) ?_
  refine xcV_i (As := [.int x]) (rest := []) (wr := ([(x0, .inr (6, [.ref s0, .ref l0, .ref p0, .ref k0, .int (nI bf)]))] : va_W)) hx hb hml hown htw hK hA hl.1 hP hD hS (c_Sh_isThere_out l D K s0 t0 a1 a2 a3 cm sa x (by first | assumption | omega) (by first | assumption | omega)) [1, 2] [0] rfl rfl (by decide) (by decide) (by decide) 0 rfl k_Sh ml_SI_98 w_Sh_isThere rfl ⟨by decide, by decide⟩ rfl (Nat.le_of_ble_eq_true rfl) ⟨by decide, by decide⟩ d_SI_take_5 (fun r u H locs hpost hP hD hS => ?_)
  obtain ⟨rfl, rfl⟩ := hpost
  have hP : va_P D classes ([(x0, .inr (6, [.ref s0, .ref l0, .ref p0, .ref k0, .int (nI bf)])), (s0, .inr (4, [.ref t0, .ref a1, .ref a2, .ref a3, .int (nI cm)])), (a1, .inl (K 0, 600, .inl (nA sa)))] : va_W) H := hP
  have hD : va_D A ([(x0, .inr (6, [.ref s0, .ref l0, .ref p0, .ref k0, .int (nI bf)])), (s0, .inr (4, [.ref t0, .ref a1, .ref a2, .ref a3, .int (nI cm)])), (a1, .inl (K 0, 600, .inl (nA sa)))] : va_W) := hD
  refine xz_ne (tgt := 21) (a := 0) hx hb (by omega) d_SI_take_8 (by decide) (fun c_8 => ?_) (fun c_8 => ?_)
  · omega
  · exact xthrow_IO (k := 104) (rest := []) hfl hx hb (by rw [hml]; exact hl.1.symm) hlocks hown htw hA hno hP hD hS (List.mem_of_getElem? (i := 3) rfl) ⟨Nat.le_of_ble_eq_true rfl, Nat.le_of_ble_eq_true rfl, Nat.le_of_ble_eq_true rfl, Nat.le_of_ble_eq_true rfl⟩ ⟨Nat.le_of_ble_eq_true rfl, Nat.le_of_ble_eq_true rfl⟩ (rfl) d_SI_take_11 d_SI_take_14 d_SI_take_15 d_SI_take_17 d_SI_take_20

abbrev q_SI_take_gone (K : Nat → ClassId) (x0 : Nat) (s0 : Nat) (l0 : Nat) (p0 : Nat) (k0 : Nat) (bf : Nat) (t0 : Nat) (a1 : Nat) (a2 : Nat) (a3 : Nat) (cm : Nat) (sa : Nat → Nat) (d : Nat) : va_W → Prop := fun u => u = ([(x0, .inr (6, [.ref s0, .ref l0, .ref p0, .ref k0, .int (nI bf)])), (s0, .inr (4, [.ref t0, .ref a1, .ref a2, .ref a3, .int (nI cm)])), (a1, .inl (K 0, 600, .inl (nA sa)))] : va_W)
set_option maxHeartbeats 4000000 in
set_option maxRecDepth 100000 in
theorem c_SI_take_gone (l : Launch) (D : va_G) (K : Nat → ClassId) (x0 : Nat) (s0 : Nat) (l0 : Nat) (p0 : Nat) (k0 : Nat) (bf : Nat) (t0 : Nat) (a1 : Nat) (a2 : Nat) (a3 : Nat) (cm : Nat) (sa : Nat → Nat) (d : Nat) (hfl : l.flags = flags0) (hcm : cm ≤ 600) (hd : d < cm) (hs4 : sa d < 4) (hs2 : 2 ≤ sa d) : CT l y_SI_take b_SI_take 2 none ({ frames := 8, cells := 1, slots := 6, locals := 220 } : Room) D K [.ref x0, .int (nI d)] ([(x0, .inr (6, [.ref s0, .ref l0, .ref p0, .ref k0, .int (nI bf)])), (s0, .inr (4, [.ref t0, .ref a1, .ref a2, .ref a3, .int (nI cm)])), (a1, .inl (K 0, 600, .inl (nA sa)))] : va_W) "java/lang/IndexOutOfBoundsException" (q_SI_take_gone K x0 s0 l0 p0 k0 bf t0 a1 a2 a3 cm sa d) := by
  refine CT_of (by decide) (Nat.le_of_ble_eq_true rfl) ?_
  intro p e s m below meth c A b0 ls hF hA hno hP hD hl
  have hF2 := hF
  obtain ⟨hx, hb, hr, hml, hown, htw, hK, hlocks, hname⟩ := hF
  have hS : va_S A s.heap s.heap [] := va_S.rf
  have hl : lv_has ls 2 [(0, .ref x0), (1, .int (nI d))] := hl
  refine lv_aload_n hx hb d_SI_take_0 rfl (lv_at hl 0 rfl) ?_
  refine xg hx hb hown htw hK hP 0 0 rfl k_SI (by decide) fl_SI_10 rfl d_SI_take_1 ?_
  refine lv_iload_n hx hb d_SI_take_4 rfl (lv_at hl 1 rfl) ?_
  refine xcV_i (As := [.int (nI d)]) (rest := []) (wr := ([(x0, .inr (6, [.ref s0, .ref l0, .ref p0, .ref k0, .int (nI bf)]))] : va_W)) hx hb hml hown htw hK hA hl.1 hP hD hS (c_Sh_isThere l D K s0 t0 a1 a2 a3 cm sa d (by first | assumption | omega) (by first | assumption | omega) (by first | assumption | omega)) [1, 2] [0] rfl rfl (by decide) (by decide) (by decide) 0 rfl k_Sh ml_SI_98 w_Sh_isThere rfl ⟨by decide, by decide⟩ rfl (Nat.le_of_ble_eq_true rfl) ⟨by decide, by decide⟩ d_SI_take_5 (fun r u H locs hpost hP hD hS => ?_)
  obtain ⟨rfl, rfl⟩ := hpost
  have hP : va_P D classes ([(x0, .inr (6, [.ref s0, .ref l0, .ref p0, .ref k0, .int (nI bf)])), (s0, .inr (4, [.ref t0, .ref a1, .ref a2, .ref a3, .int (nI cm)])), (a1, .inl (K 0, 600, .inl (nA sa)))] : va_W) H := hP
  have hD : va_D A ([(x0, .inr (6, [.ref s0, .ref l0, .ref p0, .ref k0, .int (nI bf)])), (s0, .inr (4, [.ref t0, .ref a1, .ref a2, .ref a3, .int (nI cm)])), (a1, .inl (K 0, 600, .inl (nA sa)))] : va_W) := hD
  refine xz_ne (tgt := 21) (a := bN (sa d ≤ 1)) hx hb (by exact bN_31 _) d_SI_take_8 (by decide) (fun c_8 => ?_) (fun c_8 => ?_)
  · exact absurd (bN_pos.mp c_8) (by omega)
  · exact xthrow_IO (k := 104) (rest := []) hfl hx hb (by rw [hml]; exact hl.1.symm) hlocks hown htw hA hno hP hD hS (List.mem_of_getElem? (i := 3) rfl) ⟨Nat.le_of_ble_eq_true rfl, Nat.le_of_ble_eq_true rfl, Nat.le_of_ble_eq_true rfl, Nat.le_of_ble_eq_true rfl⟩ ⟨Nat.le_of_ble_eq_true rfl, Nat.le_of_ble_eq_true rfl⟩ (rfl) d_SI_take_11 d_SI_take_14 d_SI_take_15 d_SI_take_17 d_SI_take_20

abbrev q_SI_term_full (K : Nat → ClassId) (x0 : Nat) (s0 : Nat) (l0 : Nat) (p0 : Nat) (k0 : Nat) (bf : Nat) (p1 : Nat) (ht : Nat) (x : Int32) (y : Int32) (z : Int32) : va_W → Prop := fun u => u = ([(x0, .inr (6, [.ref s0, .ref l0, .ref p0, .ref k0, .int (nI bf)])), (p0, .inr (2, [.ref p1, .int (nI ht)]))] : va_W)
set_option maxHeartbeats 4000000 in
set_option maxRecDepth 100000 in
theorem c_SI_term_full (l : Launch) (D : va_G) (K : Nat → ClassId) (x0 : Nat) (s0 : Nat) (l0 : Nat) (p0 : Nat) (k0 : Nat) (bf : Nat) (p1 : Nat) (ht : Nat) (x : Int32) (y : Int32) (z : Int32) (hfl : l.flags = flags0) (hf8 : ht = 8) : CT l y_SI_term b_SI_term 4 (some .int) ({ frames := 8, cells := 1, slots := 6, locals := 220 } : Room) D K [.ref x0, .int x, .int y, .int z] ([(x0, .inr (6, [.ref s0, .ref l0, .ref p0, .ref k0, .int (nI bf)])), (p0, .inr (2, [.ref p1, .int (nI ht)]))] : va_W) "java/lang/IllegalStateException" (q_SI_term_full K x0 s0 l0 p0 k0 bf p1 ht x y z) := by
  refine CT_of (by decide) (Nat.le_of_ble_eq_true rfl) ?_
  intro p e s m below meth c A b0 ls hF hA hno hP hD hl
  have hF2 := hF
  obtain ⟨hx, hb, hr, hml, hown, htw, hK, hlocks, hname⟩ := hF
  have hS : va_S A s.heap s.heap [] := va_S.rf
  have hl : lv_has ls 4 [(0, .ref x0), (1, .int x), (2, .int y), (3, .int z)] := hl
  refine lv_aload_n hx hb d_SI_term_0 rfl (lv_at hl 0 rfl) ?_
  refine xg hx hb hown htw hK hP 0 2 rfl k_SI (by decide) fl_SI_26 rfl d_SI_term_1 ?_
  refine xg hx hb hown htw hK hP 1 1 rfl k_Pl (by decide) fl_SI_129 rfl d_SI_term_4 ?_
  refine lv_bipush (v := nI 8) hx hb d_SI_term_7 (by decide) ?_
  refine xc_lt (tgt := 22) (a := ht) (b := 8) hx hb (by omega) (by omega) d_SI_term_9 (by decide) (fun c_9 => ?_) (fun c_9 => ?_)
  · omega
  · exact xthrow_IS (k := 132) (rest := []) hfl hx hb (by rw [hml]; exact hl.1.symm) hlocks hown htw hA hno hP hD hS (List.mem_of_getElem? (i := 4) rfl) ⟨Nat.le_of_ble_eq_true rfl, Nat.le_of_ble_eq_true rfl, Nat.le_of_ble_eq_true rfl, Nat.le_of_ble_eq_true rfl⟩ ⟨Nat.le_of_ble_eq_true rfl, Nat.le_of_ble_eq_true rfl⟩ (rfl) d_SI_term_12 d_SI_term_15 d_SI_term_16 d_SI_term_18 d_SI_term_21

abbrev q_SI_begins_full (K : Nat → ClassId) (x0 : Nat) (s0 : Nat) (l0 : Nat) (p0 : Nat) (k0 : Nat) (bf : Nat) (p1 : Nat) (ht : Nat) (x : Int32) (y : Int32) (z : Int32) (w : Int32) : va_W → Prop := fun u => u = ([(x0, .inr (6, [.ref s0, .ref l0, .ref p0, .ref k0, .int (nI bf)])), (p0, .inr (2, [.ref p1, .int (nI ht)]))] : va_W)
set_option maxHeartbeats 4000000 in
set_option maxRecDepth 100000 in
theorem c_SI_begins_full (l : Launch) (D : va_G) (K : Nat → ClassId) (x0 : Nat) (s0 : Nat) (l0 : Nat) (p0 : Nat) (k0 : Nat) (bf : Nat) (p1 : Nat) (ht : Nat) (x : Int32) (y : Int32) (z : Int32) (w : Int32) (hfl : l.flags = flags0) (hf8 : ht = 8) : CT l y_SI_begins b_SI_begins 5 (some .int) ({ frames := 8, cells := 1, slots := 6, locals := 220 } : Room) D K [.ref x0, .int x, .int y, .int z, .int w] ([(x0, .inr (6, [.ref s0, .ref l0, .ref p0, .ref k0, .int (nI bf)])), (p0, .inr (2, [.ref p1, .int (nI ht)]))] : va_W) "java/lang/IllegalStateException" (q_SI_begins_full K x0 s0 l0 p0 k0 bf p1 ht x y z w) := by
  refine CT_of (by decide) (Nat.le_of_ble_eq_true rfl) ?_
  intro p e s m below meth c A b0 ls hF hA hno hP hD hl
  have hF2 := hF
  obtain ⟨hx, hb, hr, hml, hown, htw, hK, hlocks, hname⟩ := hF
  have hS : va_S A s.heap s.heap [] := va_S.rf
  have hl : lv_has ls 5 [(0, .ref x0), (1, .int x), (2, .int y), (3, .int z), (4, .int w)] := hl
  refine lv_aload_n hx hb d_SI_begins_0 rfl (lv_at hl 0 rfl) ?_
  refine xg hx hb hown htw hK hP 0 2 rfl k_SI (by decide) fl_SI_26 rfl d_SI_begins_1 ?_
  refine xg hx hb hown htw hK hP 1 1 rfl k_Pl (by decide) fl_SI_129 rfl d_SI_begins_4 ?_
  refine lv_bipush (v := nI 8) hx hb d_SI_begins_7 (by decide) ?_
  refine xc_lt (tgt := 22) (a := ht) (b := 8) hx hb (by omega) (by omega) d_SI_begins_9 (by decide) (fun c_9 => ?_) (fun c_9 => ?_)
  · omega
  · exact xthrow_IS (k := 132) (rest := []) hfl hx hb (by rw [hml]; exact hl.1.symm) hlocks hown htw hA hno hP hD hS (List.mem_of_getElem? (i := 4) rfl) ⟨Nat.le_of_ble_eq_true rfl, Nat.le_of_ble_eq_true rfl, Nat.le_of_ble_eq_true rfl, Nat.le_of_ble_eq_true rfl⟩ ⟨Nat.le_of_ble_eq_true rfl, Nat.le_of_ble_eq_true rfl⟩ (rfl) d_SI_begins_12 d_SI_begins_15 d_SI_begins_16 d_SI_begins_18 d_SI_begins_21

abbrev q_SI_begins_bad (K : Nat → ClassId) (x0 : Nat) (s0 : Nat) (l0 : Nat) (p0 : Nat) (k0 : Nat) (bf : Nat) (p1 : Nat) (ht : Nat) (x : Int32) (y : Int32) (z : Int32) (w : Int32) : va_W → Prop := fun u => u = ([(x0, .inr (6, [.ref s0, .ref l0, .ref p0, .ref k0, .int (nI bf)])), (p0, .inr (2, [.ref p1, .int (nI ht)]))] : va_W)
set_option maxHeartbeats 4000000 in
set_option maxRecDepth 100000 in
theorem c_SI_begins_bad (l : Launch) (D : va_G) (K : Nat → ClassId) (x0 : Nat) (s0 : Nat) (l0 : Nat) (p0 : Nat) (k0 : Nat) (bf : Nat) (p1 : Nat) (ht : Nat) (x : Int32) (y : Int32) (z : Int32) (w : Int32) (hfl : l.flags = flags0) (hf8 : ht < 8) (hbad : w < 0 ∨ nI 8 < w) : CT l y_SI_begins b_SI_begins 5 (some .int) ({ frames := 8, cells := 1, slots := 6, locals := 220 } : Room) D K [.ref x0, .int x, .int y, .int z, .int w] ([(x0, .inr (6, [.ref s0, .ref l0, .ref p0, .ref k0, .int (nI bf)])), (p0, .inr (2, [.ref p1, .int (nI ht)]))] : va_W) "java/lang/IllegalArgumentException" (q_SI_begins_bad K x0 s0 l0 p0 k0 bf p1 ht x y z w) := by
  refine CT_of (by decide) (Nat.le_of_ble_eq_true rfl) ?_
  intro p e s m below meth c A b0 ls hF hA hno hP hD hl
  have hF2 := hF
  obtain ⟨hx, hb, hr, hml, hown, htw, hK, hlocks, hname⟩ := hF
  have hS : va_S A s.heap s.heap [] := va_S.rf
  have hl : lv_has ls 5 [(0, .ref x0), (1, .int x), (2, .int y), (3, .int z), (4, .int w)] := hl
  refine lv_aload_n hx hb d_SI_begins_0 rfl (lv_at hl 0 rfl) ?_
  refine xg hx hb hown htw hK hP 0 2 rfl k_SI (by decide) fl_SI_26 rfl d_SI_begins_1 ?_
  refine xg hx hb hown htw hK hP 1 1 rfl k_Pl (by decide) fl_SI_129 rfl d_SI_begins_4 ?_
  refine lv_bipush (v := nI 8) hx hb d_SI_begins_7 (by decide) ?_
  refine xc_lt (tgt := 22) (a := ht) (b := 8) hx hb (by omega) (by omega) d_SI_begins_9 (by decide) (fun c_9 => ?_) (fun c_9 => ?_)
  · refine lv_iload hx hb d_SI_begins_22 (lv_at hl 4 rfl) ?_
    refine lv_if_lt (tgt := 34) hx hb d_SI_begins_24 (by decide) (fun c_24 => ?_) (fun c_24 => ?_)
    · exact xthrow_IA (k := 145) (rest := []) hfl hx hb (by rw [hml]; exact hl.1.symm) hlocks hown htw hA hno hP hD hS (List.mem_of_getElem? (i := 5) rfl) ⟨Nat.le_of_ble_eq_true rfl, Nat.le_of_ble_eq_true rfl, Nat.le_of_ble_eq_true rfl, Nat.le_of_ble_eq_true rfl⟩ ⟨Nat.le_of_ble_eq_true rfl, Nat.le_of_ble_eq_true rfl⟩ (rfl) d_SI_begins_34 d_SI_begins_37 d_SI_begins_38 d_SI_begins_40 d_SI_begins_43
    · refine lv_iload hx hb d_SI_begins_27 (lv_at hl 4 rfl) ?_
      refine lv_bipush (v := nI 8) hx hb d_SI_begins_29 (by decide) ?_
      refine lv_icmp_le (tgt := 44) hx hb d_SI_begins_31 (by decide) (fun c_31 => ?_) (fun c_31 => ?_)
      · exact absurd hbad (fun q => q.elim c_24 (fun q => absurd c_31 (Int32.not_le.mpr q)))
      · exact xthrow_IA (k := 145) (rest := []) hfl hx hb (by rw [hml]; exact hl.1.symm) hlocks hown htw hA hno hP hD hS (List.mem_of_getElem? (i := 5) rfl) ⟨Nat.le_of_ble_eq_true rfl, Nat.le_of_ble_eq_true rfl, Nat.le_of_ble_eq_true rfl, Nat.le_of_ble_eq_true rfl⟩ ⟨Nat.le_of_ble_eq_true rfl, Nat.le_of_ble_eq_true rfl⟩ (rfl) d_SI_begins_34 d_SI_begins_37 d_SI_begins_38 d_SI_begins_40 d_SI_begins_43
  · omega

abbrev q_SI_follow_no (K : Nat → ClassId) (x0 : Nat) (s0 : Nat) (l0 : Nat) (p0 : Nat) (k0 : Nat) (bf : Nat) (p1 : Nat) (ht : Nat) (x : Int32) (y : Int32) (w : Int32) : va_W → Prop := fun u => u = ([(x0, .inr (6, [.ref s0, .ref l0, .ref p0, .ref k0, .int (nI bf)])), (p0, .inr (2, [.ref p1, .int (nI ht)]))] : va_W)
set_option maxHeartbeats 4000000 in
set_option maxRecDepth 100000 in
theorem c_SI_follow_no (l : Launch) (D : va_G) (K : Nat → ClassId) (x0 : Nat) (s0 : Nat) (l0 : Nat) (p0 : Nat) (k0 : Nat) (bf : Nat) (p1 : Nat) (ht : Nat) (x : Int32) (y : Int32) (w : Int32) (hfl : l.flags = flags0) (hf0 : ht = 0) : CT l y_SI_follow b_SI_follow 5 (some .int) ({ frames := 8, cells := 1, slots := 6, locals := 220 } : Room) D K [.ref x0, .int x, .int y, .int w] ([(x0, .inr (6, [.ref s0, .ref l0, .ref p0, .ref k0, .int (nI bf)])), (p0, .inr (2, [.ref p1, .int (nI ht)]))] : va_W) "java/lang/IllegalStateException" (q_SI_follow_no K x0 s0 l0 p0 k0 bf p1 ht x y w) := by
  refine CT_of (by decide) (Nat.le_of_ble_eq_true rfl) ?_
  intro p e s m below meth c A b0 ls hF hA hno hP hD hl
  have hF2 := hF
  obtain ⟨hx, hb, hr, hml, hown, htw, hK, hlocks, hname⟩ := hF
  have hS : va_S A s.heap s.heap [] := va_S.rf
  have hl : lv_has ls 5 [(0, .ref x0), (1, .int x), (2, .int y), (3, .int w)] := hl
  refine lv_aload_n hx hb d_SI_follow_0 rfl (lv_at hl 0 rfl) ?_
  refine xg hx hb hown htw hK hP 0 2 rfl k_SI (by decide) fl_SI_26 rfl d_SI_follow_1 ?_
  refine xg hx hb hown htw hK hP 1 1 rfl k_Pl (by decide) fl_SI_129 rfl d_SI_follow_4 ?_
  refine lv_iconst (v := nI 1) hx hb d_SI_follow_7 (by decide) ?_
  refine xc_ge (tgt := 21) (a := ht) (b := 1) hx hb (by omega) (by omega) d_SI_follow_8 (by decide) (fun c_8 => ?_) (fun c_8 => ?_)
  · omega
  · exact xthrow_IS (k := 147) (rest := []) hfl hx hb (by rw [hml]; exact hl.1.symm) hlocks hown htw hA hno hP hD hS (List.mem_of_getElem? (i := 6) rfl) ⟨Nat.le_of_ble_eq_true rfl, Nat.le_of_ble_eq_true rfl, Nat.le_of_ble_eq_true rfl, Nat.le_of_ble_eq_true rfl⟩ ⟨Nat.le_of_ble_eq_true rfl, Nat.le_of_ble_eq_true rfl⟩ (rfl) d_SI_follow_11 d_SI_follow_14 d_SI_follow_15 d_SI_follow_17 d_SI_follow_20

abbrev q_SI_follow_bad (K : Nat → ClassId) (x0 : Nat) (s0 : Nat) (l0 : Nat) (p0 : Nat) (k0 : Nat) (bf : Nat) (p1 : Nat) (ht : Nat) (x : Int32) (y : Int32) (w : Int32) : va_W → Prop := fun u => u = ([(x0, .inr (6, [.ref s0, .ref l0, .ref p0, .ref k0, .int (nI bf)])), (p0, .inr (2, [.ref p1, .int (nI ht)]))] : va_W)
set_option maxHeartbeats 4000000 in
set_option maxRecDepth 100000 in
theorem c_SI_follow_bad (l : Launch) (D : va_G) (K : Nat → ClassId) (x0 : Nat) (s0 : Nat) (l0 : Nat) (p0 : Nat) (k0 : Nat) (bf : Nat) (p1 : Nat) (ht : Nat) (x : Int32) (y : Int32) (w : Int32) (hfl : l.flags = flags0) (hf0 : 0 < ht) (hf8 : ht ≤ 8) (hbad : w < nI 1 ∨ nI 100 < w) : CT l y_SI_follow b_SI_follow 5 (some .int) ({ frames := 8, cells := 1, slots := 6, locals := 220 } : Room) D K [.ref x0, .int x, .int y, .int w] ([(x0, .inr (6, [.ref s0, .ref l0, .ref p0, .ref k0, .int (nI bf)])), (p0, .inr (2, [.ref p1, .int (nI ht)]))] : va_W) "java/lang/IllegalArgumentException" (q_SI_follow_bad K x0 s0 l0 p0 k0 bf p1 ht x y w) := by
  refine CT_of (by decide) (Nat.le_of_ble_eq_true rfl) ?_
  intro p e s m below meth c A b0 ls hF hA hno hP hD hl
  have hF2 := hF
  obtain ⟨hx, hb, hr, hml, hown, htw, hK, hlocks, hname⟩ := hF
  have hS : va_S A s.heap s.heap [] := va_S.rf
  have hl : lv_has ls 5 [(0, .ref x0), (1, .int x), (2, .int y), (3, .int w)] := hl
  refine lv_aload_n hx hb d_SI_follow_0 rfl (lv_at hl 0 rfl) ?_
  refine xg hx hb hown htw hK hP 0 2 rfl k_SI (by decide) fl_SI_26 rfl d_SI_follow_1 ?_
  refine xg hx hb hown htw hK hP 1 1 rfl k_Pl (by decide) fl_SI_129 rfl d_SI_follow_4 ?_
  refine lv_iconst (v := nI 1) hx hb d_SI_follow_7 (by decide) ?_
  refine xc_ge (tgt := 21) (a := ht) (b := 1) hx hb (by omega) (by omega) d_SI_follow_8 (by decide) (fun c_8 => ?_) (fun c_8 => ?_)
  · refine lv_iload_n hx hb d_SI_follow_21 rfl (lv_at hl 3 rfl) ?_
    refine lv_iconst (v := nI 1) hx hb d_SI_follow_22 (by decide) ?_
    refine lv_icmp_lt (tgt := 32) hx hb d_SI_follow_23 (by decide) (fun c_23 => ?_) (fun c_23 => ?_)
    · exact xthrow_IA (k := 149) (rest := []) hfl hx hb (by rw [hml]; exact hl.1.symm) hlocks hown htw hA hno hP hD hS (List.mem_of_getElem? (i := 7) rfl) ⟨Nat.le_of_ble_eq_true rfl, Nat.le_of_ble_eq_true rfl, Nat.le_of_ble_eq_true rfl, Nat.le_of_ble_eq_true rfl⟩ ⟨Nat.le_of_ble_eq_true rfl, Nat.le_of_ble_eq_true rfl⟩ (rfl) d_SI_follow_32 d_SI_follow_35 d_SI_follow_36 d_SI_follow_38 d_SI_follow_41
    · refine lv_iload_n hx hb d_SI_follow_26 rfl (lv_at hl 3 rfl) ?_
      refine lv_bipush (v := nI 100) hx hb d_SI_follow_27 (by decide) ?_
      refine lv_icmp_le (tgt := 42) hx hb d_SI_follow_29 (by decide) (fun c_29 => ?_) (fun c_29 => ?_)
      · exact absurd hbad (fun q => q.elim c_23 (fun q => absurd c_29 (Int32.not_le.mpr q)))
      · exact xthrow_IA (k := 149) (rest := []) hfl hx hb (by rw [hml]; exact hl.1.symm) hlocks hown htw hA hno hP hD hS (List.mem_of_getElem? (i := 7) rfl) ⟨Nat.le_of_ble_eq_true rfl, Nat.le_of_ble_eq_true rfl, Nat.le_of_ble_eq_true rfl, Nat.le_of_ble_eq_true rfl⟩ ⟨Nat.le_of_ble_eq_true rfl, Nat.le_of_ble_eq_true rfl⟩ (rfl) d_SI_follow_32 d_SI_follow_35 d_SI_follow_36 d_SI_follow_38 d_SI_follow_41
  · omega

abbrev q_SI_join_no (K : Nat → ClassId) (x0 : Nat) (s0 : Nat) (l0 : Nat) (p0 : Nat) (k0 : Nat) (bf : Nat) (p1 : Nat) (ht : Nat) (w : Int32) : va_W → Prop := fun u => u = ([(x0, .inr (6, [.ref s0, .ref l0, .ref p0, .ref k0, .int (nI bf)])), (p0, .inr (2, [.ref p1, .int (nI ht)]))] : va_W)
set_option maxHeartbeats 4000000 in
set_option maxRecDepth 100000 in
theorem c_SI_join_no (l : Launch) (D : va_G) (K : Nat → ClassId) (x0 : Nat) (s0 : Nat) (l0 : Nat) (p0 : Nat) (k0 : Nat) (bf : Nat) (p1 : Nat) (ht : Nat) (w : Int32) (hfl : l.flags = flags0) (hf0 : ht < 2) : CT l y_SI_join b_SI_join 2 (some .int) ({ frames := 8, cells := 1, slots := 6, locals := 220 } : Room) D K [.ref x0, .int w] ([(x0, .inr (6, [.ref s0, .ref l0, .ref p0, .ref k0, .int (nI bf)])), (p0, .inr (2, [.ref p1, .int (nI ht)]))] : va_W) "java/lang/IllegalStateException" (q_SI_join_no K x0 s0 l0 p0 k0 bf p1 ht w) := by
  refine CT_of (by decide) (Nat.le_of_ble_eq_true rfl) ?_
  intro p e s m below meth c A b0 ls hF hA hno hP hD hl
  have hF2 := hF
  obtain ⟨hx, hb, hr, hml, hown, htw, hK, hlocks, hname⟩ := hF
  have hS : va_S A s.heap s.heap [] := va_S.rf
  have hl : lv_has ls 2 [(0, .ref x0), (1, .int w)] := hl
  refine lv_aload_n hx hb d_SI_join_0 rfl (lv_at hl 0 rfl) ?_
  refine xg hx hb hown htw hK hP 0 2 rfl k_SI (by decide) fl_SI_26 rfl d_SI_join_1 ?_
  refine xg hx hb hown htw hK hP 1 1 rfl k_Pl (by decide) fl_SI_129 rfl d_SI_join_4 ?_
  refine lv_iconst (v := nI 2) hx hb d_SI_join_7 (by decide) ?_
  refine xc_ge (tgt := 21) (a := ht) (b := 2) hx hb (by omega) (by omega) d_SI_join_8 (by decide) (fun c_8 => ?_) (fun c_8 => ?_)
  · omega
  · exact xthrow_IS (k := 160) (rest := []) hfl hx hb (by rw [hml]; exact hl.1.symm) hlocks hown htw hA hno hP hD hS (List.mem_of_getElem? (i := 8) rfl) ⟨Nat.le_of_ble_eq_true rfl, Nat.le_of_ble_eq_true rfl, Nat.le_of_ble_eq_true rfl, Nat.le_of_ble_eq_true rfl⟩ ⟨Nat.le_of_ble_eq_true rfl, Nat.le_of_ble_eq_true rfl⟩ (rfl) d_SI_join_11 d_SI_join_14 d_SI_join_15 d_SI_join_17 d_SI_join_20

abbrev q_SI_join_bad (K : Nat → ClassId) (x0 : Nat) (s0 : Nat) (l0 : Nat) (p0 : Nat) (k0 : Nat) (bf : Nat) (p1 : Nat) (ht : Nat) (w : Int32) : va_W → Prop := fun u => u = ([(x0, .inr (6, [.ref s0, .ref l0, .ref p0, .ref k0, .int (nI bf)])), (p0, .inr (2, [.ref p1, .int (nI ht)]))] : va_W)
set_option maxHeartbeats 4000000 in
set_option maxRecDepth 100000 in
theorem c_SI_join_bad (l : Launch) (D : va_G) (K : Nat → ClassId) (x0 : Nat) (s0 : Nat) (l0 : Nat) (p0 : Nat) (k0 : Nat) (bf : Nat) (p1 : Nat) (ht : Nat) (w : Int32) (hfl : l.flags = flags0) (hf0 : 2 ≤ ht) (hf8 : ht ≤ 8) (hbad : w < 0 ∨ nI 3 < w) : CT l y_SI_join b_SI_join 2 (some .int) ({ frames := 8, cells := 1, slots := 6, locals := 220 } : Room) D K [.ref x0, .int w] ([(x0, .inr (6, [.ref s0, .ref l0, .ref p0, .ref k0, .int (nI bf)])), (p0, .inr (2, [.ref p1, .int (nI ht)]))] : va_W) "java/lang/IllegalArgumentException" (q_SI_join_bad K x0 s0 l0 p0 k0 bf p1 ht w) := by
  refine CT_of (by decide) (Nat.le_of_ble_eq_true rfl) ?_
  intro p e s m below meth c A b0 ls hF hA hno hP hD hl
  have hF2 := hF
  obtain ⟨hx, hb, hr, hml, hown, htw, hK, hlocks, hname⟩ := hF
  have hS : va_S A s.heap s.heap [] := va_S.rf
  have hl : lv_has ls 2 [(0, .ref x0), (1, .int w)] := hl
  refine lv_aload_n hx hb d_SI_join_0 rfl (lv_at hl 0 rfl) ?_
  refine xg hx hb hown htw hK hP 0 2 rfl k_SI (by decide) fl_SI_26 rfl d_SI_join_1 ?_
  refine xg hx hb hown htw hK hP 1 1 rfl k_Pl (by decide) fl_SI_129 rfl d_SI_join_4 ?_
  refine lv_iconst (v := nI 2) hx hb d_SI_join_7 (by decide) ?_
  refine xc_ge (tgt := 21) (a := ht) (b := 2) hx hb (by omega) (by omega) d_SI_join_8 (by decide) (fun c_8 => ?_) (fun c_8 => ?_)
  · refine lv_iload_n hx hb d_SI_join_21 rfl (lv_at hl 1 rfl) ?_
    refine lv_if_lt (tgt := 30) hx hb d_SI_join_22 (by decide) (fun c_22 => ?_) (fun c_22 => ?_)
    · exact xthrow_IA (k := 162) (rest := []) hfl hx hb (by rw [hml]; exact hl.1.symm) hlocks hown htw hA hno hP hD hS (List.mem_of_getElem? (i := 9) rfl) ⟨Nat.le_of_ble_eq_true rfl, Nat.le_of_ble_eq_true rfl, Nat.le_of_ble_eq_true rfl, Nat.le_of_ble_eq_true rfl⟩ ⟨Nat.le_of_ble_eq_true rfl, Nat.le_of_ble_eq_true rfl⟩ (rfl) d_SI_join_30 d_SI_join_33 d_SI_join_34 d_SI_join_36 d_SI_join_39
    · refine lv_iload_n hx hb d_SI_join_25 rfl (lv_at hl 1 rfl) ?_
      refine lv_iconst (v := nI 3) hx hb d_SI_join_26 (by decide) ?_
      refine lv_icmp_le (tgt := 40) hx hb d_SI_join_27 (by decide) (fun c_27 => ?_) (fun c_27 => ?_)
      · exact absurd hbad (fun q => q.elim c_22 (fun q => absurd c_27 (Int32.not_le.mpr q)))
      · exact xthrow_IA (k := 162) (rest := []) hfl hx hb (by rw [hml]; exact hl.1.symm) hlocks hown htw hA hno hP hD hS (List.mem_of_getElem? (i := 9) rfl) ⟨Nat.le_of_ble_eq_true rfl, Nat.le_of_ble_eq_true rfl, Nat.le_of_ble_eq_true rfl, Nat.le_of_ble_eq_true rfl⟩ ⟨Nat.le_of_ble_eq_true rfl, Nat.le_of_ble_eq_true rfl⟩ (rfl) d_SI_join_30 d_SI_join_33 d_SI_join_34 d_SI_join_36 d_SI_join_39
  · omega

abbrev q_SI_drop_no (K : Nat → ClassId) (x0 : Nat) (s0 : Nat) (l0 : Nat) (p0 : Nat) (k0 : Nat) (bf : Nat) (p1 : Nat) (ht : Nat) : va_W → Prop := fun u => u = ([(x0, .inr (6, [.ref s0, .ref l0, .ref p0, .ref k0, .int (nI bf)])), (p0, .inr (2, [.ref p1, .int (nI ht)]))] : va_W)
set_option maxHeartbeats 4000000 in
set_option maxRecDepth 100000 in
theorem c_SI_drop_no (l : Launch) (D : va_G) (K : Nat → ClassId) (x0 : Nat) (s0 : Nat) (l0 : Nat) (p0 : Nat) (k0 : Nat) (bf : Nat) (p1 : Nat) (ht : Nat) (hfl : l.flags = flags0) (hf0 : ht = 0) : CT l y_SI_drop b_SI_drop 1 (some .int) ({ frames := 8, cells := 1, slots := 6, locals := 220 } : Room) D K [.ref x0] ([(x0, .inr (6, [.ref s0, .ref l0, .ref p0, .ref k0, .int (nI bf)])), (p0, .inr (2, [.ref p1, .int (nI ht)]))] : va_W) "java/lang/IllegalStateException" (q_SI_drop_no K x0 s0 l0 p0 k0 bf p1 ht) := by
  refine CT_of (by decide) (Nat.le_of_ble_eq_true rfl) ?_
  intro p e s m below meth c A b0 ls hF hA hno hP hD hl
  have hF2 := hF
  obtain ⟨hx, hb, hr, hml, hown, htw, hK, hlocks, hname⟩ := hF
  have hS : va_S A s.heap s.heap [] := va_S.rf
  have hl : lv_has ls 1 [(0, .ref x0)] := hl
  refine lv_aload_n hx hb d_SI_drop_0 rfl (lv_at hl 0 rfl) ?_
  refine xg hx hb hown htw hK hP 0 2 rfl k_SI (by decide) fl_SI_26 rfl d_SI_drop_1 ?_
  refine xg hx hb hown htw hK hP 1 1 rfl k_Pl (by decide) fl_SI_129 rfl d_SI_drop_4 ?_
  refine lv_iconst (v := nI 1) hx hb d_SI_drop_7 (by decide) ?_
  refine xc_ge (tgt := 21) (a := ht) (b := 1) hx hb (by omega) (by omega) d_SI_drop_8 (by decide) (fun c_8 => ?_) (fun c_8 => ?_)
  · omega
  · exact xthrow_IS (k := 147) (rest := []) hfl hx hb (by rw [hml]; exact hl.1.symm) hlocks hown htw hA hno hP hD hS (List.mem_of_getElem? (i := 6) rfl) ⟨Nat.le_of_ble_eq_true rfl, Nat.le_of_ble_eq_true rfl, Nat.le_of_ble_eq_true rfl, Nat.le_of_ble_eq_true rfl⟩ ⟨Nat.le_of_ble_eq_true rfl, Nat.le_of_ble_eq_true rfl⟩ (rfl) d_SI_drop_11 d_SI_drop_14 d_SI_drop_15 d_SI_drop_17 d_SI_drop_20


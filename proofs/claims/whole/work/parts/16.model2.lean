abbrev q_Mo_fourAlike (K : Nat → ClassId) (m0 : Nat) (th : Nat) (T : Nat) (hd : Nat) (r1 : Nat) (r2 : Nat) (r3 : Nat) (r4 : Nat) (cm : Nat) (r5 : Nat) (r6 : Nat) (sg : Nat) (r7 : Nat) (sn : Nat) (r8 : Nat) (r9 : Nat) (lv : Nat → Nat) : Int32 → va_W → Prop := fun r u => u = [(m0, .inr (8, [.int (nI th), .int (nI T), .int (nI hd), .ref r1, .ref r2, .ref r3, .ref r4, .int (nI cm), .ref r5, .ref r6, .int (nI sg), .ref r7, .int (nI sn), .ref r8, .ref r9])), (r7, .inl (K 0, 64, .inl (nA lv)))] ∧ r = nI (bN (rf4 lv sg))
set_option maxHeartbeats 4000000 in
set_option maxRecDepth 100000 in
theorem c_Mo_fourAlike (l : Launch) (D : va_G) (K : Nat → ClassId) (m0 : Nat) (th : Nat) (T : Nat) (hd : Nat) (r1 : Nat) (r2 : Nat) (r3 : Nat) (r4 : Nat) (cm : Nat) (r5 : Nat) (r6 : Nat) (sg : Nat) (r7 : Nat) (sn : Nat) (r8 : Nat) (r9 : Nat) (lv : Nat → Nat) (hsg : sg ≤ 64) (hlv : ∀ i, i < 64 → lv i < 2 ^ 31) : CI l y_Mo_fourAlike b_Mo_fourAlike 1 .boolean ({ frames := 0, cells := 0, slots := 0, locals := 0 } : Room) D K [.ref m0] [(m0, .inr (8, [.int (nI th), .int (nI T), .int (nI hd), .ref r1, .ref r2, .ref r3, .ref r4, .int (nI cm), .ref r5, .ref r6, .int (nI sg), .ref r7, .int (nI sn), .ref r8, .ref r9])), (r7, .inl (K 0, 64, .inl (nA lv)))] (q_Mo_fourAlike K m0 th T hd r1 r2 r3 r4 cm r5 r6 sg r7 sn r8 r9 lv) := by
  refine CI_of (by decide) (Nat.le_of_ble_eq_true rfl) ?_
  intro p e s m below meth c A b0 ls hF hA hP hD hl
  have hF2 := hF
  obtain ⟨hx, hb, hr, hml, hown, htw, hK, hlocks, hname⟩ := hF
  have jn_87 : (¬ rf4 lv sg) → ∀ (H : Heap) (locs : List Loc), va_P D classes [(m0, .inr (8, [.int (nI th), .int (nI T), .int (nI hd), .ref r1, .ref r2, .ref r3, .ref r4, .int (nI cm), .ref r5, .ref r6, .int (nI sg), .ref r7, .int (nI sn), .ref r8, .ref r9])), (r7, .inl (K 0, 64, .inl (nA lv)))] H → va_D A [(m0, .inr (8, [.int (nI th), .int (nI T), .int (nI hd), .ref r1, .ref r2, .ref r3, .ref r4, .int (nI cm), .ref r5, .ref r6, .int (nI sg), .ref r7, .int (nI sn), .ref r8, .ref r9])), (r7, .inl (K 0, 64, .inl (nA lv)))] → va_S A s.heap H locs → ∀ ls : Array Slot, lv_has ls 1 [] → W p l e ({ frames := 0, cells := 0, slots := 0, locals := 0 } : Room) s m ([.ref m0] : List Value).toArray below meth c H locs 0 0 (MQ below (va_Qi (q_Mo_fourAlike K m0 th T hd r1 r2 r3 r4 cm r5 r6 sg r7 sn r8 r9 lv) (fun u t => va_P D classes u t.heap ∧ va_D A u) A) ([.ref m0] : List Value).toArray s 0 0 A) (F0 m 87 ls []) := by
    intro hn4 H locs hP hD hS ls hl
    refine lv_iconst (v := nI 0) hx hb d_Mo_fourAlike_87 (by decide) ?_
    exact xr_zret (by first | exact Or.inl rfl | exact Or.inr rfl | exact bN_v _) hx hb hr hlocks hP hD hS (Nat.le_of_ble_eq_true rfl) (Nat.le_of_ble_eq_true rfl) (⟨rfl, by first | rw [bN_f hn4] | rw [bN_t ⟨c_5, c_30, c_55, c_80⟩]⟩) d_Mo_fourAlike_88
  have hS : va_S A s.heap s.heap [] := va_S.rf
  have hl : lv_has ls 1 [(0, .ref m0)] := hl
  refine lv_aload_n hx hb d_Mo_fourAlike_0 rfl (lv_at hl 0 rfl) ?_
  refine xg hx hb hown htw hK hP 0 10 rfl k_Mo (by decide) fl_Mo_58 rfl d_Mo_fourAlike_1 ?_
  refine lv_iconst (v := nI 4) hx hb d_Mo_fourAlike_4 (by decide) ?_
  refine xc_lt (tgt := 87) (a := sg) (b := 4) hx hb (by omega) (by omega) d_Mo_fourAlike_5 (by decide) (fun c_5 => ?_) (fun c_5 => ?_)
  · exact jn_87  (by exact fun q => by have := q.1; omega) _ _ hP hD hS _ (lv_sub hl [] rfl)
  · refine lv_aload_n hx hb d_Mo_fourAlike_8 rfl (lv_at hl 0 rfl) ?_
    refine xg hx hb hown htw hK hP 0 11 rfl k_Mo (by decide) fl_Mo_29 rfl d_Mo_fourAlike_9 ?_
    refine lv_aload_n hx hb d_Mo_fourAlike_12 rfl (lv_at hl 0 rfl) ?_
    refine xg hx hb hown htw hK hP 0 10 rfl k_Mo (by decide) fl_Mo_58 rfl d_Mo_fourAlike_13 ?_
    refine lv_iconst (v := nI 1) hx hb d_Mo_fourAlike_16 (by decide) ?_
    refine lv_isub hx hb d_Mo_fourAlike_17 ?_
    refine xi (nI_sub (a := sg) (b := 1) (by omega)) ?_
    refine xald_i hx hb hK hP 1 rfl (by omega) (by omega) d_Mo_fourAlike_18 ?_
    refine xi (y := nI (lv (sg - 1))) rfl ?_
    refine lv_aload_n hx hb d_Mo_fourAlike_19 rfl (lv_at hl 0 rfl) ?_
    refine xg hx hb hown htw hK hP 0 11 rfl k_Mo (by decide) fl_Mo_29 rfl d_Mo_fourAlike_20 ?_
    refine lv_aload_n hx hb d_Mo_fourAlike_23 rfl (lv_at hl 0 rfl) ?_
    refine xg hx hb hown htw hK hP 0 10 rfl k_Mo (by decide) fl_Mo_58 rfl d_Mo_fourAlike_24 ?_
    refine lv_iconst (v := nI 2) hx hb d_Mo_fourAlike_27 (by decide) ?_
    refine lv_isub hx hb d_Mo_fourAlike_28 ?_
    refine xi (nI_sub (a := sg) (b := 2) (by omega)) ?_
    refine xald_i hx hb hK hP 1 rfl (by omega) (by omega) d_Mo_fourAlike_29 ?_
    refine xi (y := nI (lv (sg - 2))) rfl ?_
    refine xc_ne (tgt := 87) (a := lv (sg - 1)) (b := lv (sg - 2)) hx hb (by exact hlv _ (by omega)) (by exact hlv _ (by omega)) d_Mo_fourAlike_30 (by decide) (fun c_30 => ?_) (fun c_30 => ?_)
    · exact jn_87  (by exact fun q => c_30 q.2.1) _ _ hP hD hS _ (lv_sub hl [] rfl)
    · refine lv_aload_n hx hb d_Mo_fourAlike_33 rfl (lv_at hl 0 rfl) ?_
      refine xg hx hb hown htw hK hP 0 11 rfl k_Mo (by decide) fl_Mo_29 rfl d_Mo_fourAlike_34 ?_
      refine lv_aload_n hx hb d_Mo_fourAlike_37 rfl (lv_at hl 0 rfl) ?_
      refine xg hx hb hown htw hK hP 0 10 rfl k_Mo (by decide) fl_Mo_58 rfl d_Mo_fourAlike_38 ?_
      refine lv_iconst (v := nI 1) hx hb d_Mo_fourAlike_41 (by decide) ?_
      refine lv_isub hx hb d_Mo_fourAlike_42 ?_
      refine xi (nI_sub (a := sg) (b := 1) (by omega)) ?_
      refine xald_i hx hb hK hP 1 rfl (by omega) (by omega) d_Mo_fourAlike_43 ?_
      refine xi (y := nI (lv (sg - 1))) rfl ?_
      refine lv_aload_n hx hb d_Mo_fourAlike_44 rfl (lv_at hl 0 rfl) ?_
      refine xg hx hb hown htw hK hP 0 11 rfl k_Mo (by decide) fl_Mo_29 rfl d_Mo_fourAlike_45 ?_
      refine lv_aload_n hx hb d_Mo_fourAlike_48 rfl (lv_at hl 0 rfl) ?_
      refine xg hx hb hown htw hK hP 0 10 rfl k_Mo (by decide) fl_Mo_58 rfl d_Mo_fourAlike_49 ?_
      refine lv_iconst (v := nI 3) hx hb d_Mo_fourAlike_52 (by decide) ?_
      refine lv_isub hx hb d_Mo_fourAlike_53 ?_
      refine xi (nI_sub (a := sg) (b := 3) (by omega)) ?_
      refine xald_i hx hb hK hP 1 rfl (by omega) (by omega) d_Mo_fourAlike_54 ?_
      refine xi (y := nI (lv (sg - 3))) rfl ?_
      refine xc_ne (tgt := 87) (a := lv (sg - 1)) (b := lv (sg - 3)) hx hb (by exact hlv _ (by omega)) (by exact hlv _ (by omega)) d_Mo_fourAlike_55 (by decide) (fun c_55 => ?_) (fun c_55 => ?_)
      · exact jn_87  (by exact fun q => c_55 q.2.2.1) _ _ hP hD hS _ (lv_sub hl [] rfl)
      · refine lv_aload_n hx hb d_Mo_fourAlike_58 rfl (lv_at hl 0 rfl) ?_
        refine xg hx hb hown htw hK hP 0 11 rfl k_Mo (by decide) fl_Mo_29 rfl d_Mo_fourAlike_59 ?_
        refine lv_aload_n hx hb d_Mo_fourAlike_62 rfl (lv_at hl 0 rfl) ?_
        refine xg hx hb hown htw hK hP 0 10 rfl k_Mo (by decide) fl_Mo_58 rfl d_Mo_fourAlike_63 ?_
        refine lv_iconst (v := nI 1) hx hb d_Mo_fourAlike_66 (by decide) ?_
        refine lv_isub hx hb d_Mo_fourAlike_67 ?_
        refine xi (nI_sub (a := sg) (b := 1) (by omega)) ?_
        refine xald_i hx hb hK hP 1 rfl (by omega) (by omega) d_Mo_fourAlike_68 ?_
        refine xi (y := nI (lv (sg - 1))) rfl ?_
        refine lv_aload_n hx hb d_Mo_fourAlike_69 rfl (lv_at hl 0 rfl) ?_
        refine xg hx hb hown htw hK hP 0 11 rfl k_Mo (by decide) fl_Mo_29 rfl d_Mo_fourAlike_70 ?_
        refine lv_aload_n hx hb d_Mo_fourAlike_73 rfl (lv_at hl 0 rfl) ?_
        refine xg hx hb hown htw hK hP 0 10 rfl k_Mo (by decide) fl_Mo_58 rfl d_Mo_fourAlike_74 ?_
        refine lv_iconst (v := nI 4) hx hb d_Mo_fourAlike_77 (by decide) ?_
        refine lv_isub hx hb d_Mo_fourAlike_78 ?_
        refine xi (nI_sub (a := sg) (b := 4) (by omega)) ?_
        refine xald_i hx hb hK hP 1 rfl (by omega) (by omega) d_Mo_fourAlike_79 ?_
        refine xi (y := nI (lv (sg - 4))) rfl ?_
        refine xc_ne (tgt := 87) (a := lv (sg - 1)) (b := lv (sg - 4)) hx hb (by exact hlv _ (by omega)) (by exact hlv _ (by omega)) d_Mo_fourAlike_80 (by decide) (fun c_80 => ?_) (fun c_80 => ?_)
        · exact jn_87  (by exact fun q => c_80 q.2.2.2) _ _ hP hD hS _ (lv_sub hl [] rfl)
        · refine lv_iconst (v := nI 1) hx hb d_Mo_fourAlike_83 (by decide) ?_
          refine lv_goto (tgt := 88) hx hb d_Mo_fourAlike_84 (by decide) ?_
          exact xr_zret (by first | exact Or.inl rfl | exact Or.inr rfl | exact bN_v _) hx hb hr hlocks hP hD hS (Nat.le_of_ble_eq_true rfl) (Nat.le_of_ble_eq_true rfl) (⟨rfl, by first | rw [bN_f hn4] | rw [bN_t ⟨c_5, c_30, c_55, c_80⟩]⟩) d_Mo_fourAlike_88

abbrev q_Mo_settle (K : Nat → ClassId) (m0 : Nat) (th : Nat) (T : Nat) (hd : Nat) (r1 : Nat) (r2 : Nat) (r3 : Nat) (r4 : Nat) (cm : Nat) (r5 : Nat) (r6 : Nat) (sg : Nat) (r7 : Nat) (sn : Nat) (r8 : Nat) (r9 : Nat) (wh : Nat → Int) (tkn : Nat → Nat) (lv : Nat → Nat) : va_W → Prop := fun u => ∃ wh' : Nat → Int, ∃ lv' : Nat → Nat, ∃ sg' : Nat, u = [(m0, .inr (8, [.int (nI th), .int (nI T), .int (nI hd), .ref r1, .ref r2, .ref r3, .ref r4, .int (nI cm), .ref r5, .ref r6, .int (nI sg'), .ref r7, .int (nI sn), .ref r8, .ref r9])), (r5, .inl (K 0, 600, .inl (zA wh'))), (r6, .inl (K 2, 600, .inl (nA tkn))), (r7, .inl (K 0, 64, .inl (nA lv')))] ∧ ((wh', lv', sg') = rfF tkn cm 64 (rfB wh lv sg cm))
set_option maxHeartbeats 4000000 in
set_option maxRecDepth 100000 in
theorem lp_Mo_settle_64 {p : Program} {l : Launch} {e : Env} {s : State} {m : MethodId} {below : List Frame} {meth : Method} {c : Code} {A : Nat → Prop} {D : va_G} {K : Nat → ClassId} (m0 : Nat) (th : Nat) (T : Nat) (hd : Nat) (r1 : Nat) (r2 : Nat) (r3 : Nat) (r4 : Nat) (cm : Nat) (r5 : Nat) (r6 : Nat) (sg : Nat) (r7 : Nat) (sn : Nat) (r8 : Nat) (r9 : Nat) (wh : Nat → Int) (tkn : Nat → Nat) (lv : Nat → Nat) (hcm : cm ≤ 600) (hw : ∀ d, d < cm → -2 ≤ wh d ∧ wh d ≤ 1000) (htk : ∀ d, d < cm → tkn d ≤ 1) (hsg : sg ≤ 62) (hlv : ∀ i, i < 64 → lv i ≤ 1000) (hF : Fx p s m meth c y_Mo_settle b_Mo_settle 2 none D K) {b0 : Nat} (hA : AS K s A b0) : ∀ fuel : Nat, ∀ ww : Nat → Int, ∀ ll : Nat → Nat, ∀ qq : Nat, (qq ≤ 63) → (∀ d, d < cm → -2 ≤ ww d ∧ ww d ≤ 1000) → (∀ i, i < 64 → ll i ≤ 2000 - qq) → (rfF tkn cm qq (ww, ll, qq) = rfF tkn cm 64 (rfB wh lv sg cm)) → qq < fuel → ∀ (H : Heap) (locs : List Loc), va_P D classes [(m0, .inr (8, [.int (nI th), .int (nI T), .int (nI hd), .ref r1, .ref r2, .ref r3, .ref r4, .int (nI cm), .ref r5, .ref r6, .int (nI qq), .ref r7, .int (nI sn), .ref r8, .ref r9])), (r5, .inl (K 0, 600, .inl (zA ww))), (r6, .inl (K 2, 600, .inl (nA tkn))), (r7, .inl (K 0, 64, .inl (nA ll)))] H → va_D A [(m0, .inr (8, [.int (nI th), .int (nI T), .int (nI hd), .ref r1, .ref r2, .ref r3, .ref r4, .int (nI cm), .ref r5, .ref r6, .int (nI qq), .ref r7, .int (nI sn), .ref r8, .ref r9])), (r5, .inl (K 0, 600, .inl (zA ww))), (r6, .inl (K 2, 600, .inl (nA tkn))), (r7, .inl (K 0, 64, .inl (nA ll)))] → va_S A s.heap H locs → ∀ ls : Array Slot, lv_has ls 2 [(0, .ref m0)] → W p l e ({ frames := 1, cells := 0, slots := 0, locals := 24 } : Room) s m ([.ref m0] : List Value).toArray below meth c H locs 0 0 (MQ below (va_Qv (q_Mo_settle K m0 th T hd r1 r2 r3 r4 cm r5 r6 sg r7 sn r8 r9 wh tkn lv) (fun u t => va_P D classes u t.heap ∧ va_D A u) A) ([.ref m0] : List Value).toArray s 0 0 A) (F0 m 64 ls []) := by
  have hF2 := hF
  obtain ⟨hx, hb, hr, hml, hown, htw, hK, hlocks, hname⟩ := hF
  intro fuel
  induction fuel with
  | zero => intros; omega
  | succ fuel ih =>
    intro ww ll qq hq hbd hll hR hfu H locs hP hD hS ls hl
    refine lv_aload_n hx hb d_Mo_settle_64 rfl (lv_at hl 0 rfl) ?_
    refine xcV_i (As := []) (rest := []) (wr := [(r5, .inl (K 0, 600, .inl (zA ww))), (r6, .inl (K 2, 600, .inl (nA tkn)))]) hx hb hml hown htw hK hA hl.1 hP hD hS (c_Mo_fourAlike l D K m0 th T hd r1 r2 r3 r4 cm r5 r6 qq r7 sn r8 r9 ll (by omega) (by exact fun i hi => by have := hll i hi; omega)) [0, 3] [1, 2] rfl rfl (by decide) (by decide) (by decide) 0 rfl k_Mo ml_Mo_61 w_Mo_fourAlike rfl ⟨by decide, by decide⟩ rfl (Nat.le_of_ble_eq_true rfl) ⟨by decide, by decide⟩ d_Mo_settle_65 (fun r u H locs hpost hP hD hS => ?_)
    obtain ⟨rfl, rfl⟩ := hpost
    have hP : va_P D classes [(r5, .inl (K 0, 600, .inl (zA ww))), (r6, .inl (K 2, 600, .inl (nA tkn))), (m0, .inr (8, [.int (nI th), .int (nI T), .int (nI hd), .ref r1, .ref r2, .ref r3, .ref r4, .int (nI cm), .ref r5, .ref r6, .int (nI qq), .ref r7, .int (nI sn), .ref r8, .ref r9])), (r7, .inl (K 0, 64, .inl (nA ll)))] H := hP
    have hD : va_D A [(r5, .inl (K 0, 600, .inl (zA ww))), (r6, .inl (K 2, 600, .inl (nA tkn))), (m0, .inr (8, [.int (nI th), .int (nI T), .int (nI hd), .ref r1, .ref r2, .ref r3, .ref r4, .int (nI cm), .ref r5, .ref r6, .int (nI qq), .ref r7, .int (nI sn), .ref r8, .ref r9])), (r7, .inl (K 0, 64, .inl (nA ll)))] := hD
    refine xz_eq (tgt := 122) (a := bN (rf4 ll qq)) hx hb (by exact bN_31 _) d_Mo_settle_68 (by decide) (fun c_68 => ?_) (fun c_68 => ?_)
    · obtain ⟨hP, hD⟩ := xp (ws' := [(m0, .inr (8, [.int (nI th), .int (nI T), .int (nI hd), .ref r1, .ref r2, .ref r3, .ref r4, .int (nI cm), .ref r5, .ref r6, .int (nI qq), .ref r7, .int (nI sn), .ref r8, .ref r9])), (r5, .inl (K 0, 600, .inl (zA ww))), (r6, .inl (K 2, 600, .inl (nA tkn))), (r7, .inl (K 0, 64, .inl (nA ll)))]) hP hD [2, 0, 1, 3] (by decide) rfl
      exact xr_vret hx hb hr hlocks hP hD hS (Nat.le_of_ble_eq_true rfl) (Nat.le_of_ble_eq_true rfl) (⟨_, _, _, rfl, by rw [← hR, rfF_n (bN_0.mp c_68)]⟩) d_Mo_settle_122
    · have h4 := bN_pos.mp c_68
      have h41 := h4.1
      refine lv_aload_n hx hb d_Mo_settle_71 rfl (lv_at hl 0 rfl) ?_
      refine lv_dup hx hb d_Mo_settle_72 rfl ?_
      refine xg hx hb hown htw hK hP 2 10 rfl k_Mo (by decide) fl_Mo_58 rfl d_Mo_settle_73 ?_
      refine lv_iconst (v := nI 4) hx hb d_Mo_settle_76 (by decide) ?_
      refine lv_isub hx hb d_Mo_settle_77 ?_
      refine xi (nI_sub (a := qq) (b := 4) (by omega)) ?_
      refine xpt hx hb hown htw hK hP hD hS 2 10 rfl k_Mo (by decide) fl_Mo_58 rfl rfl rfl (Nat.le_of_ble_eq_true rfl) d_Mo_settle_78 (fun H locs hP hD hS => ?_)
      have hP : va_P D classes [(r5, .inl (K 0, 600, .inl (zA ww))), (r6, .inl (K 2, 600, .inl (nA tkn))), (m0, .inr (8, [.int (nI th), .int (nI T), .int (nI hd), .ref r1, .ref r2, .ref r3, .ref r4, .int (nI cm), .ref r5, .ref r6, .int (nI (qq - 4)), .ref r7, .int (nI sn), .ref r8, .ref r9])), (r7, .inl (K 0, 64, .inl (nA ll)))] H := hP
      have hD : va_D A [(r5, .inl (K 0, 600, .inl (zA ww))), (r6, .inl (K 2, 600, .inl (nA tkn))), (m0, .inr (8, [.int (nI th), .int (nI T), .int (nI hd), .ref r1, .ref r2, .ref r3, .ref r4, .int (nI cm), .ref r5, .ref r6, .int (nI (qq - 4)), .ref r7, .int (nI sn), .ref r8, .ref r9])), (r7, .inl (K 0, 64, .inl (nA ll)))] := hD
      refine lv_aload_n hx hb d_Mo_settle_81 rfl (lv_at hl 0 rfl) ?_
      refine lv_aload_n hx hb d_Mo_settle_82 rfl (lv_at hl 0 rfl) ?_
      refine xg hx hb hown htw hK hP 2 10 rfl k_Mo (by decide) fl_Mo_58 rfl d_Mo_settle_83 ?_
      refine lv_iconst (v := nI 0) hx hb d_Mo_settle_86 (by decide) ?_
      refine xcV_i (As := [.int (nI (qq - 4)), .int (nI 0)]) (rest := []) (wr := [(r7, .inl (K 0, 64, .inl (nA ll)))]) hx hb hml hown htw hK hA hl.1 hP hD hS (c_Mo_gather l D K m0 th T hd r1 r2 r3 r4 cm r5 r6 (qq - 4) r7 sn r8 r9 ww tkn (qq - 4) 0 (by first | assumption | omega) (by exact hbd) (by omega) (by first | assumption | omega) (by first | assumption | omega)) [2, 0, 1] [3] rfl rfl (by decide) (by decide) (by decide) 0 rfl k_Mo ml_Mo_65 w_Mo_gather rfl ⟨by decide, by decide⟩ rfl (Nat.le_of_ble_eq_true rfl) ⟨by decide, by decide⟩ d_Mo_settle_87 (fun r u H locs hpost hP hD hS => ?_)
      obtain ⟨rfl, rfl⟩ := hpost
      have hP : va_P D classes [(r7, .inl (K 0, 64, .inl (nA ll))), (m0, .inr (8, [.int (nI th), .int (nI T), .int (nI hd), .ref r1, .ref r2, .ref r3, .ref r4, .int (nI cm), .ref r5, .ref r6, .int (nI (qq - 4)), .ref r7, .int (nI sn), .ref r8, .ref r9])), (r5, .inl (K 0, 600, .inl (zA (whG ww tkn (qq - 4) 0 cm)))), (r6, .inl (K 2, 600, .inl (nA tkn)))] H := hP
      have hD : va_D A [(r7, .inl (K 0, 64, .inl (nA ll))), (m0, .inr (8, [.int (nI th), .int (nI T), .int (nI hd), .ref r1, .ref r2, .ref r3, .ref r4, .int (nI cm), .ref r5, .ref r6, .int (nI (qq - 4)), .ref r7, .int (nI sn), .ref r8, .ref r9])), (r5, .inl (K 0, 600, .inl (zA (whG ww tkn (qq - 4) 0 cm)))), (r6, .inl (K 2, 600, .inl (nA tkn)))] := hD
      refine xz_ne (tgt := 96) (a := rfn ww tkn (qq - 4) 0 cm) hx hb (by have := cnP_le (fun d => whP ww (qq - 4) 0 d ∧ tkn d = 0) cm; unfold rfn; omega) d_Mo_settle_90 (by decide) (fun c_90 => ?_) (fun c_90 => ?_)
      · refine lv_aload_n hx hb d_Mo_settle_96 rfl (lv_at hl 0 rfl) ?_
        refine xg hx hb hown htw hK hP 1 11 rfl k_Mo (by decide) fl_Mo_29 rfl d_Mo_settle_97 ?_
        refine lv_aload_n hx hb d_Mo_settle_100 rfl (lv_at hl 0 rfl) ?_
        refine xg hx hb hown htw hK hP 1 10 rfl k_Mo (by decide) fl_Mo_58 rfl d_Mo_settle_101 ?_
        refine lv_dup2_11 hx hb d_Mo_settle_104 rfl rfl ?_
        refine xald_i hx hb hK hP 0 rfl (by omega) (by omega) d_Mo_settle_105 ?_
        refine xi (y := nI (ll (qq - 4))) rfl ?_
        refine lv_iconst (v := nI 1) hx hb d_Mo_settle_106 (by decide) ?_
        refine lv_iadd hx hb d_Mo_settle_107 ?_
        refine xi (nI_add (ll (qq - 4)) 1) ?_
        refine xast_i hx hb hK hP hD hS 0 rfl (by omega) (by omega) d_Mo_settle_108 (fun H locs hP hD hS => ?_)
        rw [upd_nA] at hP hD
        have hP : va_P D classes [(r7, .inl (K 0, 64, .inl (nA (va_up ll (qq - 4) ((ll (qq - 4)) + 1))))), (m0, .inr (8, [.int (nI th), .int (nI T), .int (nI hd), .ref r1, .ref r2, .ref r3, .ref r4, .int (nI cm), .ref r5, .ref r6, .int (nI (qq - 4)), .ref r7, .int (nI sn), .ref r8, .ref r9])), (r5, .inl (K 0, 600, .inl (zA (whG ww tkn (qq - 4) 0 cm)))), (r6, .inl (K 2, 600, .inl (nA tkn)))] H := hP
        have hD : va_D A [(r7, .inl (K 0, 64, .inl (nA (va_up ll (qq - 4) ((ll (qq - 4)) + 1))))), (m0, .inr (8, [.int (nI th), .int (nI T), .int (nI hd), .ref r1, .ref r2, .ref r3, .ref r4, .int (nI cm), .ref r5, .ref r6, .int (nI (qq - 4)), .ref r7, .int (nI sn), .ref r8, .ref r9])), (r5, .inl (K 0, 600, .inl (zA (whG ww tkn (qq - 4) 0 cm)))), (r6, .inl (K 2, 600, .inl (nA tkn)))] := hD
        refine lv_aload_n hx hb d_Mo_settle_109 rfl (lv_at hl 0 rfl) ?_
        refine lv_dup hx hb d_Mo_settle_110 rfl ?_
        refine xg hx hb hown htw hK hP 1 10 rfl k_Mo (by decide) fl_Mo_58 rfl d_Mo_settle_111 ?_
        refine lv_iconst (v := nI 1) hx hb d_Mo_settle_114 (by decide) ?_
        refine lv_iadd hx hb d_Mo_settle_115 ?_
        refine xi (nI_add (qq - 4) 1) ?_
        refine xpt hx hb hown htw hK hP hD hS 1 10 rfl k_Mo (by decide) fl_Mo_58 rfl rfl rfl (Nat.le_of_ble_eq_true rfl) d_Mo_settle_116 (fun H locs hP hD hS => ?_)
        have hP : va_P D classes [(r7, .inl (K 0, 64, .inl (nA (va_up ll (qq - 4) ((ll (qq - 4)) + 1))))), (m0, .inr (8, [.int (nI th), .int (nI T), .int (nI hd), .ref r1, .ref r2, .ref r3, .ref r4, .int (nI cm), .ref r5, .ref r6, .int (nI ((qq - 4) + 1)), .ref r7, .int (nI sn), .ref r8, .ref r9])), (r5, .inl (K 0, 600, .inl (zA (whG ww tkn (qq - 4) 0 cm)))), (r6, .inl (K 2, 600, .inl (nA tkn)))] H := hP
        have hD : va_D A [(r7, .inl (K 0, 64, .inl (nA (va_up ll (qq - 4) ((ll (qq - 4)) + 1))))), (m0, .inr (8, [.int (nI th), .int (nI T), .int (nI hd), .ref r1, .ref r2, .ref r3, .ref r4, .int (nI cm), .ref r5, .ref r6, .int (nI ((qq - 4) + 1)), .ref r7, .int (nI sn), .ref r8, .ref r9])), (r5, .inl (K 0, 600, .inl (zA (whG ww tkn (qq - 4) 0 cm)))), (r6, .inl (K 2, 600, .inl (nA tkn)))] := hD
        refine lv_goto (tgt := 64) hx hb d_Mo_settle_119 (by decide) ?_
        obtain ⟨hP9, hD9⟩ := xp (ws' := [(m0, .inr (8, [.int (nI th), .int (nI T), .int (nI hd), .ref r1, .ref r2, .ref r3, .ref r4, .int (nI cm), .ref r5, .ref r6, .int (nI ((qq - 4) + 1)), .ref r7, .int (nI sn), .ref r8, .ref r9])), (r5, .inl (K 0, 600, .inl (zA (whG ww tkn (qq - 4) 0 cm)))), (r6, .inl (K 2, 600, .inl (nA tkn))), (r7, .inl (K 0, 64, .inl (nA (va_up ll (qq - 4) ((ll (qq - 4)) + 1)))))]) hP hD [1, 2, 3, 0] (by decide) rfl
        exact ih (whG ww tkn (qq - 4) 0 cm) (va_up ll (qq - 4) ((ll (qq - 4)) + 1)) ((qq - 4) + 1) (by first | assumption | omega) (by exact whG_bd (by omega) hbd) (by exact up_bd (fun i hi => by have := hll i hi; omega) (by have := hll (qq - 4) (by omega); omega)) (by exact (rfF_next (S := (ww, ll, qq)) h4 (rfM_1 c_90) rfl rfl).trans hR) (by omega) _ _ hP9 hD9 hS _ (lv_sub hl [0] rfl)
      · refine lv_goto (tgt := 64) hx hb d_Mo_settle_93 (by decide) ?_
        obtain ⟨hP9, hD9⟩ := xp (ws' := [(m0, .inr (8, [.int (nI th), .int (nI T), .int (nI hd), .ref r1, .ref r2, .ref r3, .ref r4, .int (nI cm), .ref r5, .ref r6, .int (nI (qq - 4)), .ref r7, .int (nI sn), .ref r8, .ref r9])), (r5, .inl (K 0, 600, .inl (zA (whG ww tkn (qq - 4) 0 cm)))), (r6, .inl (K 2, 600, .inl (nA tkn))), (r7, .inl (K 0, 64, .inl (nA ll)))]) hP hD [1, 2, 3, 0] (by decide) rfl
        exact ih (whG ww tkn (qq - 4) 0 cm) ll (qq - 4) (by first | assumption | omega) (by exact whG_bd (by omega) hbd) (by exact fun i hi => by have := hll i hi; omega) (by exact (rfF_next (S := (ww, ll, qq)) h4 (rfM_0 c_90) rfl rfl).trans hR) (by omega) _ _ hP9 hD9 hS _ (lv_sub hl [0] rfl)
set_option maxHeartbeats 4000000 in
set_option maxRecDepth 100000 in
theorem lp_Mo_settle_10 {p : Program} {l : Launch} {e : Env} {s : State} {m : MethodId} {below : List Frame} {meth : Method} {c : Code} {A : Nat → Prop} {D : va_G} {K : Nat → ClassId} (m0 : Nat) (th : Nat) (T : Nat) (hd : Nat) (r1 : Nat) (r2 : Nat) (r3 : Nat) (r4 : Nat) (cm : Nat) (r5 : Nat) (r6 : Nat) (sg : Nat) (r7 : Nat) (sn : Nat) (r8 : Nat) (r9 : Nat) (wh : Nat → Int) (tkn : Nat → Nat) (lv : Nat → Nat) (hcm : cm ≤ 600) (hw : ∀ d, d < cm → -2 ≤ wh d ∧ wh d ≤ 1000) (htk : ∀ d, d < cm → tkn d ≤ 1) (hsg : sg ≤ 62) (hlv : ∀ i, i < 64 → lv i ≤ 1000) (hF : Fx p s m meth c y_Mo_settle b_Mo_settle 2 none D K) {b0 : Nat} (hA : AS K s A b0) : ∀ fuel : Nat, ∀ d : Nat, (d ≤ cm) → (0 < cnz wh (-1) cm) → cm - d < fuel → ∀ (H : Heap) (locs : List Loc), va_P D classes [(m0, .inr (8, [.int (nI th), .int (nI T), .int (nI hd), .ref r1, .ref r2, .ref r3, .ref r4, .int (nI cm), .ref r5, .ref r6, .int (nI sg), .ref r7, .int (nI sn), .ref r8, .ref r9])), (r5, .inl (K 0, 600, .inl (zA (whB wh sg d)))), (r6, .inl (K 2, 600, .inl (nA tkn))), (r7, .inl (K 0, 64, .inl (nA lv)))] H → va_D A [(m0, .inr (8, [.int (nI th), .int (nI T), .int (nI hd), .ref r1, .ref r2, .ref r3, .ref r4, .int (nI cm), .ref r5, .ref r6, .int (nI sg), .ref r7, .int (nI sn), .ref r8, .ref r9])), (r5, .inl (K 0, 600, .inl (zA (whB wh sg d)))), (r6, .inl (K 2, 600, .inl (nA tkn))), (r7, .inl (K 0, 64, .inl (nA lv)))] → va_S A s.heap H locs → ∀ ls : Array Slot, lv_has ls 2 [(0, .ref m0), (1, .int (nI d))] → W p l e ({ frames := 1, cells := 0, slots := 0, locals := 24 } : Room) s m ([.ref m0] : List Value).toArray below meth c H locs 0 0 (MQ below (va_Qv (q_Mo_settle K m0 th T hd r1 r2 r3 r4 cm r5 r6 sg r7 sn r8 r9 wh tkn lv) (fun u t => va_P D classes u t.heap ∧ va_D A u) A) ([.ref m0] : List Value).toArray s 0 0 A) (F0 m 10 ls []) := by
  have hF2 := hF
  obtain ⟨hx, hb, hr, hml, hown, htw, hK, hlocks, hname⟩ := hF
  intro fuel
  induction fuel with
  | zero => intros; omega
  | succ fuel ih =>
    have jn_38 : ∀ d : Nat, ∀ ww : Nat → Int, (d < cm) → (0 < cnz wh (-1) cm) → (cm - d < fuel + 1) → (ww = whB wh sg (d + 1)) → ∀ (H : Heap) (locs : List Loc), va_P D classes [(m0, .inr (8, [.int (nI th), .int (nI T), .int (nI hd), .ref r1, .ref r2, .ref r3, .ref r4, .int (nI cm), .ref r5, .ref r6, .int (nI sg), .ref r7, .int (nI sn), .ref r8, .ref r9])), (r5, .inl (K 0, 600, .inl (zA ww))), (r6, .inl (K 2, 600, .inl (nA tkn))), (r7, .inl (K 0, 64, .inl (nA lv)))] H → va_D A [(m0, .inr (8, [.int (nI th), .int (nI T), .int (nI hd), .ref r1, .ref r2, .ref r3, .ref r4, .int (nI cm), .ref r5, .ref r6, .int (nI sg), .ref r7, .int (nI sn), .ref r8, .ref r9])), (r5, .inl (K 0, 600, .inl (zA ww))), (r6, .inl (K 2, 600, .inl (nA tkn))), (r7, .inl (K 0, 64, .inl (nA lv)))] → va_S A s.heap H locs → ∀ ls : Array Slot, lv_has ls 2 [(0, .ref m0), (1, .int (nI d))] → W p l e ({ frames := 1, cells := 0, slots := 0, locals := 24 } : Room) s m ([.ref m0] : List Value).toArray below meth c H locs 0 0 (MQ below (va_Qv (q_Mo_settle K m0 th T hd r1 r2 r3 r4 cm r5 r6 sg r7 sn r8 r9 wh tkn lv) (fun u t => va_P D classes u t.heap ∧ va_D A u) A) ([.ref m0] : List Value).toArray s 0 0 A) (F0 m 38 ls []) := by
      intro d ww hd2 hpos hfu hww H locs hP hD hS ls hl
      subst hww
      refine lv_iinc (v := nI (d + 1)) (lv' := [(1, .int (nI (d + 1))), (0, .ref m0)]) hx hb d_Mo_settle_38 hl (k := 1) rfl (inc_nI _ _) (by decide) rfl (fun ls hl => ?_)
      refine lv_goto (tgt := 10) hx hb d_Mo_settle_41 (by decide) ?_
      exact ih (d + 1) (by first | assumption | omega) (by first | assumption | omega) (by omega) _ _ hP hD hS _ (lv_sub hl [1, 0] rfl)
    intro d hd2 hpos hfu H locs hP hD hS ls hl
    refine lv_iload_n hx hb d_Mo_settle_10 rfl (lv_at hl 1 rfl) ?_
    refine lv_aload_n hx hb d_Mo_settle_11 rfl (lv_at hl 0 rfl) ?_
    refine xg hx hb hown htw hK hP 0 7 rfl k_Mo (by decide) fl_Mo_48 rfl d_Mo_settle_12 ?_
    refine xc_ge (tgt := 44) (a := d) (b := cm) hx hb (by omega) (by omega) d_Mo_settle_15 (by decide) (fun c_15 => ?_) (fun c_15 => ?_)
    · have hk2 : cm = d := by omega
      subst hk2
      refine lv_aload_n hx hb d_Mo_settle_44 rfl (lv_at hl 0 rfl) ?_
      refine xg hx hb hown htw hK hP 0 11 rfl k_Mo (by decide) fl_Mo_29 rfl d_Mo_settle_45 ?_
      refine lv_aload_n hx hb d_Mo_settle_48 rfl (lv_at hl 0 rfl) ?_
      refine xg hx hb hown htw hK hP 0 10 rfl k_Mo (by decide) fl_Mo_58 rfl d_Mo_settle_49 ?_
      refine lv_iconst (v := nI 0) hx hb d_Mo_settle_52 (by decide) ?_
      refine xast_i hx hb hK hP hD hS 3 rfl (by omega) (by omega) d_Mo_settle_53 (fun H locs hP hD hS => ?_)
      rw [upd_nA] at hP hD
      have hP : va_P D classes [(m0, .inr (8, [.int (nI th), .int (nI T), .int (nI hd), .ref r1, .ref r2, .ref r3, .ref r4, .int (nI cm), .ref r5, .ref r6, .int (nI sg), .ref r7, .int (nI sn), .ref r8, .ref r9])), (r5, .inl (K 0, 600, .inl (zA (whB wh sg cm)))), (r6, .inl (K 2, 600, .inl (nA tkn))), (r7, .inl (K 0, 64, .inl (nA (va_up lv sg 0))))] H := hP
      have hD : va_D A [(m0, .inr (8, [.int (nI th), .int (nI T), .int (nI hd), .ref r1, .ref r2, .ref r3, .ref r4, .int (nI cm), .ref r5, .ref r6, .int (nI sg), .ref r7, .int (nI sn), .ref r8, .ref r9])), (r5, .inl (K 0, 600, .inl (zA (whB wh sg cm)))), (r6, .inl (K 2, 600, .inl (nA tkn))), (r7, .inl (K 0, 64, .inl (nA (va_up lv sg 0))))] := hD
      refine lv_aload_n hx hb d_Mo_settle_54 rfl (lv_at hl 0 rfl) ?_
      refine lv_dup hx hb d_Mo_settle_55 rfl ?_
      refine xg hx hb hown htw hK hP 0 10 rfl k_Mo (by decide) fl_Mo_58 rfl d_Mo_settle_56 ?_
      refine lv_iconst (v := nI 1) hx hb d_Mo_settle_59 (by decide) ?_
      refine lv_iadd hx hb d_Mo_settle_60 ?_
      refine xi (nI_add sg 1) ?_
      refine xpt hx hb hown htw hK hP hD hS 0 10 rfl k_Mo (by decide) fl_Mo_58 rfl rfl rfl (Nat.le_of_ble_eq_true rfl) d_Mo_settle_61 (fun H locs hP hD hS => ?_)
      have hP : va_P D classes [(m0, .inr (8, [.int (nI th), .int (nI T), .int (nI hd), .ref r1, .ref r2, .ref r3, .ref r4, .int (nI cm), .ref r5, .ref r6, .int (nI (sg + 1)), .ref r7, .int (nI sn), .ref r8, .ref r9])), (r5, .inl (K 0, 600, .inl (zA (whB wh sg cm)))), (r6, .inl (K 2, 600, .inl (nA tkn))), (r7, .inl (K 0, 64, .inl (nA (va_up lv sg 0))))] H := hP
      have hD : va_D A [(m0, .inr (8, [.int (nI th), .int (nI T), .int (nI hd), .ref r1, .ref r2, .ref r3, .ref r4, .int (nI cm), .ref r5, .ref r6, .int (nI (sg + 1)), .ref r7, .int (nI sn), .ref r8, .ref r9])), (r5, .inl (K 0, 600, .inl (zA (whB wh sg cm)))), (r6, .inl (K 2, 600, .inl (nA tkn))), (r7, .inl (K 0, 64, .inl (nA (va_up lv sg 0))))] := hD
      exact lp_Mo_settle_64 (l := l) m0 th T hd r1 r2 r3 r4 cm r5 r6 sg r7 sn r8 r9 wh tkn lv hcm hw htk hsg hlv hF2 hA _ (whB wh sg cm) (va_up lv sg 0) (sg + 1) (by first | assumption | omega) (by exact whB_bd (by omega) hw) (by exact up_bd (fun i hi => by have := hlv i hi; omega) (by omega)) (by rw [rfB_y hpos]; exact rfF_fuel _ 64 _ (Nat.le_refl _) (by show sg + 1 ≤ 64; omega)) (Nat.lt_succ_self _) _ _ hP hD hS _ (lv_sub hl [0] rfl)
    · refine lv_aload_n hx hb d_Mo_settle_18 rfl (lv_at hl 0 rfl) ?_
      refine xg hx hb hown htw hK hP 0 8 rfl k_Mo (by decide) fl_Mo_22 rfl d_Mo_settle_19 ?_
      refine lv_iload_n hx hb d_Mo_settle_22 rfl (lv_at hl 1 rfl) ?_
      refine xald_i hx hb hK hP 1 rfl (by omega) (by omega) d_Mo_settle_23 ?_
      refine xi (y := zI ((whB wh sg d) d)) rfl ?_
      refine xi (y := zI (wh d)) (congrArg zI (show whB wh sg d d = wh d from if_neg (fun w => by omega))) ?_
      have hwd := hw d (by omega)
      refine lv_iconst (v := zI (-1)) hx hb d_Mo_settle_24 (by decide) ?_
      refine xcz_ne (tgt := 38) (a := wh d) (b := (-1)) hx hb (rfl) (rfl) (by omega) (by omega) (by omega) (by omega) d_Mo_settle_25 (by decide) (fun c_25 => ?_) (fun c_25 => ?_)
      · exact jn_38 d (whB wh sg d) (by first | assumption | omega) (by first | assumption | omega) (by first | assumption | omega) (by exact whB_n c_25) _ _ hP hD hS _ (lv_sub hl [0, 1] rfl)
      · refine lv_aload_n hx hb d_Mo_settle_28 rfl (lv_at hl 0 rfl) ?_
        refine xg hx hb hown htw hK hP 0 8 rfl k_Mo (by decide) fl_Mo_22 rfl d_Mo_settle_29 ?_
        refine lv_iload_n hx hb d_Mo_settle_32 rfl (lv_at hl 1 rfl) ?_
        refine lv_aload_n hx hb d_Mo_settle_33 rfl (lv_at hl 0 rfl) ?_
        refine xg hx hb hown htw hK hP 0 10 rfl k_Mo (by decide) fl_Mo_58 rfl d_Mo_settle_34 ?_
        refine xast_i hx hb hK hP hD hS 1 rfl (by omega) (by omega) d_Mo_settle_37 (fun H locs hP hD hS => ?_)
        rw [upd_zAn] at hP hD
        have hP : va_P D classes [(m0, .inr (8, [.int (nI th), .int (nI T), .int (nI hd), .ref r1, .ref r2, .ref r3, .ref r4, .int (nI cm), .ref r5, .ref r6, .int (nI sg), .ref r7, .int (nI sn), .ref r8, .ref r9])), (r5, .inl (K 0, 600, .inl (zA (va_up (whB wh sg d) d ((sg : Nat) : Int))))), (r6, .inl (K 2, 600, .inl (nA tkn))), (r7, .inl (K 0, 64, .inl (nA lv)))] H := hP
        have hD : va_D A [(m0, .inr (8, [.int (nI th), .int (nI T), .int (nI hd), .ref r1, .ref r2, .ref r3, .ref r4, .int (nI cm), .ref r5, .ref r6, .int (nI sg), .ref r7, .int (nI sn), .ref r8, .ref r9])), (r5, .inl (K 0, 600, .inl (zA (va_up (whB wh sg d) d ((sg : Nat) : Int))))), (r6, .inl (K 2, 600, .inl (nA tkn))), (r7, .inl (K 0, 64, .inl (nA lv)))] := hD
        exact jn_38 d (va_up (whB wh sg d) d ((sg : Nat) : Int)) (by first | assumption | omega) (by first | assumption | omega) (by first | assumption | omega) (by exact whB_y c_25) _ _ hP hD hS _ (lv_sub hl [0, 1] rfl)
set_option maxHeartbeats 4000000 in
set_option maxRecDepth 100000 in
theorem c_Mo_settle (l : Launch) (D : va_G) (K : Nat → ClassId) (m0 : Nat) (th : Nat) (T : Nat) (hd : Nat) (r1 : Nat) (r2 : Nat) (r3 : Nat) (r4 : Nat) (cm : Nat) (r5 : Nat) (r6 : Nat) (sg : Nat) (r7 : Nat) (sn : Nat) (r8 : Nat) (r9 : Nat) (wh : Nat → Int) (tkn : Nat → Nat) (lv : Nat → Nat) (hcm : cm ≤ 600) (hw : ∀ d, d < cm → -2 ≤ wh d ∧ wh d ≤ 1000) (htk : ∀ d, d < cm → tkn d ≤ 1) (hsg : sg ≤ 62) (hlv : ∀ i, i < 64 → lv i ≤ 1000) : CV l y_Mo_settle b_Mo_settle 2 ({ frames := 1, cells := 0, slots := 0, locals := 24 } : Room) D K [.ref m0] [(m0, .inr (8, [.int (nI th), .int (nI T), .int (nI hd), .ref r1, .ref r2, .ref r3, .ref r4, .int (nI cm), .ref r5, .ref r6, .int (nI sg), .ref r7, .int (nI sn), .ref r8, .ref r9])), (r5, .inl (K 0, 600, .inl (zA wh))), (r6, .inl (K 2, 600, .inl (nA tkn))), (r7, .inl (K 0, 64, .inl (nA lv)))] (q_Mo_settle K m0 th T hd r1 r2 r3 r4 cm r5 r6 sg r7 sn r8 r9 wh tkn lv) := by
  refine CV_of (by decide) (Nat.le_of_ble_eq_true rfl) ?_
  intro p e s m below meth c A b0 ls hF hA hP hD hl
  have hF2 := hF
  obtain ⟨hx, hb, hr, hml, hown, htw, hK, hlocks, hname⟩ := hF
  have hS : va_S A s.heap s.heap [] := va_S.rf
  have hl : lv_has ls 2 [(0, .ref m0)] := hl
  refine lv_aload_n hx hb d_Mo_settle_0 rfl (lv_at hl 0 rfl) ?_
  refine lv_iconst (v := zI (-1)) hx hb d_Mo_settle_1 (by decide) ?_
  refine xcV_i (As := [.int (zI (-1))]) (rest := []) (wr := [(r6, .inl (K 2, 600, .inl (nA tkn))), (r7, .inl (K 0, 64, .inl (nA lv)))]) hx hb hml hown htw hK hA hl.1 hP hD hS (c_Mo_inside l D K m0 th T hd r1 r2 r3 r4 cm r5 r6 sg r7 sn r8 r9 wh (-1) (by first | assumption | omega) (by first | assumption | omega) (by decide) (by decide)) [0, 1] [2, 3] rfl rfl (by decide) (by decide) (by decide) 0 rfl k_Mo ml_Mo_51 w_Mo_inside rfl ⟨by decide, by decide⟩ rfl (Nat.le_of_ble_eq_true rfl) ⟨by decide, by decide⟩ d_Mo_settle_2 (fun r u H locs hpost hP hD hS => ?_)
  obtain ⟨rfl, rfl⟩ := hpost
  have hP : va_P D classes [(r6, .inl (K 2, 600, .inl (nA tkn))), (r7, .inl (K 0, 64, .inl (nA lv))), (m0, .inr (8, [.int (nI th), .int (nI T), .int (nI hd), .ref r1, .ref r2, .ref r3, .ref r4, .int (nI cm), .ref r5, .ref r6, .int (nI sg), .ref r7, .int (nI sn), .ref r8, .ref r9])), (r5, .inl (K 0, 600, .inl (zA wh)))] H := hP
  have hD : va_D A [(r6, .inl (K 2, 600, .inl (nA tkn))), (r7, .inl (K 0, 64, .inl (nA lv))), (m0, .inr (8, [.int (nI th), .int (nI T), .int (nI hd), .ref r1, .ref r2, .ref r3, .ref r4, .int (nI cm), .ref r5, .ref r6, .int (nI sg), .ref r7, .int (nI sn), .ref r8, .ref r9])), (r5, .inl (K 0, 600, .inl (zA wh)))] := hD
  refine xz_le (tgt := 64) (a := cnz wh (-1) cm) hx hb (by have := cnz_le wh (-1) cm; omega) d_Mo_settle_5 (by decide) (fun c_5 => ?_) (fun c_5 => ?_)
  · obtain ⟨hP9, hD9⟩ := xp (ws' := [(m0, .inr (8, [.int (nI th), .int (nI T), .int (nI hd), .ref r1, .ref r2, .ref r3, .ref r4, .int (nI cm), .ref r5, .ref r6, .int (nI sg), .ref r7, .int (nI sn), .ref r8, .ref r9])), (r5, .inl (K 0, 600, .inl (zA wh))), (r6, .inl (K 2, 600, .inl (nA tkn))), (r7, .inl (K 0, 64, .inl (nA lv)))]) hP hD [2, 3, 0, 1] (by decide) rfl
    exact lp_Mo_settle_64 (l := l) m0 th T hd r1 r2 r3 r4 cm r5 r6 sg r7 sn r8 r9 wh tkn lv hcm hw htk hsg hlv hF2 hA _ wh lv sg (by first | assumption | omega) (by exact hw) (by exact fun i hi => by have := hlv i hi; omega) (by rw [rfB_n c_5]; exact rfF_fuel _ 64 _ (Nat.le_refl _) (by show sg ≤ 64; omega)) (Nat.lt_succ_self _) _ _ hP9 hD9 hS _ (lv_sub hl [0] rfl)
  · have hP : va_P D classes [(r6, .inl (K 2, 600, .inl (nA tkn))), (r7, .inl (K 0, 64, .inl (nA lv))), (m0, .inr (8, [.int (nI th), .int (nI T), .int (nI hd), .ref r1, .ref r2, .ref r3, .ref r4, .int (nI cm), .ref r5, .ref r6, .int (nI sg), .ref r7, .int (nI sn), .ref r8, .ref r9])), (r5, .inl (K 0, 600, .inl (zA (whB wh sg 0))))] H := by rw [whB_0 wh sg]; exact hP
    have hD : va_D A [(r6, .inl (K 2, 600, .inl (nA tkn))), (r7, .inl (K 0, 64, .inl (nA lv))), (m0, .inr (8, [.int (nI th), .int (nI T), .int (nI hd), .ref r1, .ref r2, .ref r3, .ref r4, .int (nI cm), .ref r5, .ref r6, .int (nI sg), .ref r7, .int (nI sn), .ref r8, .ref r9])), (r5, .inl (K 0, 600, .inl (zA (whB wh sg 0))))] := by rw [whB_0 wh sg]; exact hD
    refine lv_iconst (v := nI 0) hx hb d_Mo_settle_8 (by decide) ?_
    refine lv_istore_n (lv' := [(1, .int (nI 0)), (0, .ref m0)]) hx hb d_Mo_settle_9 rfl hl (by decide) rfl (fun ls hl => ?_)
    obtain ⟨hP9, hD9⟩ := xp (ws' := [(m0, .inr (8, [.int (nI th), .int (nI T), .int (nI hd), .ref r1, .ref r2, .ref r3, .ref r4, .int (nI cm), .ref r5, .ref r6, .int (nI sg), .ref r7, .int (nI sn), .ref r8, .ref r9])), (r5, .inl (K 0, 600, .inl (zA (whB wh sg 0)))), (r6, .inl (K 2, 600, .inl (nA tkn))), (r7, .inl (K 0, 64, .inl (nA lv)))]) hP hD [2, 3, 0, 1] (by decide) rfl
    exact lp_Mo_settle_10 (l := l) m0 th T hd r1 r2 r3 r4 cm r5 r6 sg r7 sn r8 r9 wh tkn lv hcm hw htk hsg hlv hF2 hA _ 0 (by first | assumption | omega) (by first | assumption | omega) (Nat.lt_succ_self _) _ _ hP9 hD9 hS _ (lv_sub hl [1, 0] rfl)

abbrev q_Mo_flush (K : Nat → ClassId) (m0 : Nat) (th : Nat) (T : Nat) (hd : Nat) (r1 : Nat) (r2 : Nat) (r3 : Nat) (r4 : Nat) (cm : Nat) (r5 : Nat) (r6 : Nat) (sg : Nat) (r7 : Nat) (sn : Nat) (r8 : Nat) (r9 : Nat) (wh : Nat → Int) (tkn : Nat → Nat) (lv : Nat → Nat) : Int32 → va_W → Prop := fun r u => ∃ wh' : Nat → Int, ∃ lv' : Nat → Nat, ∃ sg' : Nat, u = [(m0, .inr (8, [.int (nI 0), .int (nI T), .int (nI hd), .ref r1, .ref r2, .ref r3, .ref r4, .int (nI cm), .ref r5, .ref r6, .int (nI sg'), .ref r7, .int (nI sn), .ref r8, .ref r9])), (r5, .inl (K 0, 600, .inl (zA wh'))), (r6, .inl (K 2, 600, .inl (nA tkn))), (r7, .inl (K 0, 64, .inl (nA lv')))] ∧ r = nI sg' ∧ ((wh', lv', sg') = rfF tkn cm 64 (rfB wh lv sg cm))
set_option maxHeartbeats 4000000 in
set_option maxRecDepth 100000 in
theorem c_Mo_flush (l : Launch) (D : va_G) (K : Nat → ClassId) (m0 : Nat) (th : Nat) (T : Nat) (hd : Nat) (r1 : Nat) (r2 : Nat) (r3 : Nat) (r4 : Nat) (cm : Nat) (r5 : Nat) (r6 : Nat) (sg : Nat) (r7 : Nat) (sn : Nat) (r8 : Nat) (r9 : Nat) (wh : Nat → Int) (tkn : Nat → Nat) (lv : Nat → Nat) (hcm : cm ≤ 600) (hw : ∀ d, d < cm → -2 ≤ wh d ∧ wh d ≤ 1000) (htk : ∀ d, d < cm → tkn d ≤ 1) (hsg : sg ≤ 62) (hlv : ∀ i, i < 64 → lv i ≤ 1000) : CI l y_Mo_flush b_Mo_flush 1 .int ({ frames := 2, cells := 0, slots := 0, locals := 45 } : Room) D K [.ref m0] [(m0, .inr (8, [.int (nI th), .int (nI T), .int (nI hd), .ref r1, .ref r2, .ref r3, .ref r4, .int (nI cm), .ref r5, .ref r6, .int (nI sg), .ref r7, .int (nI sn), .ref r8, .ref r9])), (r5, .inl (K 0, 600, .inl (zA wh))), (r6, .inl (K 2, 600, .inl (nA tkn))), (r7, .inl (K 0, 64, .inl (nA lv)))] (q_Mo_flush K m0 th T hd r1 r2 r3 r4 cm r5 r6 sg r7 sn r8 r9 wh tkn lv) := by
  refine CI_of (by decide) (Nat.le_of_ble_eq_true rfl) ?_
  intro p e s m below meth c A b0 ls hF hA hP hD hl
  have hF2 := hF
  obtain ⟨hx, hb, hr, hml, hown, htw, hK, hlocks, hname⟩ := hF
  have hS : va_S A s.heap s.heap [] := va_S.rf
  have hl : lv_has ls 1 [(0, .ref m0)] := hl
  refine lv_aload_n hx hb d_Mo_flush_0 rfl (lv_at hl 0 rfl) ?_
  refine lv_iconst (v := nI 0) hx hb d_Mo_flush_1 (by decide) ?_
  refine xpt hx hb hown htw hK hP hD hS 0 0 rfl k_Mo (by decide) fl_Mo_38 rfl rfl rfl (Nat.le_of_ble_eq_true rfl) d_Mo_flush_2 (fun H locs hP hD hS => ?_)
  have hP : va_P D classes [(m0, .inr (8, [.int (nI 0), .int (nI T), .int (nI hd), .ref r1, .ref r2, .ref r3, .ref r4, .int (nI cm), .ref r5, .ref r6, .int (nI sg), .ref r7, .int (nI sn), .ref r8, .ref r9])), (r5, .inl (K 0, 600, .inl (zA wh))), (r6, .inl (K 2, 600, .inl (nA tkn))), (r7, .inl (K 0, 64, .inl (nA lv)))] H := hP
  have hD : va_D A [(m0, .inr (8, [.int (nI 0), .int (nI T), .int (nI hd), .ref r1, .ref r2, .ref r3, .ref r4, .int (nI cm), .ref r5, .ref r6, .int (nI sg), .ref r7, .int (nI sn), .ref r8, .ref r9])), (r5, .inl (K 0, 600, .inl (zA wh))), (r6, .inl (K 2, 600, .inl (nA tkn))), (r7, .inl (K 0, 64, .inl (nA lv)))] := hD
  refine lv_aload_n hx hb d_Mo_flush_5 rfl (lv_at hl 0 rfl) ?_
  refine xcV_v (As := []) (rest := []) (wr := []) hx hb hml hown htw hK hA hl.1 hP hD hS (c_Mo_settle l D K m0 0 T hd r1 r2 r3 r4 cm r5 r6 sg r7 sn r8 r9 wh tkn lv (by first | assumption | omega) (by first | assumption | omega) (by first | assumption | omega) (by first | assumption | omega) (by first | assumption | omega)) [0, 1, 2, 3] [] rfl rfl (by decide) (by decide) (by decide) 0 rfl k_Mo ml_Mo_55 w_Mo_settle rfl ⟨by decide, by decide⟩ rfl (Nat.le_of_ble_eq_true rfl) ⟨by decide, by decide⟩ d_Mo_flush_6 (fun u H locs hpost hP hD hS => ?_)
  obtain ⟨wh'_6, lv'_6, sg'_6, rfl, heq_6⟩ := hpost
  have hP : va_P D classes [(m0, .inr (8, [.int (nI 0), .int (nI T), .int (nI hd), .ref r1, .ref r2, .ref r3, .ref r4, .int (nI cm), .ref r5, .ref r6, .int (nI sg'_6), .ref r7, .int (nI sn), .ref r8, .ref r9])), (r5, .inl (K 0, 600, .inl (zA wh'_6))), (r6, .inl (K 2, 600, .inl (nA tkn))), (r7, .inl (K 0, 64, .inl (nA lv'_6)))] H := hP
  have hD : va_D A [(m0, .inr (8, [.int (nI 0), .int (nI T), .int (nI hd), .ref r1, .ref r2, .ref r3, .ref r4, .int (nI cm), .ref r5, .ref r6, .int (nI sg'_6), .ref r7, .int (nI sn), .ref r8, .ref r9])), (r5, .inl (K 0, 600, .inl (zA wh'_6))), (r6, .inl (K 2, 600, .inl (nA tkn))), (r7, .inl (K 0, 64, .inl (nA lv'_6)))] := hD
  refine lv_aload_n hx hb d_Mo_flush_9 rfl (lv_at hl 0 rfl) ?_
  refine xg hx hb hown htw hK hP 0 10 rfl k_Mo (by decide) fl_Mo_58 rfl d_Mo_flush_10 ?_
  exact xr_iret hx hb hr hlocks hP hD hS (Nat.le_of_ble_eq_true rfl) (Nat.le_of_ble_eq_true rfl) (⟨_, _, _, rfl, rfl, heq_6⟩) d_Mo_flush_13

abbrev q_Mo_add_n (K : Nat → ClassId) (m0 : Nat) (th : Nat) (T : Nat) (hd : Nat) (r1 : Nat) (r2 : Nat) (r3 : Nat) (r4 : Nat) (cm : Nat) (r5 : Nat) (r6 : Nat) (sg : Nat) (r7 : Nat) (sn : Nat) (r8 : Nat) (r9 : Nat) (wh : Nat → Int) : Int32 → va_W → Prop := fun r u => u = [(m0, .inr (8, [.int (nI 0), .int (nI T), .int (nI T), .ref r1, .ref r2, .ref r3, .ref r4, .int (nI (cm + 1)), .ref r5, .ref r6, .int (nI sg), .ref r7, .int (nI sn), .ref r8, .ref r9])), (r5, .inl (K 0, 600, .inl (zA (va_up wh cm (-1)))))] ∧ r = nI ((cm + 1) - 1)
set_option maxHeartbeats 4000000 in
set_option maxRecDepth 100000 in
theorem c_Mo_add_n (l : Launch) (D : va_G) (K : Nat → ClassId) (m0 : Nat) (th : Nat) (T : Nat) (hd : Nat) (r1 : Nat) (r2 : Nat) (r3 : Nat) (r4 : Nat) (cm : Nat) (r5 : Nat) (r6 : Nat) (sg : Nat) (r7 : Nat) (sn : Nat) (r8 : Nat) (r9 : Nat) (wh : Nat → Int) (hcm : cm < 600) (hw : ∀ d, d < cm → -2 ≤ wh d ∧ wh d ≤ 1000) (hc12 : cnz (va_up wh cm (-1)) (-1) (cm + 1) < 12) : CI l y_Mo_add b_Mo_add 1 .int ({ frames := 2, cells := 0, slots := 0, locals := 47 } : Room) D K [.ref m0] [(m0, .inr (8, [.int (nI th), .int (nI T), .int (nI hd), .ref r1, .ref r2, .ref r3, .ref r4, .int (nI cm), .ref r5, .ref r6, .int (nI sg), .ref r7, .int (nI sn), .ref r8, .ref r9])), (r5, .inl (K 0, 600, .inl (zA wh)))] (q_Mo_add_n K m0 th T hd r1 r2 r3 r4 cm r5 r6 sg r7 sn r8 r9 wh) := by
  refine CI_of (by decide) (Nat.le_of_ble_eq_true rfl) ?_
  intro p e s m below meth c A b0 ls hF hA hP hD hl
  have hF2 := hF
  obtain ⟨hx, hb, hr, hml, hown, htw, hK, hlocks, hname⟩ := hF
  have hS : va_S A s.heap s.heap [] := va_S.rf
  have hl : lv_has ls 1 [(0, .ref m0)] := hl
  refine lv_aload_n hx hb d_Mo_add_0 rfl (lv_at hl 0 rfl) ?_
  refine lv_iconst (v := nI 0) hx hb d_Mo_add_1 (by decide) ?_
  refine xpt hx hb hown htw hK hP hD hS 0 0 rfl k_Mo (by decide) fl_Mo_38 rfl rfl rfl (Nat.le_of_ble_eq_true rfl) d_Mo_add_2 (fun H locs hP hD hS => ?_)
  have hP : va_P D classes [(m0, .inr (8, [.int (nI 0), .int (nI T), .int (nI hd), .ref r1, .ref r2, .ref r3, .ref r4, .int (nI cm), .ref r5, .ref r6, .int (nI sg), .ref r7, .int (nI sn), .ref r8, .ref r9])), (r5, .inl (K 0, 600, .inl (zA wh)))] H := hP
  have hD : va_D A [(m0, .inr (8, [.int (nI 0), .int (nI T), .int (nI hd), .ref r1, .ref r2, .ref r3, .ref r4, .int (nI cm), .ref r5, .ref r6, .int (nI sg), .ref r7, .int (nI sn), .ref r8, .ref r9])), (r5, .inl (K 0, 600, .inl (zA wh)))] := hD
  refine lv_aload_n hx hb d_Mo_add_5 rfl (lv_at hl 0 rfl) ?_
  refine xg hx hb hown htw hK hP 0 7 rfl k_Mo (by decide) fl_Mo_48 rfl d_Mo_add_6 ?_
  refine lv_sipush (v := nI 600) hx hb d_Mo_add_9 (by decide) ?_
  refine xc_lt (tgt := 22) (a := cm) (b := 600) hx hb (by omega) (by omega) d_Mo_add_12 (by decide) (fun c_12 => ?_) (fun c_12 => ?_)
  · refine lv_aload_n hx hb d_Mo_add_22 rfl (lv_at hl 0 rfl) ?_
    refine xg hx hb hown htw hK hP 0 8 rfl k_Mo (by decide) fl_Mo_22 rfl d_Mo_add_23 ?_
    refine lv_aload_n hx hb d_Mo_add_26 rfl (lv_at hl 0 rfl) ?_
    refine xg hx hb hown htw hK hP 0 7 rfl k_Mo (by decide) fl_Mo_48 rfl d_Mo_add_27 ?_
    refine lv_iconst (v := zI (-1)) hx hb d_Mo_add_30 (by decide) ?_
    refine xast_i hx hb hK hP hD hS 1 rfl (by omega) (by omega) d_Mo_add_31 (fun H locs hP hD hS => ?_)
    rw [upd_zA] at hP hD
    have hP : va_P D classes [(m0, .inr (8, [.int (nI 0), .int (nI T), .int (nI hd), .ref r1, .ref r2, .ref r3, .ref r4, .int (nI cm), .ref r5, .ref r6, .int (nI sg), .ref r7, .int (nI sn), .ref r8, .ref r9])), (r5, .inl (K 0, 600, .inl (zA (va_up wh cm (-1)))))] H := hP
    have hD : va_D A [(m0, .inr (8, [.int (nI 0), .int (nI T), .int (nI hd), .ref r1, .ref r2, .ref r3, .ref r4, .int (nI cm), .ref r5, .ref r6, .int (nI sg), .ref r7, .int (nI sn), .ref r8, .ref r9])), (r5, .inl (K 0, 600, .inl (zA (va_up wh cm (-1)))))] := hD
    refine lv_aload_n hx hb d_Mo_add_32 rfl (lv_at hl 0 rfl) ?_
    refine lv_dup hx hb d_Mo_add_33 rfl ?_
    refine xg hx hb hown htw hK hP 0 7 rfl k_Mo (by decide) fl_Mo_48 rfl d_Mo_add_34 ?_
    refine lv_iconst (v := nI 1) hx hb d_Mo_add_37 (by decide) ?_
    refine lv_iadd hx hb d_Mo_add_38 ?_
    refine xi (nI_add cm 1) ?_
    refine xpt hx hb hown htw hK hP hD hS 0 7 rfl k_Mo (by decide) fl_Mo_48 rfl rfl rfl (Nat.le_of_ble_eq_true rfl) d_Mo_add_39 (fun H locs hP hD hS => ?_)
    have hP : va_P D classes [(m0, .inr (8, [.int (nI 0), .int (nI T), .int (nI hd), .ref r1, .ref r2, .ref r3, .ref r4, .int (nI (cm + 1)), .ref r5, .ref r6, .int (nI sg), .ref r7, .int (nI sn), .ref r8, .ref r9])), (r5, .inl (K 0, 600, .inl (zA (va_up wh cm (-1)))))] H := hP
    have hD : va_D A [(m0, .inr (8, [.int (nI 0), .int (nI T), .int (nI hd), .ref r1, .ref r2, .ref r3, .ref r4, .int (nI (cm + 1)), .ref r5, .ref r6, .int (nI sg), .ref r7, .int (nI sn), .ref r8, .ref r9])), (r5, .inl (K 0, 600, .inl (zA (va_up wh cm (-1)))))] := hD
    refine lv_aload_n hx hb d_Mo_add_42 rfl (lv_at hl 0 rfl) ?_
    refine lv_aload_n hx hb d_Mo_add_43 rfl (lv_at hl 0 rfl) ?_
    refine xg hx hb hown htw hK hP 0 1 rfl k_Mo (by decide) fl_Mo_45 rfl d_Mo_add_44 ?_
    refine xpt hx hb hown htw hK hP hD hS 0 2 rfl k_Mo (by decide) fl_Mo_42 rfl rfl rfl (Nat.le_of_ble_eq_true rfl) d_Mo_add_47 (fun H locs hP hD hS => ?_)
    have hP : va_P D classes [(m0, .inr (8, [.int (nI 0), .int (nI T), .int (nI T), .ref r1, .ref r2, .ref r3, .ref r4, .int (nI (cm + 1)), .ref r5, .ref r6, .int (nI sg), .ref r7, .int (nI sn), .ref r8, .ref r9])), (r5, .inl (K 0, 600, .inl (zA (va_up wh cm (-1)))))] H := hP
    have hD : va_D A [(m0, .inr (8, [.int (nI 0), .int (nI T), .int (nI T), .ref r1, .ref r2, .ref r3, .ref r4, .int (nI (cm + 1)), .ref r5, .ref r6, .int (nI sg), .ref r7, .int (nI sn), .ref r8, .ref r9])), (r5, .inl (K 0, 600, .inl (zA (va_up wh cm (-1)))))] := hD
    refine lv_aload_n hx hb d_Mo_add_50 rfl (lv_at hl 0 rfl) ?_
    refine lv_iconst (v := zI (-1)) hx hb d_Mo_add_51 (by decide) ?_
    refine xcV_i (As := [.int (zI (-1))]) (rest := []) (wr := []) hx hb hml hown htw hK hA hl.1 hP hD hS (c_Mo_inside l D K m0 0 T T r1 r2 r3 r4 (cm + 1) r5 r6 sg r7 sn r8 r9 (va_up wh cm (-1)) (-1) (by first | assumption | omega) (by exact up_bdz ⟨by decide, by decide⟩ hw) (by decide) (by decide)) [0, 1] [] rfl rfl (by decide) (by decide) (by decide) 0 rfl k_Mo ml_Mo_51 w_Mo_inside rfl ⟨by decide, by decide⟩ rfl (Nat.le_of_ble_eq_true rfl) ⟨by decide, by decide⟩ d_Mo_add_52 (fun r u H locs hpost hP hD hS => ?_)
    obtain ⟨rfl, rfl⟩ := hpost
    have hP : va_P D classes [(m0, .inr (8, [.int (nI 0), .int (nI T), .int (nI T), .ref r1, .ref r2, .ref r3, .ref r4, .int (nI (cm + 1)), .ref r5, .ref r6, .int (nI sg), .ref r7, .int (nI sn), .ref r8, .ref r9])), (r5, .inl (K 0, 600, .inl (zA (va_up wh cm (-1)))))] H := hP
    have hD : va_D A [(m0, .inr (8, [.int (nI 0), .int (nI T), .int (nI T), .ref r1, .ref r2, .ref r3, .ref r4, .int (nI (cm + 1)), .ref r5, .ref r6, .int (nI sg), .ref r7, .int (nI sn), .ref r8, .ref r9])), (r5, .inl (K 0, 600, .inl (zA (va_up wh cm (-1)))))] := hD
    refine lv_bipush (v := nI 12) hx hb d_Mo_add_55 (by decide) ?_
    refine xc_lt (tgt := 64) (a := cnz (va_up wh cm (-1)) (-1) (cm + 1)) (b := 12) hx hb (by omega) (by omega) d_Mo_add_57 (by decide) (fun c_57 => ?_) (fun c_57 => ?_)
    · refine lv_aload_n hx hb d_Mo_add_64 rfl (lv_at hl 0 rfl) ?_
      refine xg hx hb hown htw hK hP 0 7 rfl k_Mo (by decide) fl_Mo_48 rfl d_Mo_add_65 ?_
      refine lv_iconst (v := nI 1) hx hb d_Mo_add_68 (by decide) ?_
      refine lv_isub hx hb d_Mo_add_69 ?_
      refine xi (nI_sub (a := (cm + 1)) (b := 1) (by omega)) ?_
      exact xr_iret hx hb hr hlocks hP hD hS (Nat.le_of_ble_eq_true rfl) (Nat.le_of_ble_eq_true rfl) (⟨rfl, rfl⟩) d_Mo_add_70
    · omega
  · omega

abbrev q_Mo_add_f (K : Nat → ClassId) (m0 : Nat) (th : Nat) (T : Nat) (hd : Nat) (r1 : Nat) (r2 : Nat) (r3 : Nat) (r4 : Nat) (cm : Nat) (r5 : Nat) (r6 : Nat) (sg : Nat) (r7 : Nat) (sn : Nat) (r8 : Nat) (r9 : Nat) (wh : Nat → Int) (tkn : Nat → Nat) (lv : Nat → Nat) : Int32 → va_W → Prop := fun r u => ∃ wh' : Nat → Int, ∃ lv' : Nat → Nat, ∃ sg' : Nat, u = [(m0, .inr (8, [.int (nI 0), .int (nI T), .int (nI T), .ref r1, .ref r2, .ref r3, .ref r4, .int (nI (cm + 1)), .ref r5, .ref r6, .int (nI sg'), .ref r7, .int (nI sn), .ref r8, .ref r9])), (r5, .inl (K 0, 600, .inl (zA wh'))), (r6, .inl (K 2, 600, .inl (nA tkn))), (r7, .inl (K 0, 64, .inl (nA lv')))] ∧ r = nI ((cm + 1) - 1) ∧ ((wh', lv', sg') = rfF tkn (cm + 1) 64 (rfB (va_up wh cm (-1)) lv sg (cm + 1)))
set_option maxHeartbeats 4000000 in
set_option maxRecDepth 100000 in
theorem c_Mo_add_f (l : Launch) (D : va_G) (K : Nat → ClassId) (m0 : Nat) (th : Nat) (T : Nat) (hd : Nat) (r1 : Nat) (r2 : Nat) (r3 : Nat) (r4 : Nat) (cm : Nat) (r5 : Nat) (r6 : Nat) (sg : Nat) (r7 : Nat) (sn : Nat) (r8 : Nat) (r9 : Nat) (wh : Nat → Int) (tkn : Nat → Nat) (lv : Nat → Nat) (hcm : cm < 600) (hw : ∀ d, d < cm → -2 ≤ wh d ∧ wh d ≤ 1000) (htk : ∀ d, d < cm + 1 → tkn d ≤ 1) (hsg : sg ≤ 62) (hlv : ∀ i, i < 64 → lv i ≤ 1000) (hc12 : 12 ≤ cnz (va_up wh cm (-1)) (-1) (cm + 1)) : CI l y_Mo_add b_Mo_add 1 .int ({ frames := 2, cells := 0, slots := 0, locals := 47 } : Room) D K [.ref m0] [(m0, .inr (8, [.int (nI th), .int (nI T), .int (nI hd), .ref r1, .ref r2, .ref r3, .ref r4, .int (nI cm), .ref r5, .ref r6, .int (nI sg), .ref r7, .int (nI sn), .ref r8, .ref r9])), (r5, .inl (K 0, 600, .inl (zA wh))), (r6, .inl (K 2, 600, .inl (nA tkn))), (r7, .inl (K 0, 64, .inl (nA lv)))] (q_Mo_add_f K m0 th T hd r1 r2 r3 r4 cm r5 r6 sg r7 sn r8 r9 wh tkn lv) := by
  refine CI_of (by decide) (Nat.le_of_ble_eq_true rfl) ?_
  intro p e s m below meth c A b0 ls hF hA hP hD hl
  have hF2 := hF
  obtain ⟨hx, hb, hr, hml, hown, htw, hK, hlocks, hname⟩ := hF
  have hS : va_S A s.heap s.heap [] := va_S.rf
  have hl : lv_has ls 1 [(0, .ref m0)] := hl
  refine lv_aload_n hx hb d_Mo_add_0 rfl (lv_at hl 0 rfl) ?_
  refine lv_iconst (v := nI 0) hx hb d_Mo_add_1 (by decide) ?_
  refine xpt hx hb hown htw hK hP hD hS 0 0 rfl k_Mo (by decide) fl_Mo_38 rfl rfl rfl (Nat.le_of_ble_eq_true rfl) d_Mo_add_2 (fun H locs hP hD hS => ?_)
  have hP : va_P D classes [(m0, .inr (8, [.int (nI 0), .int (nI T), .int (nI hd), .ref r1, .ref r2, .ref r3, .ref r4, .int (nI cm), .ref r5, .ref r6, .int (nI sg), .ref r7, .int (nI sn), .ref r8, .ref r9])), (r5, .inl (K 0, 600, .inl (zA wh))), (r6, .inl (K 2, 600, .inl (nA tkn))), (r7, .inl (K 0, 64, .inl (nA lv)))] H := hP
  have hD : va_D A [(m0, .inr (8, [.int (nI 0), .int (nI T), .int (nI hd), .ref r1, .ref r2, .ref r3, .ref r4, .int (nI cm), .ref r5, .ref r6, .int (nI sg), .ref r7, .int (nI sn), .ref r8, .ref r9])), (r5, .inl (K 0, 600, .inl (zA wh))), (r6, .inl (K 2, 600, .inl (nA tkn))), (r7, .inl (K 0, 64, .inl (nA lv)))] := hD
  refine lv_aload_n hx hb d_Mo_add_5 rfl (lv_at hl 0 rfl) ?_
  refine xg hx hb hown htw hK hP 0 7 rfl k_Mo (by decide) fl_Mo_48 rfl d_Mo_add_6 ?_
  refine lv_sipush (v := nI 600) hx hb d_Mo_add_9 (by decide) ?_
  refine xc_lt (tgt := 22) (a := cm) (b := 600) hx hb (by omega) (by omega) d_Mo_add_12 (by decide) (fun c_12 => ?_) (fun c_12 => ?_)
  · refine lv_aload_n hx hb d_Mo_add_22 rfl (lv_at hl 0 rfl) ?_
    refine xg hx hb hown htw hK hP 0 8 rfl k_Mo (by decide) fl_Mo_22 rfl d_Mo_add_23 ?_
    refine lv_aload_n hx hb d_Mo_add_26 rfl (lv_at hl 0 rfl) ?_
    refine xg hx hb hown htw hK hP 0 7 rfl k_Mo (by decide) fl_Mo_48 rfl d_Mo_add_27 ?_
    refine lv_iconst (v := zI (-1)) hx hb d_Mo_add_30 (by decide) ?_
    refine xast_i hx hb hK hP hD hS 1 rfl (by omega) (by omega) d_Mo_add_31 (fun H locs hP hD hS => ?_)
    rw [upd_zA] at hP hD
    have hP : va_P D classes [(m0, .inr (8, [.int (nI 0), .int (nI T), .int (nI hd), .ref r1, .ref r2, .ref r3, .ref r4, .int (nI cm), .ref r5, .ref r6, .int (nI sg), .ref r7, .int (nI sn), .ref r8, .ref r9])), (r5, .inl (K 0, 600, .inl (zA (va_up wh cm (-1))))), (r6, .inl (K 2, 600, .inl (nA tkn))), (r7, .inl (K 0, 64, .inl (nA lv)))] H := hP
    have hD : va_D A [(m0, .inr (8, [.int (nI 0), .int (nI T), .int (nI hd), .ref r1, .ref r2, .ref r3, .ref r4, .int (nI cm), .ref r5, .ref r6, .int (nI sg), .ref r7, .int (nI sn), .ref r8, .ref r9])), (r5, .inl (K 0, 600, .inl (zA (va_up wh cm (-1))))), (r6, .inl (K 2, 600, .inl (nA tkn))), (r7, .inl (K 0, 64, .inl (nA lv)))] := hD
    refine lv_aload_n hx hb d_Mo_add_32 rfl (lv_at hl 0 rfl) ?_
    refine lv_dup hx hb d_Mo_add_33 rfl ?_
    refine xg hx hb hown htw hK hP 0 7 rfl k_Mo (by decide) fl_Mo_48 rfl d_Mo_add_34 ?_
    refine lv_iconst (v := nI 1) hx hb d_Mo_add_37 (by decide) ?_
    refine lv_iadd hx hb d_Mo_add_38 ?_
    refine xi (nI_add cm 1) ?_
    refine xpt hx hb hown htw hK hP hD hS 0 7 rfl k_Mo (by decide) fl_Mo_48 rfl rfl rfl (Nat.le_of_ble_eq_true rfl) d_Mo_add_39 (fun H locs hP hD hS => ?_)
    have hP : va_P D classes [(m0, .inr (8, [.int (nI 0), .int (nI T), .int (nI hd), .ref r1, .ref r2, .ref r3, .ref r4, .int (nI (cm + 1)), .ref r5, .ref r6, .int (nI sg), .ref r7, .int (nI sn), .ref r8, .ref r9])), (r5, .inl (K 0, 600, .inl (zA (va_up wh cm (-1))))), (r6, .inl (K 2, 600, .inl (nA tkn))), (r7, .inl (K 0, 64, .inl (nA lv)))] H := hP
    have hD : va_D A [(m0, .inr (8, [.int (nI 0), .int (nI T), .int (nI hd), .ref r1, .ref r2, .ref r3, .ref r4, .int (nI (cm + 1)), .ref r5, .ref r6, .int (nI sg), .ref r7, .int (nI sn), .ref r8, .ref r9])), (r5, .inl (K 0, 600, .inl (zA (va_up wh cm (-1))))), (r6, .inl (K 2, 600, .inl (nA tkn))), (r7, .inl (K 0, 64, .inl (nA lv)))] := hD
    refine lv_aload_n hx hb d_Mo_add_42 rfl (lv_at hl 0 rfl) ?_
    refine lv_aload_n hx hb d_Mo_add_43 rfl (lv_at hl 0 rfl) ?_
    refine xg hx hb hown htw hK hP 0 1 rfl k_Mo (by decide) fl_Mo_45 rfl d_Mo_add_44 ?_
    refine xpt hx hb hown htw hK hP hD hS 0 2 rfl k_Mo (by decide) fl_Mo_42 rfl rfl rfl (Nat.le_of_ble_eq_true rfl) d_Mo_add_47 (fun H locs hP hD hS => ?_)
    have hP : va_P D classes [(m0, .inr (8, [.int (nI 0), .int (nI T), .int (nI T), .ref r1, .ref r2, .ref r3, .ref r4, .int (nI (cm + 1)), .ref r5, .ref r6, .int (nI sg), .ref r7, .int (nI sn), .ref r8, .ref r9])), (r5, .inl (K 0, 600, .inl (zA (va_up wh cm (-1))))), (r6, .inl (K 2, 600, .inl (nA tkn))), (r7, .inl (K 0, 64, .inl (nA lv)))] H := hP
    have hD : va_D A [(m0, .inr (8, [.int (nI 0), .int (nI T), .int (nI T), .ref r1, .ref r2, .ref r3, .ref r4, .int (nI (cm + 1)), .ref r5, .ref r6, .int (nI sg), .ref r7, .int (nI sn), .ref r8, .ref r9])), (r5, .inl (K 0, 600, .inl (zA (va_up wh cm (-1))))), (r6, .inl (K 2, 600, .inl (nA tkn))), (r7, .inl (K 0, 64, .inl (nA lv)))] := hD
    refine lv_aload_n hx hb d_Mo_add_50 rfl (lv_at hl 0 rfl) ?_
    refine lv_iconst (v := zI (-1)) hx hb d_Mo_add_51 (by decide) ?_
    refine xcV_i (As := [.int (zI (-1))]) (rest := []) (wr := [(r6, .inl (K 2, 600, .inl (nA tkn))), (r7, .inl (K 0, 64, .inl (nA lv)))]) hx hb hml hown htw hK hA hl.1 hP hD hS (c_Mo_inside l D K m0 0 T T r1 r2 r3 r4 (cm + 1) r5 r6 sg r7 sn r8 r9 (va_up wh cm (-1)) (-1) (by first | assumption | omega) (by exact up_bdz ⟨by decide, by decide⟩ hw) (by decide) (by decide)) [0, 1] [2, 3] rfl rfl (by decide) (by decide) (by decide) 0 rfl k_Mo ml_Mo_51 w_Mo_inside rfl ⟨by decide, by decide⟩ rfl (Nat.le_of_ble_eq_true rfl) ⟨by decide, by decide⟩ d_Mo_add_52 (fun r u H locs hpost hP hD hS => ?_)
    obtain ⟨rfl, rfl⟩ := hpost
    have hP : va_P D classes [(r6, .inl (K 2, 600, .inl (nA tkn))), (r7, .inl (K 0, 64, .inl (nA lv))), (m0, .inr (8, [.int (nI 0), .int (nI T), .int (nI T), .ref r1, .ref r2, .ref r3, .ref r4, .int (nI (cm + 1)), .ref r5, .ref r6, .int (nI sg), .ref r7, .int (nI sn), .ref r8, .ref r9])), (r5, .inl (K 0, 600, .inl (zA (va_up wh cm (-1)))))] H := hP
    have hD : va_D A [(r6, .inl (K 2, 600, .inl (nA tkn))), (r7, .inl (K 0, 64, .inl (nA lv))), (m0, .inr (8, [.int (nI 0), .int (nI T), .int (nI T), .ref r1, .ref r2, .ref r3, .ref r4, .int (nI (cm + 1)), .ref r5, .ref r6, .int (nI sg), .ref r7, .int (nI sn), .ref r8, .ref r9])), (r5, .inl (K 0, 600, .inl (zA (va_up wh cm (-1)))))] := hD
    refine lv_bipush (v := nI 12) hx hb d_Mo_add_55 (by decide) ?_
    refine xc_lt (tgt := 64) (a := cnz (va_up wh cm (-1)) (-1) (cm + 1)) (b := 12) hx hb (by have := cnz_le (va_up wh cm (-1)) (-1) (cm + 1); omega) (by omega) d_Mo_add_57 (by decide) (fun c_57 => ?_) (fun c_57 => ?_)
    · omega
    · refine lv_aload_n hx hb d_Mo_add_60 rfl (lv_at hl 0 rfl) ?_
      refine xcV_v (As := []) (rest := []) (wr := []) hx hb hml hown htw hK hA hl.1 hP hD hS (c_Mo_settle l D K m0 0 T T r1 r2 r3 r4 (cm + 1) r5 r6 sg r7 sn r8 r9 (va_up wh cm (-1)) tkn lv (by first | assumption | omega) (by exact up_bdz ⟨by decide, by decide⟩ hw) (by first | assumption | omega) (by first | assumption | omega) (by first | assumption | omega)) [2, 3, 0, 1] [] rfl rfl (by decide) (by decide) (by decide) 0 rfl k_Mo ml_Mo_55 w_Mo_settle rfl ⟨by decide, by decide⟩ rfl (Nat.le_of_ble_eq_true rfl) ⟨by decide, by decide⟩ d_Mo_add_61 (fun u H locs hpost hP hD hS => ?_)
      obtain ⟨wh'_61, lv'_61, sg'_61, rfl, heq_61⟩ := hpost
      have hP : va_P D classes [(m0, .inr (8, [.int (nI 0), .int (nI T), .int (nI T), .ref r1, .ref r2, .ref r3, .ref r4, .int (nI (cm + 1)), .ref r5, .ref r6, .int (nI sg'_61), .ref r7, .int (nI sn), .ref r8, .ref r9])), (r5, .inl (K 0, 600, .inl (zA wh'_61))), (r6, .inl (K 2, 600, .inl (nA tkn))), (r7, .inl (K 0, 64, .inl (nA lv'_61)))] H := hP
      have hD : va_D A [(m0, .inr (8, [.int (nI 0), .int (nI T), .int (nI T), .ref r1, .ref r2, .ref r3, .ref r4, .int (nI (cm + 1)), .ref r5, .ref r6, .int (nI sg'_61), .ref r7, .int (nI sn), .ref r8, .ref r9])), (r5, .inl (K 0, 600, .inl (zA wh'_61))), (r6, .inl (K 2, 600, .inl (nA tkn))), (r7, .inl (K 0, 64, .inl (nA lv'_61)))] := hD
      refine lv_aload_n hx hb d_Mo_add_64 rfl (lv_at hl 0 rfl) ?_
      refine xg hx hb hown htw hK hP 0 7 rfl k_Mo (by decide) fl_Mo_48 rfl d_Mo_add_65 ?_
      refine lv_iconst (v := nI 1) hx hb d_Mo_add_68 (by decide) ?_
      refine lv_isub hx hb d_Mo_add_69 ?_
      refine xi (nI_sub (a := (cm + 1)) (b := 1) (by omega)) ?_
      exact xr_iret hx hb hr hlocks hP hD hS (Nat.le_of_ble_eq_true rfl) (Nat.le_of_ble_eq_true rfl) (⟨_, _, _, rfl, rfl, heq_61⟩) d_Mo_add_70
  · omega

abbrev q_Mo_take_out (K : Nat → ClassId) (m0 : Nat) (th : Nat) (T : Nat) (hd : Nat) (r1 : Nat) (r2 : Nat) (r3 : Nat) (r4 : Nat) (cm : Nat) (r5 : Nat) (r6 : Nat) (sg : Nat) (r7 : Nat) (sn : Nat) (r8 : Nat) (r9 : Nat) (x : Int32) : va_W → Prop := fun u => u = [(m0, .inr (8, [.int (nI 1), .int (nI T), .int (nI hd), .ref r1, .ref r2, .ref r3, .ref r4, .int (nI cm), .ref r5, .ref r6, .int (nI sg), .ref r7, .int (nI sn), .ref r8, .ref r9]))]
set_option maxHeartbeats 4000000 in
set_option maxRecDepth 100000 in
theorem c_Mo_take_out (l : Launch) (D : va_G) (K : Nat → ClassId) (m0 : Nat) (th : Nat) (T : Nat) (hd : Nat) (r1 : Nat) (r2 : Nat) (r3 : Nat) (r4 : Nat) (cm : Nat) (r5 : Nat) (r6 : Nat) (sg : Nat) (r7 : Nat) (sn : Nat) (r8 : Nat) (r9 : Nat) (x : Int32) (hcm : cm ≤ 600) (hdd : x < 0 ∨ nI cm ≤ x) : CV l y_Mo_take b_Mo_take 2 ({ frames := 0, cells := 0, slots := 0, locals := 0 } : Room) D K [.ref m0, .int x] [(m0, .inr (8, [.int (nI th), .int (nI T), .int (nI hd), .ref r1, .ref r2, .ref r3, .ref r4, .int (nI cm), .ref r5, .ref r6, .int (nI sg), .ref r7, .int (nI sn), .ref r8, .ref r9]))] (q_Mo_take_out K m0 th T hd r1 r2 r3 r4 cm r5 r6 sg r7 sn r8 r9 x) := by
  refine CV_of (by decide) (Nat.le_of_ble_eq_true rfl) ?_
  intro p e s m below meth c A b0 ls hF hA hP hD hl
  have hF2 := hF
  obtain ⟨hx, hb, hr, hml, hown, htw, hK, hlocks, hname⟩ := hF
  have hS : va_S A s.heap s.heap [] := va_S.rf
  have hl : lv_has ls 2 [(0, .ref m0), (1, .int x)] := hl
  refine lv_aload_n hx hb d_Mo_take_0 rfl (lv_at hl 0 rfl) ?_
  refine lv_iconst (v := nI 0) hx hb d_Mo_take_1 (by decide) ?_
  refine xpt hx hb hown htw hK hP hD hS 0 0 rfl k_Mo (by decide) fl_Mo_38 rfl rfl rfl (Nat.le_of_ble_eq_true rfl) d_Mo_take_2 (fun H locs hP hD hS => ?_)
  have hP : va_P D classes [(m0, .inr (8, [.int (nI 0), .int (nI T), .int (nI hd), .ref r1, .ref r2, .ref r3, .ref r4, .int (nI cm), .ref r5, .ref r6, .int (nI sg), .ref r7, .int (nI sn), .ref r8, .ref r9]))] H := hP
  have hD : va_D A [(m0, .inr (8, [.int (nI 0), .int (nI T), .int (nI hd), .ref r1, .ref r2, .ref r3, .ref r4, .int (nI cm), .ref r5, .ref r6, .int (nI sg), .ref r7, .int (nI sn), .ref r8, .ref r9]))] := hD
  refine lv_iload_n hx hb d_Mo_take_5 rfl (lv_at hl 1 rfl) ?_
  refine lv_if_lt (tgt := 26) hx hb d_Mo_take_6 (by decide) (fun c_6 => ?_) (fun c_6 => ?_)
  · refine lv_aload_n hx hb d_Mo_take_26 rfl (lv_at hl 0 rfl) ?_
    refine lv_iconst (v := nI 1) hx hb d_Mo_take_27 (by decide) ?_
    refine xpt hx hb hown htw hK hP hD hS 0 0 rfl k_Mo (by decide) fl_Mo_38 rfl rfl rfl (Nat.le_of_ble_eq_true rfl) d_Mo_take_28 (fun H locs hP hD hS => ?_)
    have hP : va_P D classes [(m0, .inr (8, [.int (nI 1), .int (nI T), .int (nI hd), .ref r1, .ref r2, .ref r3, .ref r4, .int (nI cm), .ref r5, .ref r6, .int (nI sg), .ref r7, .int (nI sn), .ref r8, .ref r9]))] H := hP
    have hD : va_D A [(m0, .inr (8, [.int (nI 1), .int (nI T), .int (nI hd), .ref r1, .ref r2, .ref r3, .ref r4, .int (nI cm), .ref r5, .ref r6, .int (nI sg), .ref r7, .int (nI sn), .ref r8, .ref r9]))] := hD
    exact xr_vret hx hb hr hlocks hP hD hS (Nat.le_of_ble_eq_true rfl) (Nat.le_of_ble_eq_true rfl) (rfl) d_Mo_take_31
  · refine lv_iload_n hx hb d_Mo_take_9 rfl (lv_at hl 1 rfl) ?_
    refine lv_aload_n hx hb d_Mo_take_10 rfl (lv_at hl 0 rfl) ?_
    refine xg hx hb hown htw hK hP 0 7 rfl k_Mo (by decide) fl_Mo_48 rfl d_Mo_take_11 ?_
    refine lv_icmp_ge (tgt := 26) hx hb d_Mo_take_14 (by decide) (fun c_14 => ?_) (fun c_14 => ?_)
    · refine lv_aload_n hx hb d_Mo_take_26 rfl (lv_at hl 0 rfl) ?_
      refine lv_iconst (v := nI 1) hx hb d_Mo_take_27 (by decide) ?_
      refine xpt hx hb hown htw hK hP hD hS 0 0 rfl k_Mo (by decide) fl_Mo_38 rfl rfl rfl (Nat.le_of_ble_eq_true rfl) d_Mo_take_28 (fun H locs hP hD hS => ?_)
      have hP : va_P D classes [(m0, .inr (8, [.int (nI 1), .int (nI T), .int (nI hd), .ref r1, .ref r2, .ref r3, .ref r4, .int (nI cm), .ref r5, .ref r6, .int (nI sg), .ref r7, .int (nI sn), .ref r8, .ref r9]))] H := hP
      have hD : va_D A [(m0, .inr (8, [.int (nI 1), .int (nI T), .int (nI hd), .ref r1, .ref r2, .ref r3, .ref r4, .int (nI cm), .ref r5, .ref r6, .int (nI sg), .ref r7, .int (nI sn), .ref r8, .ref r9]))] := hD
      exact xr_vret hx hb hr hlocks hP hD hS (Nat.le_of_ble_eq_true rfl) (Nat.le_of_ble_eq_true rfl) (rfl) d_Mo_take_31
    · exact absurd hdd (fun q => q.elim c_6 c_14)

abbrev q_Mo_take_tk (K : Nat → ClassId) (m0 : Nat) (th : Nat) (T : Nat) (hd : Nat) (r1 : Nat) (r2 : Nat) (r3 : Nat) (r4 : Nat) (cm : Nat) (r5 : Nat) (r6 : Nat) (sg : Nat) (r7 : Nat) (sn : Nat) (r8 : Nat) (r9 : Nat) (tkn : Nat → Nat) (d : Nat) : va_W → Prop := fun u => u = [(m0, .inr (8, [.int (nI 1), .int (nI T), .int (nI hd), .ref r1, .ref r2, .ref r3, .ref r4, .int (nI cm), .ref r5, .ref r6, .int (nI sg), .ref r7, .int (nI sn), .ref r8, .ref r9])), (r6, .inl (K 2, 600, .inl (nA tkn)))]
set_option maxHeartbeats 4000000 in
set_option maxRecDepth 100000 in
theorem c_Mo_take_tk (l : Launch) (D : va_G) (K : Nat → ClassId) (m0 : Nat) (th : Nat) (T : Nat) (hd : Nat) (r1 : Nat) (r2 : Nat) (r3 : Nat) (r4 : Nat) (cm : Nat) (r5 : Nat) (r6 : Nat) (sg : Nat) (r7 : Nat) (sn : Nat) (r8 : Nat) (r9 : Nat) (tkn : Nat → Nat) (d : Nat) (hcm : cm ≤ 600) (hdd : d < cm) (ht1 : 0 < tkn d) (ht2 : tkn d ≤ 1) : CV l y_Mo_take b_Mo_take 2 ({ frames := 0, cells := 0, slots := 0, locals := 0 } : Room) D K [.ref m0, .int (nI d)] [(m0, .inr (8, [.int (nI th), .int (nI T), .int (nI hd), .ref r1, .ref r2, .ref r3, .ref r4, .int (nI cm), .ref r5, .ref r6, .int (nI sg), .ref r7, .int (nI sn), .ref r8, .ref r9])), (r6, .inl (K 2, 600, .inl (nA tkn)))] (q_Mo_take_tk K m0 th T hd r1 r2 r3 r4 cm r5 r6 sg r7 sn r8 r9 tkn d) := by
  refine CV_of (by decide) (Nat.le_of_ble_eq_true rfl) ?_
  intro p e s m below meth c A b0 ls hF hA hP hD hl
  have hF2 := hF
  obtain ⟨hx, hb, hr, hml, hown, htw, hK, hlocks, hname⟩ := hF
  have hS : va_S A s.heap s.heap [] := va_S.rf
  have hl : lv_has ls 2 [(0, .ref m0), (1, .int (nI d))] := hl
  refine lv_aload_n hx hb d_Mo_take_0 rfl (lv_at hl 0 rfl) ?_
  refine lv_iconst (v := nI 0) hx hb d_Mo_take_1 (by decide) ?_
  refine xpt hx hb hown htw hK hP hD hS 0 0 rfl k_Mo (by decide) fl_Mo_38 rfl rfl rfl (Nat.le_of_ble_eq_true rfl) d_Mo_take_2 (fun H locs hP hD hS => ?_)
  have hP : va_P D classes [(m0, .inr (8, [.int (nI 0), .int (nI T), .int (nI hd), .ref r1, .ref r2, .ref r3, .ref r4, .int (nI cm), .ref r5, .ref r6, .int (nI sg), .ref r7, .int (nI sn), .ref r8, .ref r9])), (r6, .inl (K 2, 600, .inl (nA tkn)))] H := hP
  have hD : va_D A [(m0, .inr (8, [.int (nI 0), .int (nI T), .int (nI hd), .ref r1, .ref r2, .ref r3, .ref r4, .int (nI cm), .ref r5, .ref r6, .int (nI sg), .ref r7, .int (nI sn), .ref r8, .ref r9])), (r6, .inl (K 2, 600, .inl (nA tkn)))] := hD
  refine lv_iload_n hx hb d_Mo_take_5 rfl (lv_at hl 1 rfl) ?_
  refine xz_lt (a := d) hx hb (by omega) d_Mo_take_6 26 (by decide) ?_
  refine lv_iload_n hx hb d_Mo_take_9 rfl (lv_at hl 1 rfl) ?_
  refine lv_aload_n hx hb d_Mo_take_10 rfl (lv_at hl 0 rfl) ?_
  refine xg hx hb hown htw hK hP 0 7 rfl k_Mo (by decide) fl_Mo_48 rfl d_Mo_take_11 ?_
  refine xc_ge (tgt := 26) (a := d) (b := cm) hx hb (by omega) (by omega) d_Mo_take_14 (by decide) (fun c_14 => ?_) (fun c_14 => ?_)
  · omega
  · refine lv_aload_n hx hb d_Mo_take_17 rfl (lv_at hl 0 rfl) ?_
    refine xg hx hb hown htw hK hP 0 9 rfl k_Mo (by decide) fl_Mo_25 rfl d_Mo_take_18 ?_
    refine lv_iload_n hx hb d_Mo_take_21 rfl (lv_at hl 1 rfl) ?_
    refine xald_z hx hb hK hP 1 rfl (by omega) (by omega) d_Mo_take_22 ?_
    refine xi (y := nI (tkn d)) rfl ?_
    refine xz_eq (tgt := 32) (a := tkn d) hx hb (by omega) d_Mo_take_23 (by decide) (fun c_23 => ?_) (fun c_23 => ?_)
    · omega
    · refine lv_aload_n hx hb d_Mo_take_26 rfl (lv_at hl 0 rfl) ?_
      refine lv_iconst (v := nI 1) hx hb d_Mo_take_27 (by decide) ?_
      refine xpt hx hb hown htw hK hP hD hS 0 0 rfl k_Mo (by decide) fl_Mo_38 rfl rfl rfl (Nat.le_of_ble_eq_true rfl) d_Mo_take_28 (fun H locs hP hD hS => ?_)
      have hP : va_P D classes [(m0, .inr (8, [.int (nI 1), .int (nI T), .int (nI hd), .ref r1, .ref r2, .ref r3, .ref r4, .int (nI cm), .ref r5, .ref r6, .int (nI sg), .ref r7, .int (nI sn), .ref r8, .ref r9])), (r6, .inl (K 2, 600, .inl (nA tkn)))] H := hP
      have hD : va_D A [(m0, .inr (8, [.int (nI 1), .int (nI T), .int (nI hd), .ref r1, .ref r2, .ref r3, .ref r4, .int (nI cm), .ref r5, .ref r6, .int (nI sg), .ref r7, .int (nI sn), .ref r8, .ref r9])), (r6, .inl (K 2, 600, .inl (nA tkn)))] := hD
      exact xr_vret hx hb hr hlocks hP hD hS (Nat.le_of_ble_eq_true rfl) (Nat.le_of_ble_eq_true rfl) (rfl) d_Mo_take_31

abbrev q_Mo_take_ok (K : Nat → ClassId) (m0 : Nat) (th : Nat) (T : Nat) (hd : Nat) (r1 : Nat) (r2 : Nat) (r3 : Nat) (r4 : Nat) (cm : Nat) (r5 : Nat) (r6 : Nat) (sg : Nat) (r7 : Nat) (sn : Nat) (r8 : Nat) (r9 : Nat) (wh : Nat → Int) (tkn : Nat → Nat) (d : Nat) : va_W → Prop := fun u => u = [(m0, .inr (8, [.int (nI 0), .int (nI T), .int (nI hd), .ref r1, .ref r2, .ref r3, .ref r4, .int (nI cm), .ref r5, .ref r6, .int (nI sg), .ref r7, .int (nI sn), .ref r8, .ref r9])), (r5, .inl (K 0, 600, .inl (zA (whT wh d)))), (r6, .inl (K 2, 600, .inl (nA (va_up tkn d 1))))]
set_option maxHeartbeats 4000000 in
set_option maxRecDepth 100000 in
theorem c_Mo_take_ok (l : Launch) (D : va_G) (K : Nat → ClassId) (m0 : Nat) (th : Nat) (T : Nat) (hd : Nat) (r1 : Nat) (r2 : Nat) (r3 : Nat) (r4 : Nat) (cm : Nat) (r5 : Nat) (r6 : Nat) (sg : Nat) (r7 : Nat) (sn : Nat) (r8 : Nat) (r9 : Nat) (wh : Nat → Int) (tkn : Nat → Nat) (d : Nat) (hcm : cm ≤ 600) (hw : ∀ d, d < cm → -2 ≤ wh d ∧ wh d ≤ 1000) (hdd : d < cm) (ht1 : tkn d = 0) : CV l y_Mo_take b_Mo_take 2 ({ frames := 0, cells := 0, slots := 0, locals := 0 } : Room) D K [.ref m0, .int (nI d)] [(m0, .inr (8, [.int (nI th), .int (nI T), .int (nI hd), .ref r1, .ref r2, .ref r3, .ref r4, .int (nI cm), .ref r5, .ref r6, .int (nI sg), .ref r7, .int (nI sn), .ref r8, .ref r9])), (r5, .inl (K 0, 600, .inl (zA wh))), (r6, .inl (K 2, 600, .inl (nA tkn)))] (q_Mo_take_ok K m0 th T hd r1 r2 r3 r4 cm r5 r6 sg r7 sn r8 r9 wh tkn d) := by
  refine CV_of (by decide) (Nat.le_of_ble_eq_true rfl) ?_
  intro p e s m below meth c A b0 ls hF hA hP hD hl
  have hF2 := hF
  obtain ⟨hx, hb, hr, hml, hown, htw, hK, hlocks, hname⟩ := hF
  have hS : va_S A s.heap s.heap [] := va_S.rf
  have hl : lv_has ls 2 [(0, .ref m0), (1, .int (nI d))] := hl
  refine lv_aload_n hx hb d_Mo_take_0 rfl (lv_at hl 0 rfl) ?_
  refine lv_iconst (v := nI 0) hx hb d_Mo_take_1 (by decide) ?_
  refine xpt hx hb hown htw hK hP hD hS 0 0 rfl k_Mo (by decide) fl_Mo_38 rfl rfl rfl (Nat.le_of_ble_eq_true rfl) d_Mo_take_2 (fun H locs hP hD hS => ?_)
  have hP : va_P D classes [(m0, .inr (8, [.int (nI 0), .int (nI T), .int (nI hd), .ref r1, .ref r2, .ref r3, .ref r4, .int (nI cm), .ref r5, .ref r6, .int (nI sg), .ref r7, .int (nI sn), .ref r8, .ref r9])), (r5, .inl (K 0, 600, .inl (zA wh))), (r6, .inl (K 2, 600, .inl (nA tkn)))] H := hP
  have hD : va_D A [(m0, .inr (8, [.int (nI 0), .int (nI T), .int (nI hd), .ref r1, .ref r2, .ref r3, .ref r4, .int (nI cm), .ref r5, .ref r6, .int (nI sg), .ref r7, .int (nI sn), .ref r8, .ref r9])), (r5, .inl (K 0, 600, .inl (zA wh))), (r6, .inl (K 2, 600, .inl (nA tkn)))] := hD
  refine lv_iload_n hx hb d_Mo_take_5 rfl (lv_at hl 1 rfl) ?_
  refine xz_lt (a := d) hx hb (by omega) d_Mo_take_6 26 (by decide) ?_
  refine lv_iload_n hx hb d_Mo_take_9 rfl (lv_at hl 1 rfl) ?_
  refine lv_aload_n hx hb d_Mo_take_10 rfl (lv_at hl 0 rfl) ?_
  refine xg hx hb hown htw hK hP 0 7 rfl k_Mo (by decide) fl_Mo_48 rfl d_Mo_take_11 ?_
  refine xc_ge (tgt := 26) (a := d) (b := cm) hx hb (by omega) (by omega) d_Mo_take_14 (by decide) (fun c_14 => ?_) (fun c_14 => ?_)
  · omega
  · refine lv_aload_n hx hb d_Mo_take_17 rfl (lv_at hl 0 rfl) ?_
    refine xg hx hb hown htw hK hP 0 9 rfl k_Mo (by decide) fl_Mo_25 rfl d_Mo_take_18 ?_
    refine lv_iload_n hx hb d_Mo_take_21 rfl (lv_at hl 1 rfl) ?_
    refine xald_z hx hb hK hP 2 rfl (by omega) (by omega) d_Mo_take_22 ?_
    refine xi (y := nI (tkn d)) rfl ?_
    refine xz_eq (tgt := 32) (a := tkn d) hx hb (by omega) d_Mo_take_23 (by decide) (fun c_23 => ?_) (fun c_23 => ?_)
    · refine lv_aload_n hx hb d_Mo_take_32 rfl (lv_at hl 0 rfl) ?_
      refine xg hx hb hown htw hK hP 0 9 rfl k_Mo (by decide) fl_Mo_25 rfl d_Mo_take_33 ?_
      refine lv_iload_n hx hb d_Mo_take_36 rfl (lv_at hl 1 rfl) ?_
      refine lv_iconst (v := nI 1) hx hb d_Mo_take_37 (by decide) ?_
      refine xast_z hx hb hK hP hD hS 2 rfl (by omega) (by omega) d_Mo_take_38 (fun H locs hP hD hS => ?_)
      rw [show vp_nar .boolean (nI 1) = nI 1 from rfl, upd_nA] at hP hD
      have hP : va_P D classes [(m0, .inr (8, [.int (nI 0), .int (nI T), .int (nI hd), .ref r1, .ref r2, .ref r3, .ref r4, .int (nI cm), .ref r5, .ref r6, .int (nI sg), .ref r7, .int (nI sn), .ref r8, .ref r9])), (r5, .inl (K 0, 600, .inl (zA wh))), (r6, .inl (K 2, 600, .inl (nA (va_up tkn d 1))))] H := hP
      have hD : va_D A [(m0, .inr (8, [.int (nI 0), .int (nI T), .int (nI hd), .ref r1, .ref r2, .ref r3, .ref r4, .int (nI cm), .ref r5, .ref r6, .int (nI sg), .ref r7, .int (nI sn), .ref r8, .ref r9])), (r5, .inl (K 0, 600, .inl (zA wh))), (r6, .inl (K 2, 600, .inl (nA (va_up tkn d 1))))] := hD
      refine lv_aload_n hx hb d_Mo_take_39 rfl (lv_at hl 0 rfl) ?_
      refine xg hx hb hown htw hK hP 0 8 rfl k_Mo (by decide) fl_Mo_22 rfl d_Mo_take_40 ?_
      refine lv_iload_n hx hb d_Mo_take_43 rfl (lv_at hl 1 rfl) ?_
      refine xald_i hx hb hK hP 1 rfl (by omega) (by omega) d_Mo_take_44 ?_
      refine xi (y := zI (wh d)) rfl ?_
      have hwd := hw d (by omega)
      refine lv_iconst (v := zI (-1)) hx hb d_Mo_take_45 (by decide) ?_
      refine xcz_ne (tgt := 57) (a := wh d) (b := (-1)) hx hb (rfl) (rfl) (by omega) (by omega) (by omega) (by omega) d_Mo_take_46 (by decide) (fun c_46 => ?_) (fun c_46 => ?_)
      · exact xr_vret hx hb hr hlocks hP hD hS (Nat.le_of_ble_eq_true rfl) (Nat.le_of_ble_eq_true rfl) (by dsimp only [q_Mo_take_ok]; unfold whT; first | rw [if_pos c_46] | rw [if_neg c_46]) d_Mo_take_57
      · refine lv_aload_n hx hb d_Mo_take_49 rfl (lv_at hl 0 rfl) ?_
        refine xg hx hb hown htw hK hP 0 8 rfl k_Mo (by decide) fl_Mo_22 rfl d_Mo_take_50 ?_
        refine lv_iload_n hx hb d_Mo_take_53 rfl (lv_at hl 1 rfl) ?_
        refine lv_bipush (v := zI (-2)) hx hb d_Mo_take_54 (by decide) ?_
        refine xast_i hx hb hK hP hD hS 1 rfl (by omega) (by omega) d_Mo_take_56 (fun H locs hP hD hS => ?_)
        rw [upd_zA] at hP hD
        have hP : va_P D classes [(m0, .inr (8, [.int (nI 0), .int (nI T), .int (nI hd), .ref r1, .ref r2, .ref r3, .ref r4, .int (nI cm), .ref r5, .ref r6, .int (nI sg), .ref r7, .int (nI sn), .ref r8, .ref r9])), (r5, .inl (K 0, 600, .inl (zA (va_up wh d (-2))))), (r6, .inl (K 2, 600, .inl (nA (va_up tkn d 1))))] H := hP
        have hD : va_D A [(m0, .inr (8, [.int (nI 0), .int (nI T), .int (nI hd), .ref r1, .ref r2, .ref r3, .ref r4, .int (nI cm), .ref r5, .ref r6, .int (nI sg), .ref r7, .int (nI sn), .ref r8, .ref r9])), (r5, .inl (K 0, 600, .inl (zA (va_up wh d (-2))))), (r6, .inl (K 2, 600, .inl (nA (va_up tkn d 1))))] := hD
        exact xr_vret hx hb hr hlocks hP hD hS (Nat.le_of_ble_eq_true rfl) (Nat.le_of_ble_eq_true rfl) (by dsimp only [q_Mo_take_ok]; unfold whT; first | rw [if_pos c_46] | rw [if_neg c_46]) d_Mo_take_57
    · omega

abbrev q_Mo_pack (K : Nat → ClassId) (m0 : Nat) (th : Nat) (T : Nat) (hd : Nat) (r1 : Nat) (r2 : Nat) (r3 : Nat) (r4 : Nat) (cm : Nat) (r5 : Nat) (r6 : Nat) (sg : Nat) (r7 : Nat) (sn : Nat) (r8 : Nat) (r9 : Nat) (wh : Nat → Int) (tkn : Nat → Nat) (lv : Nat → Nat) : Int32 → va_W → Prop := fun r u => u = [(m0, .inr (8, [.int (nI 0), .int (nI T), .int (nI hd), .ref r1, .ref r2, .ref r3, .ref r4, .int (nI cm), .ref r5, .ref r6, .int (nI (bN (0 < rfn wh tkn 0 1 cm))), .ref r7, .int (nI sn), .ref r8, .ref r9])), (r5, .inl (K 0, 600, .inl (zA (whG wh tkn 0 1 cm)))), (r6, .inl (K 2, 600, .inl (nA tkn))), (r7, .inl (K 0, 64, .inl (nA (va_up lv 0 (lmax lv sg)))))] ∧ r = nI (rfn wh tkn 0 1 cm)
set_option maxHeartbeats 4000000 in
set_option maxRecDepth 100000 in
theorem lp_Mo_pack_9 {p : Program} {l : Launch} {e : Env} {s : State} {m : MethodId} {below : List Frame} {meth : Method} {c : Code} {A : Nat → Prop} {D : va_G} {K : Nat → ClassId} (m0 : Nat) (th : Nat) (T : Nat) (hd : Nat) (r1 : Nat) (r2 : Nat) (r3 : Nat) (r4 : Nat) (cm : Nat) (r5 : Nat) (r6 : Nat) (sg : Nat) (r7 : Nat) (sn : Nat) (r8 : Nat) (r9 : Nat) (wh : Nat → Int) (tkn : Nat → Nat) (lv : Nat → Nat) (hcm : cm ≤ 600) (hw : ∀ d, d < cm → -2 ≤ wh d ∧ wh d ≤ 1000) (htk : ∀ d, d < cm → tkn d ≤ 1) (hsg : sg ≤ 62) (hlv : ∀ i, i < 64 → lv i ≤ 1000) (hF : Fx p s m meth c y_Mo_pack b_Mo_pack 3 (some .int) D K) {b0 : Nat} (hA : AS K s A b0) : ∀ fuel : Nat, ∀ i : Nat, (i ≤ sg) → sg - i < fuel → ∀ (H : Heap) (locs : List Loc), va_P D classes [(m0, .inr (8, [.int (nI 0), .int (nI T), .int (nI hd), .ref r1, .ref r2, .ref r3, .ref r4, .int (nI cm), .ref r5, .ref r6, .int (nI sg), .ref r7, .int (nI sn), .ref r8, .ref r9])), (r5, .inl (K 0, 600, .inl (zA wh))), (r6, .inl (K 2, 600, .inl (nA tkn))), (r7, .inl (K 0, 64, .inl (nA lv)))] H → va_D A [(m0, .inr (8, [.int (nI 0), .int (nI T), .int (nI hd), .ref r1, .ref r2, .ref r3, .ref r4, .int (nI cm), .ref r5, .ref r6, .int (nI sg), .ref r7, .int (nI sn), .ref r8, .ref r9])), (r5, .inl (K 0, 600, .inl (zA wh))), (r6, .inl (K 2, 600, .inl (nA tkn))), (r7, .inl (K 0, 64, .inl (nA lv)))] → va_S A s.heap H locs → ∀ ls : Array Slot, lv_has ls 3 [(0, .ref m0), (1, .int (nI (lmax lv i))), (2, .int (nI i))] → W p l e ({ frames := 1, cells := 0, slots := 0, locals := 24 } : Room) s m ([.ref m0] : List Value).toArray below meth c H locs 0 0 (MQ below (va_Qi (q_Mo_pack K m0 th T hd r1 r2 r3 r4 cm r5 r6 sg r7 sn r8 r9 wh tkn lv) (fun u t => va_P D classes u t.heap ∧ va_D A u) A) ([.ref m0] : List Value).toArray s 0 0 A) (F0 m 9 ls []) := by
  have hF2 := hF
  obtain ⟨hx, hb, hr, hml, hown, htw, hK, hlocks, hname⟩ := hF
  intro fuel
  induction fuel with
  | zero => intros; omega
  | succ fuel ih =>
    have jn_34 : ∀ i : Nat, ∀ mm : Nat, (i < sg) → (sg - i < fuel + 1) → (mm = lmax lv (i + 1)) → ∀ (H : Heap) (locs : List Loc), va_P D classes [(m0, .inr (8, [.int (nI 0), .int (nI T), .int (nI hd), .ref r1, .ref r2, .ref r3, .ref r4, .int (nI cm), .ref r5, .ref r6, .int (nI sg), .ref r7, .int (nI sn), .ref r8, .ref r9])), (r5, .inl (K 0, 600, .inl (zA wh))), (r6, .inl (K 2, 600, .inl (nA tkn))), (r7, .inl (K 0, 64, .inl (nA lv)))] H → va_D A [(m0, .inr (8, [.int (nI 0), .int (nI T), .int (nI hd), .ref r1, .ref r2, .ref r3, .ref r4, .int (nI cm), .ref r5, .ref r6, .int (nI sg), .ref r7, .int (nI sn), .ref r8, .ref r9])), (r5, .inl (K 0, 600, .inl (zA wh))), (r6, .inl (K 2, 600, .inl (nA tkn))), (r7, .inl (K 0, 64, .inl (nA lv)))] → va_S A s.heap H locs → ∀ ls : Array Slot, lv_has ls 3 [(0, .ref m0), (1, .int (nI mm)), (2, .int (nI i))] → W p l e ({ frames := 1, cells := 0, slots := 0, locals := 24 } : Room) s m ([.ref m0] : List Value).toArray below meth c H locs 0 0 (MQ below (va_Qi (q_Mo_pack K m0 th T hd r1 r2 r3 r4 cm r5 r6 sg r7 sn r8 r9 wh tkn lv) (fun u t => va_P D classes u t.heap ∧ va_D A u) A) ([.ref m0] : List Value).toArray s 0 0 A) (F0 m 34 ls []) := by
      intro i mm hi2 hfu hmm H locs hP hD hS ls hl
      subst hmm
      refine lv_iinc (v := nI (i + 1)) (lv' := [(2, .int (nI (i + 1))), (0, .ref m0), (1, .int (nI (lmax lv (i + 1))))]) hx hb d_Mo_pack_34 hl (k := 2) rfl (inc_nI _ _) (by decide) rfl (fun ls hl => ?_)
      refine lv_goto (tgt := 9) hx hb d_Mo_pack_37 (by decide) ?_
      exact ih (i + 1) (by first | assumption | omega) (by omega) _ _ hP hD hS _ (lv_sub hl [1, 2, 0] rfl)
    intro i hi2 hfu H locs hP hD hS ls hl
    refine lv_iload_n hx hb d_Mo_pack_9 rfl (lv_at hl 2 rfl) ?_
    refine lv_aload_n hx hb d_Mo_pack_10 rfl (lv_at hl 0 rfl) ?_
    refine xg hx hb hown htw hK hP 0 10 rfl k_Mo (by decide) fl_Mo_58 rfl d_Mo_pack_11 ?_
    refine xc_ge (tgt := 40) (a := i) (b := sg) hx hb (by omega) (by omega) d_Mo_pack_14 (by decide) (fun c_14 => ?_) (fun c_14 => ?_)
    · have hk2 : sg = i := by omega
      subst hk2
      refine lv_aload_n hx hb d_Mo_pack_40 rfl (lv_at hl 0 rfl) ?_
      refine lv_iconst (v := nI 0) hx hb d_Mo_pack_41 (by decide) ?_
      refine lv_iconst (v := nI 1) hx hb d_Mo_pack_42 (by decide) ?_
      refine xcV_i (As := [.int (nI 0), .int (nI 1)]) (rest := []) (wr := [(r7, .inl (K 0, 64, .inl (nA lv)))]) hx hb hml hown htw hK hA hl.1 hP hD hS (c_Mo_gather l D K m0 0 T hd r1 r2 r3 r4 cm r5 r6 sg r7 sn r8 r9 wh tkn 0 1 (by first | assumption | omega) (by first | assumption | omega) (by omega) (by omega) (by first | assumption | omega)) [0, 1, 2] [3] rfl rfl (by decide) (by decide) (by decide) 0 rfl k_Mo ml_Mo_65 w_Mo_gather rfl ⟨by decide, by decide⟩ rfl (Nat.le_of_ble_eq_true rfl) ⟨by decide, by decide⟩ d_Mo_pack_43 (fun r u H locs hpost hP hD hS => ?_)
      obtain ⟨rfl, rfl⟩ := hpost
      have hP : va_P D classes [(r7, .inl (K 0, 64, .inl (nA lv))), (m0, .inr (8, [.int (nI 0), .int (nI T), .int (nI hd), .ref r1, .ref r2, .ref r3, .ref r4, .int (nI cm), .ref r5, .ref r6, .int (nI sg), .ref r7, .int (nI sn), .ref r8, .ref r9])), (r5, .inl (K 0, 600, .inl (zA (whG wh tkn 0 1 cm)))), (r6, .inl (K 2, 600, .inl (nA tkn)))] H := hP
      have hD : va_D A [(r7, .inl (K 0, 64, .inl (nA lv))), (m0, .inr (8, [.int (nI 0), .int (nI T), .int (nI hd), .ref r1, .ref r2, .ref r3, .ref r4, .int (nI cm), .ref r5, .ref r6, .int (nI sg), .ref r7, .int (nI sn), .ref r8, .ref r9])), (r5, .inl (K 0, 600, .inl (zA (whG wh tkn 0 1 cm)))), (r6, .inl (K 2, 600, .inl (nA tkn)))] := hD
      refine lv_istore_n (lv' := [(2, .int (nI (rfn wh tkn 0 1 cm))), (0, .ref m0), (1, .int (nI (lmax lv sg)))]) hx hb d_Mo_pack_46 rfl hl (by decide) rfl (fun ls hl => ?_)
      refine lv_aload_n hx hb d_Mo_pack_47 rfl (lv_at hl 1 rfl) ?_
      refine xg hx hb hown htw hK hP 1 11 rfl k_Mo (by decide) fl_Mo_29 rfl d_Mo_pack_48 ?_
      refine lv_iconst (v := nI 0) hx hb d_Mo_pack_51 (by decide) ?_
      refine lv_iload_n hx hb d_Mo_pack_52 rfl (lv_at hl 2 rfl) ?_
      refine xast_i hx hb hK hP hD hS 0 rfl (by omega) (by omega) d_Mo_pack_53 (fun H locs hP hD hS => ?_)
      rw [upd_nA] at hP hD
      have hP : va_P D classes [(r7, .inl (K 0, 64, .inl (nA (va_up lv 0 (lmax lv sg))))), (m0, .inr (8, [.int (nI 0), .int (nI T), .int (nI hd), .ref r1, .ref r2, .ref r3, .ref r4, .int (nI cm), .ref r5, .ref r6, .int (nI sg), .ref r7, .int (nI sn), .ref r8, .ref r9])), (r5, .inl (K 0, 600, .inl (zA (whG wh tkn 0 1 cm)))), (r6, .inl (K 2, 600, .inl (nA tkn)))] H := hP
      have hD : va_D A [(r7, .inl (K 0, 64, .inl (nA (va_up lv 0 (lmax lv sg))))), (m0, .inr (8, [.int (nI 0), .int (nI T), .int (nI hd), .ref r1, .ref r2, .ref r3, .ref r4, .int (nI cm), .ref r5, .ref r6, .int (nI sg), .ref r7, .int (nI sn), .ref r8, .ref r9])), (r5, .inl (K 0, 600, .inl (zA (whG wh tkn 0 1 cm)))), (r6, .inl (K 2, 600, .inl (nA tkn)))] := hD
      refine lv_aload_n hx hb d_Mo_pack_54 rfl (lv_at hl 1 rfl) ?_
      refine lv_iload_n hx hb d_Mo_pack_55 rfl (lv_at hl 0 rfl) ?_
      refine xz_le (tgt := 63) (a := rfn wh tkn 0 1 cm) hx hb (by have := cnP_le (fun d => whP wh 0 1 d ∧ tkn d = 0) cm; unfold rfn; omega) d_Mo_pack_56 (by decide) (fun c_56 => ?_) (fun c_56 => ?_)
      · refine lv_iconst (v := nI 0) hx hb d_Mo_pack_63 (by decide) ?_
        refine xpt hx hb hown htw hK hP hD hS 1 10 rfl k_Mo (by decide) fl_Mo_58 rfl rfl rfl (Nat.le_of_ble_eq_true rfl) d_Mo_pack_64 (fun H locs hP hD hS => ?_)
        have hP : va_P D classes [(r7, .inl (K 0, 64, .inl (nA (va_up lv 0 (lmax lv sg))))), (m0, .inr (8, [.int (nI 0), .int (nI T), .int (nI hd), .ref r1, .ref r2, .ref r3, .ref r4, .int (nI cm), .ref r5, .ref r6, .int (nI 0), .ref r7, .int (nI sn), .ref r8, .ref r9])), (r5, .inl (K 0, 600, .inl (zA (whG wh tkn 0 1 cm)))), (r6, .inl (K 2, 600, .inl (nA tkn)))] H := hP
        have hD : va_D A [(r7, .inl (K 0, 64, .inl (nA (va_up lv 0 (lmax lv sg))))), (m0, .inr (8, [.int (nI 0), .int (nI T), .int (nI hd), .ref r1, .ref r2, .ref r3, .ref r4, .int (nI cm), .ref r5, .ref r6, .int (nI 0), .ref r7, .int (nI sn), .ref r8, .ref r9])), (r5, .inl (K 0, 600, .inl (zA (whG wh tkn 0 1 cm)))), (r6, .inl (K 2, 600, .inl (nA tkn)))] := hD
        refine lv_iload_n hx hb d_Mo_pack_67 rfl (lv_at hl 0 rfl) ?_
        obtain ⟨hP, hD⟩ := xp (ws' := [(m0, .inr (8, [.int (nI 0), .int (nI T), .int (nI hd), .ref r1, .ref r2, .ref r3, .ref r4, .int (nI cm), .ref r5, .ref r6, .int (nI 0), .ref r7, .int (nI sn), .ref r8, .ref r9])), (r5, .inl (K 0, 600, .inl (zA (whG wh tkn 0 1 cm)))), (r6, .inl (K 2, 600, .inl (nA tkn))), (r7, .inl (K 0, 64, .inl (nA (va_up lv 0 (lmax lv sg)))))]) hP hD [1, 2, 3, 0] (by decide) rfl
        exact xr_iret hx hb hr hlocks hP hD hS (Nat.le_of_ble_eq_true rfl) (Nat.le_of_ble_eq_true rfl) (⟨by first | rw [bN_t c_56] | rw [bN_f (by omega)], rfl⟩) d_Mo_pack_68
      · refine lv_iconst (v := nI 1) hx hb d_Mo_pack_59 (by decide) ?_
        refine lv_goto (tgt := 64) hx hb d_Mo_pack_60 (by decide) ?_
        refine xpt hx hb hown htw hK hP hD hS 1 10 rfl k_Mo (by decide) fl_Mo_58 rfl rfl rfl (Nat.le_of_ble_eq_true rfl) d_Mo_pack_64 (fun H locs hP hD hS => ?_)
        have hP : va_P D classes [(r7, .inl (K 0, 64, .inl (nA (va_up lv 0 (lmax lv sg))))), (m0, .inr (8, [.int (nI 0), .int (nI T), .int (nI hd), .ref r1, .ref r2, .ref r3, .ref r4, .int (nI cm), .ref r5, .ref r6, .int (nI 1), .ref r7, .int (nI sn), .ref r8, .ref r9])), (r5, .inl (K 0, 600, .inl (zA (whG wh tkn 0 1 cm)))), (r6, .inl (K 2, 600, .inl (nA tkn)))] H := hP
        have hD : va_D A [(r7, .inl (K 0, 64, .inl (nA (va_up lv 0 (lmax lv sg))))), (m0, .inr (8, [.int (nI 0), .int (nI T), .int (nI hd), .ref r1, .ref r2, .ref r3, .ref r4, .int (nI cm), .ref r5, .ref r6, .int (nI 1), .ref r7, .int (nI sn), .ref r8, .ref r9])), (r5, .inl (K 0, 600, .inl (zA (whG wh tkn 0 1 cm)))), (r6, .inl (K 2, 600, .inl (nA tkn)))] := hD
        refine lv_iload_n hx hb d_Mo_pack_67 rfl (lv_at hl 0 rfl) ?_
        obtain ⟨hP, hD⟩ := xp (ws' := [(m0, .inr (8, [.int (nI 0), .int (nI T), .int (nI hd), .ref r1, .ref r2, .ref r3, .ref r4, .int (nI cm), .ref r5, .ref r6, .int (nI 1), .ref r7, .int (nI sn), .ref r8, .ref r9])), (r5, .inl (K 0, 600, .inl (zA (whG wh tkn 0 1 cm)))), (r6, .inl (K 2, 600, .inl (nA tkn))), (r7, .inl (K 0, 64, .inl (nA (va_up lv 0 (lmax lv sg)))))]) hP hD [1, 2, 3, 0] (by decide) rfl
        exact xr_iret hx hb hr hlocks hP hD hS (Nat.le_of_ble_eq_true rfl) (Nat.le_of_ble_eq_true rfl) (⟨by first | rw [bN_t c_56] | rw [bN_f (by omega)], rfl⟩) d_Mo_pack_68
    · refine lv_aload_n hx hb d_Mo_pack_17 rfl (lv_at hl 0 rfl) ?_
      refine xg hx hb hown htw hK hP 0 11 rfl k_Mo (by decide) fl_Mo_29 rfl d_Mo_pack_18 ?_
      refine lv_iload_n hx hb d_Mo_pack_21 rfl (lv_at hl 2 rfl) ?_
      refine xald_i hx hb hK hP 3 rfl (by omega) (by omega) d_Mo_pack_22 ?_
      refine xi (y := nI (lv i)) rfl ?_
      refine lv_iload_n hx hb d_Mo_pack_23 rfl (lv_at hl 1 rfl) ?_
      refine xc_le (tgt := 34) (a := lv i) (b := lmax lv i) hx hb (by have := hlv i (by omega); omega) (by have := lmax_le (lv := lv) (n := i) (B := 1000) (fun j hj => hlv j (by omega)); omega) d_Mo_pack_24 (by decide) (fun c_24 => ?_) (fun c_24 => ?_)
      · exact jn_34 i (lmax lv i) (by first | assumption | omega) (by first | assumption | omega) (by exact (lmax_n (by omega)).symm) _ _ hP hD hS _ (lv_sub hl [0, 1, 2] rfl)
      · refine lv_aload_n hx hb d_Mo_pack_27 rfl (lv_at hl 0 rfl) ?_
        refine xg hx hb hown htw hK hP 0 11 rfl k_Mo (by decide) fl_Mo_29 rfl d_Mo_pack_28 ?_
        refine lv_iload_n hx hb d_Mo_pack_31 rfl (lv_at hl 2 rfl) ?_
        refine xald_i hx hb hK hP 3 rfl (by omega) (by omega) d_Mo_pack_32 ?_
        refine xi (y := nI (lv i)) rfl ?_
        refine lv_istore_n (lv' := [(1, .int (nI (lv i))), (0, .ref m0), (2, .int (nI i))]) hx hb d_Mo_pack_33 rfl hl (by decide) rfl (fun ls hl => ?_)
        exact jn_34 i (lv i) (by first | assumption | omega) (by first | assumption | omega) (by exact (lmax_y (by omega)).symm) _ _ hP hD hS _ (lv_sub hl [1, 0, 2] rfl)
set_option maxHeartbeats 4000000 in
set_option maxRecDepth 100000 in
theorem c_Mo_pack (l : Launch) (D : va_G) (K : Nat → ClassId) (m0 : Nat) (th : Nat) (T : Nat) (hd : Nat) (r1 : Nat) (r2 : Nat) (r3 : Nat) (r4 : Nat) (cm : Nat) (r5 : Nat) (r6 : Nat) (sg : Nat) (r7 : Nat) (sn : Nat) (r8 : Nat) (r9 : Nat) (wh : Nat → Int) (tkn : Nat → Nat) (lv : Nat → Nat) (hcm : cm ≤ 600) (hw : ∀ d, d < cm → -2 ≤ wh d ∧ wh d ≤ 1000) (htk : ∀ d, d < cm → tkn d ≤ 1) (hsg : sg ≤ 62) (hlv : ∀ i, i < 64 → lv i ≤ 1000) : CI l y_Mo_pack b_Mo_pack 3 .int ({ frames := 1, cells := 0, slots := 0, locals := 24 } : Room) D K [.ref m0] [(m0, .inr (8, [.int (nI th), .int (nI T), .int (nI hd), .ref r1, .ref r2, .ref r3, .ref r4, .int (nI cm), .ref r5, .ref r6, .int (nI sg), .ref r7, .int (nI sn), .ref r8, .ref r9])), (r5, .inl (K 0, 600, .inl (zA wh))), (r6, .inl (K 2, 600, .inl (nA tkn))), (r7, .inl (K 0, 64, .inl (nA lv)))] (q_Mo_pack K m0 th T hd r1 r2 r3 r4 cm r5 r6 sg r7 sn r8 r9 wh tkn lv) := by
  refine CI_of (by decide) (Nat.le_of_ble_eq_true rfl) ?_
  intro p e s m below meth c A b0 ls hF hA hP hD hl
  have hF2 := hF
  obtain ⟨hx, hb, hr, hml, hown, htw, hK, hlocks, hname⟩ := hF
  have hS : va_S A s.heap s.heap [] := va_S.rf
  have hl : lv_has ls 3 [(0, .ref m0)] := hl
  refine lv_aload_n hx hb d_Mo_pack_0 rfl (lv_at hl 0 rfl) ?_
  refine lv_iconst (v := nI 0) hx hb d_Mo_pack_1 (by decide) ?_
  refine xpt hx hb hown htw hK hP hD hS 0 0 rfl k_Mo (by decide) fl_Mo_38 rfl rfl rfl (Nat.le_of_ble_eq_true rfl) d_Mo_pack_2 (fun H locs hP hD hS => ?_)
  have hP : va_P D classes [(m0, .inr (8, [.int (nI 0), .int (nI T), .int (nI hd), .ref r1, .ref r2, .ref r3, .ref r4, .int (nI cm), .ref r5, .ref r6, .int (nI sg), .ref r7, .int (nI sn), .ref r8, .ref r9])), (r5, .inl (K 0, 600, .inl (zA wh))), (r6, .inl (K 2, 600, .inl (nA tkn))), (r7, .inl (K 0, 64, .inl (nA lv)))] H := hP
  have hD : va_D A [(m0, .inr (8, [.int (nI 0), .int (nI T), .int (nI hd), .ref r1, .ref r2, .ref r3, .ref r4, .int (nI cm), .ref r5, .ref r6, .int (nI sg), .ref r7, .int (nI sn), .ref r8, .ref r9])), (r5, .inl (K 0, 600, .inl (zA wh))), (r6, .inl (K 2, 600, .inl (nA tkn))), (r7, .inl (K 0, 64, .inl (nA lv)))] := hD
  refine lv_iconst (v := nI 0) hx hb d_Mo_pack_5 (by decide) ?_
  refine lv_istore_n (lv' := [(1, .int (nI 0)), (0, .ref m0)]) hx hb d_Mo_pack_6 rfl hl (by decide) rfl (fun ls hl => ?_)
  rw [show nI 0 = nI (lmax lv 0) from rfl] at hl
  refine lv_iconst (v := nI 0) hx hb d_Mo_pack_7 (by decide) ?_
  refine lv_istore_n (lv' := [(2, .int (nI 0)), (1, .int (nI (lmax lv 0))), (0, .ref m0)]) hx hb d_Mo_pack_8 rfl hl (by decide) rfl (fun ls hl => ?_)
  exact lp_Mo_pack_9 (l := l) m0 th T hd r1 r2 r3 r4 cm r5 r6 sg r7 sn r8 r9 wh tkn lv hcm hw htk hsg hlv hF2 hA _ 0 (by first | assumption | omega) (Nat.lt_succ_self _) _ _ hP hD hS _ (lv_sub hl [2, 1, 0] rfl)


abbrev q_SI_documentOf (K : Nat → ClassId) (h : Nat) : Int32 → va_W → Prop := fun r u => u = [] ∧ r = nI (h / 2 ^ 14)
set_option maxHeartbeats 4000000 in
set_option maxRecDepth 100000 in
theorem c_SI_documentOf (l : Launch) (D : va_G) (K : Nat → ClassId) (h : Nat) (hh : h < 2 ^ 31) : CI l y_SI_documentOf b_SI_documentOf 1 .int ({ frames := 0, cells := 0, slots := 0, locals := 0 } : Room) D K [.int (nI h)] [] (q_SI_documentOf K h) := by
  refine CI_of (by decide) (Nat.le_of_ble_eq_true rfl) ?_
  intro p e s m below meth c A b0 ls hF hA hP hD hl
  have hF2 := hF
  obtain ⟨hx, hb, hr, hml, hown, htw, hK, hlocks, hname⟩ := hF
  have hS : va_S A s.heap s.heap [] := va_S.rf
  have hl : lv_has ls 1 [(0, .int (nI h))] := hl
  refine lv_iload_n hx hb d_SI_documentOf_0 rfl (lv_at hl 0 rfl) ?_
  refine lv_bipush (v := nI 14) hx hb d_SI_documentOf_1 (by decide) ?_
  refine lv_ishr hx hb d_SI_documentOf_3 ?_
  refine xi (y := nI (h / 2 ^ 14)) (pk_shrN (by omega) _ 14 (by decide)) ?_
  exact xr_iret hx hb hr hlocks hP hD hS (Nat.le_of_ble_eq_true rfl) (Nat.le_of_ble_eq_true rfl) (⟨rfl, rfl⟩) d_SI_documentOf_4

abbrev q_SI_fieldOf (K : Nat → ClassId) (h : Nat) : Int32 → va_W → Prop := fun r u => u = [] ∧ r = nI (h / 2 ^ 12 % 2 ^ 2)
set_option maxHeartbeats 4000000 in
set_option maxRecDepth 100000 in
theorem c_SI_fieldOf (l : Launch) (D : va_G) (K : Nat → ClassId) (h : Nat) (hh : h < 2 ^ 31) : CI l y_SI_fieldOf b_SI_fieldOf 1 .int ({ frames := 0, cells := 0, slots := 0, locals := 0 } : Room) D K [.int (nI h)] [] (q_SI_fieldOf K h) := by
  refine CI_of (by decide) (Nat.le_of_ble_eq_true rfl) ?_
  intro p e s m below meth c A b0 ls hF hA hP hD hl
  have hF2 := hF
  obtain ⟨hx, hb, hr, hml, hown, htw, hK, hlocks, hname⟩ := hF
  have hS : va_S A s.heap s.heap [] := va_S.rf
  have hl : lv_has ls 1 [(0, .int (nI h))] := hl
  refine lv_iload_n hx hb d_SI_fieldOf_0 rfl (lv_at hl 0 rfl) ?_
  refine lv_bipush (v := nI 12) hx hb d_SI_fieldOf_1 (by decide) ?_
  refine lv_ishr hx hb d_SI_fieldOf_3 ?_
  refine xi (y := nI (h / 2 ^ 12)) (pk_shrN (by omega) _ 12 (by decide)) ?_
  refine lv_iconst (v := nI 3) hx hb d_SI_fieldOf_4 (by decide) ?_
  refine lv_iand hx hb d_SI_fieldOf_5 ?_
  refine xi (y := nI (h / 2 ^ 12 % 2 ^ 2)) (pk_andN (by omega) 2 (by decide)) ?_
  exact xr_iret hx hb hr hlocks hP hD hS (Nat.le_of_ble_eq_true rfl) (Nat.le_of_ble_eq_true rfl) (⟨rfl, rfl⟩) d_SI_fieldOf_6

abbrev q_SI_placeOf (K : Nat → ClassId) (h : Nat) : Int32 → va_W → Prop := fun r u => u = [] ∧ r = nI (h % 2 ^ 12)
set_option maxHeartbeats 4000000 in
set_option maxRecDepth 100000 in
theorem c_SI_placeOf (l : Launch) (D : va_G) (K : Nat → ClassId) (h : Nat) (hh : h < 2 ^ 31) : CI l y_SI_placeOf b_SI_placeOf 1 .int ({ frames := 0, cells := 0, slots := 0, locals := 0 } : Room) D K [.int (nI h)] [] (q_SI_placeOf K h) := by
  refine CI_of (by decide) (Nat.le_of_ble_eq_true rfl) ?_
  intro p e s m below meth c A b0 ls hF hA hP hD hl
  have hF2 := hF
  obtain ⟨hx, hb, hr, hml, hown, htw, hK, hlocks, hname⟩ := hF
  have hS : va_S A s.heap s.heap [] := va_S.rf
  have hl : lv_has ls 1 [(0, .int (nI h))] := hl
  refine lv_iload_n hx hb d_SI_placeOf_0 rfl (lv_at hl 0 rfl) ?_
  refine lv_sipush (v := nI 4095) hx hb d_SI_placeOf_1 (by decide) ?_
  refine lv_iand hx hb d_SI_placeOf_4 ?_
  refine xi (y := nI (h % 2 ^ 12)) (pk_andN (by omega) 12 (by decide)) ?_
  exact xr_iret hx hb hr hlocks hP hD hS (Nat.le_of_ble_eq_true rfl) (Nat.le_of_ble_eq_true rfl) (⟨rfl, rfl⟩) d_SI_placeOf_5

abbrev q_SI_hitOf (K : Nat → ClassId) (d : Nat) (f : Nat) (pl : Nat) : Int32 → va_W → Prop := fun r u => u = [] ∧ r = nI ((d * 2 ^ 2 + f) * 2 ^ 12 + pl)
set_option maxHeartbeats 4000000 in
set_option maxRecDepth 100000 in
theorem c_SI_hitOf (l : Launch) (D : va_G) (K : Nat → ClassId) (d : Nat) (f : Nat) (pl : Nat) (hd : d < 2 ^ 16) (hf : f < 4) (hpl : pl < 2 ^ 12) : CI l y_SI_hitOf b_SI_hitOf 3 .int ({ frames := 0, cells := 0, slots := 0, locals := 0 } : Room) D K [.int (nI d), .int (nI f), .int (nI pl)] [] (q_SI_hitOf K d f pl) := by
  refine CI_of (by decide) (Nat.le_of_ble_eq_true rfl) ?_
  intro p e s m below meth c A b0 ls hF hA hP hD hl
  have hF2 := hF
  obtain ⟨hx, hb, hr, hml, hown, htw, hK, hlocks, hname⟩ := hF
  have hS : va_S A s.heap s.heap [] := va_S.rf
  have hl : lv_has ls 3 [(0, .int (nI d)), (1, .int (nI f)), (2, .int (nI pl))] := hl
  refine lv_iload_n hx hb d_SI_hitOf_0 rfl (lv_at hl 0 rfl) ?_
  refine lv_bipush (v := nI 14) hx hb d_SI_hitOf_1 (by decide) ?_
  refine lv_ishl hx hb d_SI_hitOf_3 ?_
  refine xi (y := nI (d * 2 ^ 14)) (pk_shlN _ 14 (by decide) (by omega)) ?_
  refine lv_iload_n hx hb d_SI_hitOf_4 rfl (lv_at hl 1 rfl) ?_
  refine lv_bipush (v := nI 12) hx hb d_SI_hitOf_5 (by decide) ?_
  refine lv_ishl hx hb d_SI_hitOf_7 ?_
  refine xi (y := nI (f * 2 ^ 12)) (pk_shlN _ 12 (by decide) (by omega)) ?_
  refine lv_ior hx hb d_SI_hitOf_8 ?_
  refine xi (y := nI ((d * 2 ^ 2 + f) * 2 ^ 12)) ((nI_or (q := d) (k := 14) (by omega)).trans (by congr 1; omega)) ?_
  refine lv_iload_n hx hb d_SI_hitOf_9 rfl (lv_at hl 2 rfl) ?_
  refine lv_ior hx hb d_SI_hitOf_10 ?_
  refine xi (y := nI ((d * 2 ^ 2 + f) * 2 ^ 12 + pl)) (nI_or hpl) ?_
  exact xr_iret hx hb hr hlocks hP hD hS (Nat.le_of_ble_eq_true rfl) (Nat.le_of_ble_eq_true rfl) (⟨rfl, rfl⟩) d_SI_hitOf_11

abbrev q_SI_termOf (K : Nat → ClassId) (a : Int32) (b : Int32) : Int64 → va_W → Prop := fun r u => u = [] ∧ r = tmL a b
set_option maxHeartbeats 4000000 in
set_option maxRecDepth 100000 in
theorem c_SI_termOf (l : Launch) (D : va_G) (K : Nat → ClassId) (a : Int32) (b : Int32)  : CL l y_SI_termOf b_SI_termOf 2 ({ frames := 0, cells := 0, slots := 0, locals := 0 } : Room) D K [.int a, .int b] [] (q_SI_termOf K a b) := by
  refine CL_of (by decide) (Nat.le_of_ble_eq_true rfl) ?_
  intro p e s m below meth c A b0 ls hF hA hP hD hl
  have hF2 := hF
  obtain ⟨hx, hb, hr, hml, hown, htw, hK, hlocks, hname⟩ := hF
  have hS : va_S A s.heap s.heap [] := va_S.rf
  have hl : lv_has ls 2 [(0, .int a), (1, .int b)] := hl
  refine lv_iload_n hx hb d_SI_termOf_0 rfl (lv_at hl 0 rfl) ?_
  refine lv_i2l hx hb d_SI_termOf_1 rfl ?_
  refine lv_bipush (v := nI 32) hx hb d_SI_termOf_2 (by decide) ?_
  refine lv_lshl hx hb d_SI_termOf_4 rfl ?_
  refine lv_iload_n hx hb d_SI_termOf_5 rfl (lv_at hl 1 rfl) ?_
  refine lv_i2l hx hb d_SI_termOf_6 rfl ?_
  refine lv_ldc2 (v := 4294967295) hx hb hown (htw _ cn_SI_273 _) d_SI_termOf_7 ?_
  refine lv_land hx hb d_SI_termOf_10 ?_
  refine lv_lor hx hb d_SI_termOf_11 ?_
  exact xr_lret hx hb hr hlocks hP hD hS (Nat.le_of_ble_eq_true rfl) (Nat.le_of_ble_eq_true rfl) (⟨rfl, rfl⟩) d_SI_termOf_12

abbrev q_HS_clear (K : Nat → ClassId) (h0 : Nat) (h1 : Nat) (z : Nat) : va_W → Prop := fun u => u = [(h0, .inr (0, [.ref h1, .int (nI 0)]))]
set_option maxHeartbeats 4000000 in
set_option maxRecDepth 100000 in
theorem c_HS_clear (l : Launch) (D : va_G) (K : Nat → ClassId) (h0 : Nat) (h1 : Nat) (z : Nat)  : CV l y_HS_clear b_HS_clear 1 ({ frames := 0, cells := 0, slots := 0, locals := 0 } : Room) D K [.ref h0] [(h0, .inr (0, [.ref h1, .int (nI z)]))] (q_HS_clear K h0 h1 z) := by
  refine CV_of (by decide) (Nat.le_of_ble_eq_true rfl) ?_
  intro p e s m below meth c A b0 ls hF hA hP hD hl
  have hF2 := hF
  obtain ⟨hx, hb, hr, hml, hown, htw, hK, hlocks, hname⟩ := hF
  have hS : va_S A s.heap s.heap [] := va_S.rf
  have hl : lv_has ls 1 [(0, .ref h0)] := hl
  refine lv_aload_n hx hb d_HS_clear_0 rfl (lv_at hl 0 rfl) ?_
  refine lv_iconst (v := nI 0) hx hb d_HS_clear_1 (by decide) ?_
  refine xpt hx hb hown htw hK hP hD hS 0 1 rfl k_HS (by decide) fl_HS_15 rfl rfl rfl (Nat.le_of_ble_eq_true rfl) d_HS_clear_2 (fun H locs hP hD hS => ?_)
  have hP : va_P D classes [(h0, .inr (0, [.ref h1, .int (nI 0)]))] H := hP
  have hD : va_D A [(h0, .inr (0, [.ref h1, .int (nI 0)]))] := hD
  exact xr_vret hx hb hr hlocks hP hD hS (Nat.le_of_ble_eq_true rfl) (Nat.le_of_ble_eq_true rfl) (rfl) d_HS_clear_5

abbrev q_HS_put (K : Nat → ClassId) (h0 : Nat) (h1 : Nat) (z : Nat) (n : Nat) (g : Nat → Nat) (x : Nat) : va_W → Prop := fun u => u = [(h0, .inr (0, [.ref h1, .int (nI (pz z g x))])), (h1, .inl (K 0, n, .inl (nA (pg z g x))))]
set_option maxHeartbeats 4000000 in
set_option maxRecDepth 100000 in
theorem c_HS_put (l : Launch) (D : va_G) (K : Nat → ClassId) (h0 : Nat) (h1 : Nat) (z : Nat) (n : Nat) (g : Nat → Nat) (x : Nat) (hz : z < n) (hn : n < 2 ^ 30) (hx1 : x < 2 ^ 31) (hg1 : ∀ k, k < z → g k < 2 ^ 31) : CV l y_HS_put b_HS_put 2 ({ frames := 0, cells := 0, slots := 0, locals := 0 } : Room) D K [.ref h0, .int (nI x)] [(h0, .inr (0, [.ref h1, .int (nI z)])), (h1, .inl (K 0, n, .inl (nA g)))] (q_HS_put K h0 h1 z n g x) := by
  refine CV_of (by decide) (Nat.le_of_ble_eq_true rfl) ?_
  intro p e s m below meth c A b0 ls hF hA hP hD hl
  have hF2 := hF
  obtain ⟨hx, hb, hr, hml, hown, htw, hK, hlocks, hname⟩ := hF
  have jn_23 : (¬ (0 < z ∧ g (z - 1) = x)) → ∀ (H : Heap) (locs : List Loc), va_P D classes [(h0, .inr (0, [.ref h1, .int (nI z)])), (h1, .inl (K 0, n, .inl (nA g)))] H → va_D A [(h0, .inr (0, [.ref h1, .int (nI z)])), (h1, .inl (K 0, n, .inl (nA g)))] → va_S A s.heap H locs → ∀ ls : Array Slot, lv_has ls 2 [(0, .ref h0), (1, .int (nI x))] → W p l e ({ frames := 0, cells := 0, slots := 0, locals := 0 } : Room) s m ([.ref h0, .int (nI x)] : List Value).toArray below meth c H locs 0 0 (MQ below (va_Qv (q_HS_put K h0 h1 z n g x) (fun u t => va_P D classes u t.heap ∧ va_D A u) A) ([.ref h0, .int (nI x)] : List Value).toArray s 0 0 A) (F0 m 23 ls []) := by
    intro hnd H locs hP hD hS ls hl
    refine lv_aload_n hx hb d_HS_put_23 rfl (lv_at hl 0 rfl) ?_
    refine xg hx hb hown htw hK hP 0 1 rfl k_HS (by decide) fl_HS_15 rfl d_HS_put_24 ?_
    refine lv_aload_n hx hb d_HS_put_27 rfl (lv_at hl 0 rfl) ?_
    refine xg hx hb hown htw hK hP 0 0 rfl k_HS (by decide) fl_HS_9 rfl d_HS_put_28 ?_
    refine xalen (t0 := 0) (n := n) hx hb hK hP 1 rfl rfl rfl d_HS_put_31 ?_
    refine xc_lt (tgt := 53) (a := z) (b := n) hx hb (by omega) (by omega) d_HS_put_32 (by decide) (fun c_32 => ?_) (fun c_32 => ?_)
    · refine lv_aload_n hx hb d_HS_put_53 rfl (lv_at hl 0 rfl) ?_
      refine xg hx hb hown htw hK hP 0 0 rfl k_HS (by decide) fl_HS_9 rfl d_HS_put_54 ?_
      refine lv_aload_n hx hb d_HS_put_57 rfl (lv_at hl 0 rfl) ?_
      refine xg hx hb hown htw hK hP 0 1 rfl k_HS (by decide) fl_HS_15 rfl d_HS_put_58 ?_
      refine lv_iload_n hx hb d_HS_put_61 rfl (lv_at hl 1 rfl) ?_
      refine xast_i hx hb hK hP hD hS 1 rfl (by omega) (by omega) d_HS_put_62 (fun H locs hP hD hS => ?_)
      rw [upd_nA] at hP hD
      have hP : va_P D classes [(h0, .inr (0, [.ref h1, .int (nI z)])), (h1, .inl (K 0, n, .inl (nA (va_up g z x))))] H := hP
      have hD : va_D A [(h0, .inr (0, [.ref h1, .int (nI z)])), (h1, .inl (K 0, n, .inl (nA (va_up g z x))))] := hD
      refine lv_aload_n hx hb d_HS_put_63 rfl (lv_at hl 0 rfl) ?_
      refine lv_dup hx hb d_HS_put_64 rfl ?_
      refine xg hx hb hown htw hK hP 0 1 rfl k_HS (by decide) fl_HS_15 rfl d_HS_put_65 ?_
      refine lv_iconst (v := nI 1) hx hb d_HS_put_68 (by decide) ?_
      refine lv_iadd hx hb d_HS_put_69 ?_
      refine xi (nI_add z 1) ?_
      refine xpt hx hb hown htw hK hP hD hS 0 1 rfl k_HS (by decide) fl_HS_15 rfl rfl rfl (Nat.le_of_ble_eq_true rfl) d_HS_put_70 (fun H locs hP hD hS => ?_)
      have hP : va_P D classes [(h0, .inr (0, [.ref h1, .int (nI (z + 1))])), (h1, .inl (K 0, n, .inl (nA (va_up g z x))))] H := hP
      have hD : va_D A [(h0, .inr (0, [.ref h1, .int (nI (z + 1))])), (h1, .inl (K 0, n, .inl (nA (va_up g z x))))] := hD
      exact xr_vret hx hb hr hlocks hP hD hS (Nat.le_of_ble_eq_true rfl) (Nat.le_of_ble_eq_true rfl) (by dsimp only [q_HS_put]; rw [pz_n hnd, pg_n hnd]) d_HS_put_73
    · omega
  have hS : va_S A s.heap s.heap [] := va_S.rf
  have hl : lv_has ls 2 [(0, .ref h0), (1, .int (nI x))] := hl
  refine lv_aload_n hx hb d_HS_put_0 rfl (lv_at hl 0 rfl) ?_
  refine xg hx hb hown htw hK hP 0 1 rfl k_HS (by decide) fl_HS_15 rfl d_HS_put_1 ?_
  refine xz_le (tgt := 23) (a := z) hx hb (by omega) d_HS_put_4 (by decide) (fun c_4 => ?_) (fun c_4 => ?_)
  · exact jn_23  (by exact fun q => by omega) _ _ hP hD hS _ (lv_sub hl [0, 1] rfl)
  · refine lv_aload_n hx hb d_HS_put_7 rfl (lv_at hl 0 rfl) ?_
    refine xg hx hb hown htw hK hP 0 0 rfl k_HS (by decide) fl_HS_9 rfl d_HS_put_8 ?_
    refine lv_aload_n hx hb d_HS_put_11 rfl (lv_at hl 0 rfl) ?_
    refine xg hx hb hown htw hK hP 0 1 rfl k_HS (by decide) fl_HS_15 rfl d_HS_put_12 ?_
    refine lv_iconst (v := nI 1) hx hb d_HS_put_15 (by decide) ?_
    refine lv_isub hx hb d_HS_put_16 ?_
    refine xi (nI_sub (a := z) (b := 1) (by omega)) ?_
    refine xald_i hx hb hK hP 1 rfl (by omega) (by omega) d_HS_put_17 ?_
    refine xi (y := nI (g (z - 1))) rfl ?_
    refine lv_iload_n hx hb d_HS_put_18 rfl (lv_at hl 1 rfl) ?_
    refine xc_ne (tgt := 23) (a := g (z - 1)) (b := x) hx hb (by exact hg1 _ (by omega)) (by omega) d_HS_put_19 (by decide) (fun c_19 => ?_) (fun c_19 => ?_)
    · exact jn_23  (by exact fun q => c_19 q.2) _ _ hP hD hS _ (lv_sub hl [0, 1] rfl)
    · exact xr_vret hx hb hr hlocks hP hD hS (Nat.le_of_ble_eq_true rfl) (Nat.le_of_ble_eq_true rfl) (by dsimp only [q_HS_put]; rw [pz_d ⟨c_4, c_19⟩, pg_d ⟨c_4, c_19⟩]) d_HS_put_22

abbrev q_HS_copy (K : Nat → ClassId) (h0 : Nat) (h1 : Nat) (z : Nat) (n : Nat) (g : Nat → Nat) (ho : Nat) (h2 : Nat) (zo : Nat) (no : Nat) (go : Nat → Nat) : va_W → Prop := fun u => ∃ g' : Nat → Nat, u = [(h0, .inr (0, [.ref h1, .int (nI zo)])), (h1, .inl (K 0, n, .inl (nA g'))), (ho, .inr (0, [.ref h2, .int (nI zo)])), (h2, .inl (K 0, no, .inl (nA go)))] ∧ (∀ k, k < zo → g' k = go k)
set_option maxHeartbeats 4000000 in
set_option maxRecDepth 100000 in
theorem lp_HS_copy_6 {p : Program} {l : Launch} {e : Env} {s : State} {m : MethodId} {below : List Frame} {meth : Method} {c : Code} {A : Nat → Prop} {D : va_G} {K : Nat → ClassId} (h0 : Nat) (h1 : Nat) (z : Nat) (n : Nat) (g : Nat → Nat) (ho : Nat) (h2 : Nat) (zo : Nat) (no : Nat) (go : Nat → Nat) (hz : zo < n) (hn : n < 2 ^ 30) (hzo : zo ≤ no) (hno : no < 2 ^ 30) (hg1 : ∀ k, k < zo → go k < 2 ^ 31) (hi0 : st_inc zo go) (hF : Fx p s m meth c y_HS_copy b_HS_copy 3 none D K) {b0 : Nat} (hA : AS K s A b0) : ∀ fuel : Nat, ∀ i : Nat, ∀ gg : Nat → Nat, (∀ k, k < i → gg k = go k) → (i ≤ zo) → zo - i < fuel → ∀ (H : Heap) (locs : List Loc), va_P D classes [(h0, .inr (0, [.ref h1, .int (nI i)])), (h1, .inl (K 0, n, .inl (nA gg))), (ho, .inr (0, [.ref h2, .int (nI zo)])), (h2, .inl (K 0, no, .inl (nA go)))] H → va_D A [(h0, .inr (0, [.ref h1, .int (nI i)])), (h1, .inl (K 0, n, .inl (nA gg))), (ho, .inr (0, [.ref h2, .int (nI zo)])), (h2, .inl (K 0, no, .inl (nA go)))] → va_S A s.heap H locs → ∀ ls : Array Slot, lv_has ls 3 [(0, .ref h0), (1, .ref ho), (2, .int (nI i))] → W p l e ({ frames := 1, cells := 0, slots := 0, locals := 21 } : Room) s m ([.ref h0, .ref ho] : List Value).toArray below meth c H locs 0 0 (MQ below (va_Qv (q_HS_copy K h0 h1 z n g ho h2 zo no go) (fun u t => va_P D classes u t.heap ∧ va_D A u) A) ([.ref h0, .ref ho] : List Value).toArray s 0 0 A) (F0 m 6 ls []) := by
  have hF2 := hF
  obtain ⟨hx, hb, hr, hml, hown, htw, hK, hlocks, hname⟩ := hF
  intro fuel
  induction fuel with
  | zero => intros; omega
  | succ fuel ih =>
    intro i gg hc hi hfu H locs hP hD hS ls hl
    refine lv_iload_n hx hb d_HS_copy_6 rfl (lv_at hl 2 rfl) ?_
    refine lv_aload_n hx hb d_HS_copy_7 rfl (lv_at hl 1 rfl) ?_
    refine xg hx hb hown htw hK hP 2 1 rfl k_HS (by decide) fl_HS_15 rfl d_HS_copy_8 ?_
    refine xc_ge (tgt := 30) (a := i) (b := zo) hx hb (by omega) (by omega) d_HS_copy_11 (by decide) (fun c_11 => ?_) (fun c_11 => ?_)
    · have hiz : i = zo := by omega
      subst hiz
      exact xr_vret hx hb hr hlocks hP hD hS (Nat.le_of_ble_eq_true rfl) (Nat.le_of_ble_eq_true rfl) (⟨_, rfl, hc⟩) d_HS_copy_30
    · refine lv_aload_n hx hb d_HS_copy_14 rfl (lv_at hl 0 rfl) ?_
      refine lv_aload_n hx hb d_HS_copy_15 rfl (lv_at hl 1 rfl) ?_
      refine xg hx hb hown htw hK hP 2 0 rfl k_HS (by decide) fl_HS_9 rfl d_HS_copy_16 ?_
      refine lv_iload_n hx hb d_HS_copy_19 rfl (lv_at hl 2 rfl) ?_
      refine xald_i hx hb hK hP 3 rfl (by omega) (by omega) d_HS_copy_20 ?_
      refine xi (y := nI (go i)) rfl ?_
      refine xcV_v (As := [.int (nI (go i))]) (rest := []) (wr := [(ho, .inr (0, [.ref h2, .int (nI zo)])), (h2, .inl (K 0, no, .inl (nA go)))]) hx hb hml hown htw hK hA hl.1 hP hD hS (c_HS_put l D K h0 h1 i n gg (go i) (by first | assumption | omega) (by first | assumption | omega) (by exact hg1 _ (by omega)) (by exact fun k hk => by rw [hc k hk]; exact hg1 k (by omega))) [0, 1] [2, 3] rfl rfl (by decide) (by decide) (by decide) 0 rfl k_HS ml_HS_28 w_HS_put rfl ⟨by decide, by decide⟩ rfl (Nat.le_of_ble_eq_true rfl) ⟨by decide, by decide⟩ d_HS_copy_21 (fun u H locs hpost hP hD hS => ?_)
      subst hpost
      have hP : va_P D classes [(ho, .inr (0, [.ref h2, .int (nI zo)])), (h2, .inl (K 0, no, .inl (nA go))), (h0, .inr (0, [.ref h1, .int (nI (pz i gg (go i)))])), (h1, .inl (K 0, n, .inl (nA (pg i gg (go i)))))] H := hP
      have hD : va_D A [(ho, .inr (0, [.ref h2, .int (nI zo)])), (h2, .inl (K 0, no, .inl (nA go))), (h0, .inr (0, [.ref h1, .int (nI (pz i gg (go i)))])), (h1, .inl (K 0, n, .inl (nA (pg i gg (go i)))))] := hD
      rw [pz_n (fun q => by have q1 := hc (i - 1) (by omega); have q2 := hi0 (i - 1) i (by omega) (by omega); omega), pg_n (fun q => by have q1 := hc (i - 1) (by omega); have q2 := hi0 (i - 1) i (by omega) (by omega); omega)] at hP hD
      have hP : va_P D classes [(ho, .inr (0, [.ref h2, .int (nI zo)])), (h2, .inl (K 0, no, .inl (nA go))), (h0, .inr (0, [.ref h1, .int (nI (i + 1))])), (h1, .inl (K 0, n, .inl (nA (va_up gg i (go i)))))] H := hP
      have hD : va_D A [(ho, .inr (0, [.ref h2, .int (nI zo)])), (h2, .inl (K 0, no, .inl (nA go))), (h0, .inr (0, [.ref h1, .int (nI (i + 1))])), (h1, .inl (K 0, n, .inl (nA (va_up gg i (go i)))))] := hD
      refine lv_iinc (v := nI (i + 1)) (lv' := [(2, .int (nI (i + 1))), (0, .ref h0), (1, .ref ho)]) hx hb d_HS_copy_24 hl (k := 2) rfl (inc_nI _ _) (by decide) rfl (fun ls hl => ?_)
      refine lv_goto (tgt := 6) hx hb d_HS_copy_27 (by decide) ?_
      obtain ⟨hP9, hD9⟩ := xp (ws' := [(h0, .inr (0, [.ref h1, .int (nI (i + 1))])), (h1, .inl (K 0, n, .inl (nA (va_up gg i (go i))))), (ho, .inr (0, [.ref h2, .int (nI zo)])), (h2, .inl (K 0, no, .inl (nA go)))]) hP hD [2, 3, 0, 1] (by decide) rfl
      exact ih (i + 1) (va_up gg i (go i)) (by exact up_agree hc) (by first | assumption | omega) (by omega) _ _ hP9 hD9 hS _ (lv_sub hl [1, 2, 0] rfl)
set_option maxHeartbeats 4000000 in
set_option maxRecDepth 100000 in
theorem c_HS_copy (l : Launch) (D : va_G) (K : Nat → ClassId) (h0 : Nat) (h1 : Nat) (z : Nat) (n : Nat) (g : Nat → Nat) (ho : Nat) (h2 : Nat) (zo : Nat) (no : Nat) (go : Nat → Nat) (hz : zo < n) (hn : n < 2 ^ 30) (hzo : zo ≤ no) (hno : no < 2 ^ 30) (hg1 : ∀ k, k < zo → go k < 2 ^ 31) (hi0 : st_inc zo go) : CV l y_HS_copy b_HS_copy 3 ({ frames := 1, cells := 0, slots := 0, locals := 21 } : Room) D K [.ref h0, .ref ho] [(h0, .inr (0, [.ref h1, .int (nI z)])), (h1, .inl (K 0, n, .inl (nA g))), (ho, .inr (0, [.ref h2, .int (nI zo)])), (h2, .inl (K 0, no, .inl (nA go)))] (q_HS_copy K h0 h1 z n g ho h2 zo no go) := by
  refine CV_of (by decide) (Nat.le_of_ble_eq_true rfl) ?_
  intro p e s m below meth c A b0 ls hF hA hP hD hl
  have hF2 := hF
  obtain ⟨hx, hb, hr, hml, hown, htw, hK, hlocks, hname⟩ := hF
  have hS : va_S A s.heap s.heap [] := va_S.rf
  have hl : lv_has ls 3 [(0, .ref h0), (1, .ref ho)] := hl
  refine lv_aload_n hx hb d_HS_copy_0 rfl (lv_at hl 0 rfl) ?_
  refine xcV_v (As := []) (rest := []) (wr := [(h1, .inl (K 0, n, .inl (nA g))), (ho, .inr (0, [.ref h2, .int (nI zo)])), (h2, .inl (K 0, no, .inl (nA go)))]) hx hb hml hown htw hK hA hl.1 hP hD hS (c_HS_clear l D K h0 h1 z ) [0] [1, 2, 3] rfl rfl (by decide) (by decide) (by decide) 0 rfl k_HS ml_HS_25 w_HS_clear rfl ⟨by decide, by decide⟩ rfl (Nat.le_of_ble_eq_true rfl) ⟨by decide, by decide⟩ d_HS_copy_1 (fun u H locs hpost hP hD hS => ?_)
  subst hpost
  have hP : va_P D classes [(h1, .inl (K 0, n, .inl (nA g))), (ho, .inr (0, [.ref h2, .int (nI zo)])), (h2, .inl (K 0, no, .inl (nA go))), (h0, .inr (0, [.ref h1, .int (nI 0)]))] H := hP
  have hD : va_D A [(h1, .inl (K 0, n, .inl (nA g))), (ho, .inr (0, [.ref h2, .int (nI zo)])), (h2, .inl (K 0, no, .inl (nA go))), (h0, .inr (0, [.ref h1, .int (nI 0)]))] := hD
  refine lv_iconst (v := nI 0) hx hb d_HS_copy_4 (by decide) ?_
  refine lv_istore_n (lv' := [(2, .int (nI 0)), (0, .ref h0), (1, .ref ho)]) hx hb d_HS_copy_5 rfl hl (by decide) rfl (fun ls hl => ?_)
  obtain ⟨hP9, hD9⟩ := xp (ws' := [(h0, .inr (0, [.ref h1, .int (nI 0)])), (h1, .inl (K 0, n, .inl (nA g))), (ho, .inr (0, [.ref h2, .int (nI zo)])), (h2, .inl (K 0, no, .inl (nA go)))]) hP hD [3, 0, 1, 2] (by decide) rfl
  exact lp_HS_copy_6 (l := l) h0 h1 z n g ho h2 zo no go hz hn hzo hno hg1 hi0 hF2 hA _ 0 g (by exact fun k hk => by omega) (by first | assumption | omega) (Nat.lt_succ_self _) _ _ hP9 hD9 hS _ (lv_sub hl [1, 2, 0] rfl)

abbrev q_HS_unite (K : Nat → ClassId) (h0 : Nat) (h1 : Nat) (z : Nat) (n : Nat) (g : Nat → Nat) (hx0 : Nat) (hx1 : Nat) (zx : Nat) (nx : Nat) (gx : Nat → Nat) (hy0 : Nat) (hy1 : Nat) (zy : Nat) (ny : Nat) (gy : Nat → Nat) (t : Nat) (T : Nat → Nat) : va_W → Prop := fun u => ∃ z' : Nat, ∃ g' : Nat → Nat, u = [(h0, .inr (0, [.ref h1, .int (nI z')])), (h1, .inl (K 0, n, .inl (nA g'))), (hx0, .inr (0, [.ref hx1, .int (nI zx)])), (hx1, .inl (K 0, nx, .inl (nA gx))), (hy0, .inr (0, [.ref hy1, .int (nI zy)])), (hy1, .inl (K 0, ny, .inl (nA gy)))] ∧ (st_inc z' g') ∧ (∀ v, st_mem z' g' v ↔ st_mem zx gx v ∨ st_mem zy gy v)
set_option maxHeartbeats 4000000 in
set_option maxRecDepth 100000 in
theorem lp_HS_unite_9 {p : Program} {l : Launch} {e : Env} {s : State} {m : MethodId} {below : List Frame} {meth : Method} {c : Code} {A : Nat → Prop} {D : va_G} {K : Nat → ClassId} (h0 : Nat) (h1 : Nat) (z : Nat) (n : Nat) (g : Nat → Nat) (hx0 : Nat) (hx1 : Nat) (zx : Nat) (nx : Nat) (gx : Nat → Nat) (hy0 : Nat) (hy1 : Nat) (zy : Nat) (ny : Nat) (gy : Nat → Nat) (t : Nat) (T : Nat → Nat) (hn : n < 2 ^ 30) (hzx : zx ≤ nx) (hnx : nx < 2 ^ 30) (hzy : zy ≤ ny) (hny : ny < 2 ^ 30) (hgx : ∀ k, k < zx → gx k < 2 ^ 31) (hgy : ∀ k, k < zy → gy k < 2 ^ 31) (hix : st_inc zx gx) (hiy : st_inc zy gy) (ht : t < n) (hT : ∀ v, (st_mem zx gx v ∨ st_mem zy gy v) → st_mem t T v) (hF : Fx p s m meth c y_HS_unite b_HS_unite 5 none D K) {b0 : Nat} (hA : AS K s A b0) : ∀ fuel : Nat, ∀ i : Nat, ∀ j : Nat, ∀ zz : Nat, ∀ gg : Nat → Nat, (i ≤ zx) → (j ≤ zy) → (st_un zx gx zy gy i j zz gg) → (zx - i) + (zy - j) < fuel → ∀ (H : Heap) (locs : List Loc), va_P D classes [(h0, .inr (0, [.ref h1, .int (nI zz)])), (h1, .inl (K 0, n, .inl (nA gg))), (hx0, .inr (0, [.ref hx1, .int (nI zx)])), (hx1, .inl (K 0, nx, .inl (nA gx))), (hy0, .inr (0, [.ref hy1, .int (nI zy)])), (hy1, .inl (K 0, ny, .inl (nA gy)))] H → va_D A [(h0, .inr (0, [.ref h1, .int (nI zz)])), (h1, .inl (K 0, n, .inl (nA gg))), (hx0, .inr (0, [.ref hx1, .int (nI zx)])), (hx1, .inl (K 0, nx, .inl (nA gx))), (hy0, .inr (0, [.ref hy1, .int (nI zy)])), (hy1, .inl (K 0, ny, .inl (nA gy)))] → va_S A s.heap H locs → ∀ ls : Array Slot, lv_has ls 5 [(0, .ref h0), (1, .ref hx0), (2, .ref hy0), (3, .int (nI i)), (4, .int (nI j))] → W p l e ({ frames := 1, cells := 0, slots := 0, locals := 21 } : Room) s m ([.ref h0, .ref hx0, .ref hy0] : List Value).toArray below meth c H locs 0 0 (MQ below (va_Qv (q_HS_unite K h0 h1 z n g hx0 hx1 zx nx gx hy0 hy1 zy ny gy t T) (fun u t => va_P D classes u t.heap ∧ va_D A u) A) ([.ref h0, .ref hx0, .ref hy0] : List Value).toArray s 0 0 A) (F0 m 9 ls []) := by
  have hF2 := hF
  obtain ⟨hx, hb, hr, hml, hown, htw, hK, hlocks, hname⟩ := hF
  intro fuel
  induction fuel with
  | zero => intros; omega
  | succ fuel ih =>
    have jn_75 : ∀ i : Nat, ∀ j : Nat, ∀ zz : Nat, ∀ gg : Nat → Nat, (i ≤ zx) → (j ≤ zy) → (st_un zx gx zy gy i j zz gg) → ((zx - i) + (zy - j) < fuel + 1) → (j < zy) → (i < zx → gy j ≤ gx i) → ∀ (H : Heap) (locs : List Loc), va_P D classes [(h0, .inr (0, [.ref h1, .int (nI zz)])), (h1, .inl (K 0, n, .inl (nA gg))), (hx0, .inr (0, [.ref hx1, .int (nI zx)])), (hx1, .inl (K 0, nx, .inl (nA gx))), (hy0, .inr (0, [.ref hy1, .int (nI zy)])), (hy1, .inl (K 0, ny, .inl (nA gy)))] H → va_D A [(h0, .inr (0, [.ref h1, .int (nI zz)])), (h1, .inl (K 0, n, .inl (nA gg))), (hx0, .inr (0, [.ref hx1, .int (nI zx)])), (hx1, .inl (K 0, nx, .inl (nA gx))), (hy0, .inr (0, [.ref hy1, .int (nI zy)])), (hy1, .inl (K 0, ny, .inl (nA gy)))] → va_S A s.heap H locs → ∀ ls : Array Slot, lv_has ls 5 [(0, .ref h0), (1, .ref hx0), (2, .ref hy0), (3, .int (nI i)), (4, .int (nI j))] → W p l e ({ frames := 1, cells := 0, slots := 0, locals := 21 } : Room) s m ([.ref h0, .ref hx0, .ref hy0] : List Value).toArray below meth c H locs 0 0 (MQ below (va_Qv (q_HS_unite K h0 h1 z n g hx0 hx1 zx nx gx hy0 hy1 zy ny gy t T) (fun u t => va_P D classes u t.heap ∧ va_D A u) A) ([.ref h0, .ref hx0, .ref hy0] : List Value).toArray s 0 0 A) (F0 m 75 ls []) := by
      intro i j zz gg hi hj hu hfu hlt hle H locs hP hD hS ls hl
      refine lv_aload_n hx hb d_HS_unite_75 rfl (lv_at hl 0 rfl) ?_
      refine lv_aload_n hx hb d_HS_unite_76 rfl (lv_at hl 2 rfl) ?_
      refine xg hx hb hown htw hK hP 4 0 rfl k_HS (by decide) fl_HS_9 rfl d_HS_unite_77 ?_
      refine lv_iload hx hb d_HS_unite_80 (lv_at hl 4 rfl) ?_
      refine xald_i hx hb hK hP 5 rfl (by omega) (by omega) d_HS_unite_82 ?_
      refine xi (y := nI (gy j)) rfl ?_
      refine xcV_v (As := [.int (nI (gy j))]) (rest := []) (wr := [(hx0, .inr (0, [.ref hx1, .int (nI zx)])), (hx1, .inl (K 0, nx, .inl (nA gx))), (hy0, .inr (0, [.ref hy1, .int (nI zy)])), (hy1, .inl (K 0, ny, .inl (nA gy)))]) hx hb hml hown htw hK hA hl.1 hP hD hS (c_HS_put l D K h0 h1 zz n gg (gy j) (by exact Nat.lt_of_le_of_lt (st_un_card hu hi hj hT) ht) (by first | assumption | omega) (by exact hgy _ (by omega)) (by exact st_un_lt hu hi hj hgx hgy)) [0, 1] [2, 3, 4, 5] rfl rfl (by decide) (by decide) (by decide) 0 rfl k_HS ml_HS_28 w_HS_put rfl ⟨by decide, by decide⟩ rfl (Nat.le_of_ble_eq_true rfl) ⟨by decide, by decide⟩ d_HS_unite_83 (fun u H locs hpost hP hD hS => ?_)
      subst hpost
      have hP : va_P D classes [(hx0, .inr (0, [.ref hx1, .int (nI zx)])), (hx1, .inl (K 0, nx, .inl (nA gx))), (hy0, .inr (0, [.ref hy1, .int (nI zy)])), (hy1, .inl (K 0, ny, .inl (nA gy))), (h0, .inr (0, [.ref h1, .int (nI (pz zz gg (gy j)))])), (h1, .inl (K 0, n, .inl (nA (pg zz gg (gy j)))))] H := hP
      have hD : va_D A [(hx0, .inr (0, [.ref hx1, .int (nI zx)])), (hx1, .inl (K 0, nx, .inl (nA gx))), (hy0, .inr (0, [.ref hy1, .int (nI zy)])), (hy1, .inl (K 0, ny, .inl (nA gy))), (h0, .inr (0, [.ref h1, .int (nI (pz zz gg (gy j)))])), (h1, .inl (K 0, n, .inl (nA (pg zz gg (gy j)))))] := hD
      refine lv_iinc (v := nI (j + 1)) (lv' := [(4, .int (nI (j + 1))), (0, .ref h0), (1, .ref hx0), (2, .ref hy0), (3, .int (nI i))]) hx hb d_HS_unite_86 hl (k := 4) rfl (inc_nI _ _) (by decide) rfl (fun ls hl => ?_)
      refine lv_goto (tgt := 9) hx hb d_HS_unite_89 (by decide) ?_
      obtain ⟨hP9, hD9⟩ := xp (ws' := [(h0, .inr (0, [.ref h1, .int (nI (pz zz gg (gy j)))])), (h1, .inl (K 0, n, .inl (nA (pg zz gg (gy j))))), (hx0, .inr (0, [.ref hx1, .int (nI zx)])), (hx1, .inl (K 0, nx, .inl (nA gx))), (hy0, .inr (0, [.ref hy1, .int (nI zy)])), (hy1, .inl (K 0, ny, .inl (nA gy)))]) hP hD [4, 5, 0, 1, 2, 3] (by decide) rfl
      exact ih i (j + 1) (pz zz gg (gy j)) (pg zz gg (gy j)) (by first | assumption | omega) (by first | assumption | omega) (by exact st_un_y hix hiy hu hi hlt hle) (by omega) _ _ hP9 hD9 hS _ (lv_sub hl [1, 2, 3, 4, 0] rfl)
    have jn_59 : ∀ i : Nat, ∀ j : Nat, ∀ zz : Nat, ∀ gg : Nat → Nat, (i ≤ zx) → (j ≤ zy) → (st_un zx gx zy gy i j zz gg) → ((zx - i) + (zy - j) < fuel + 1) → (i < zx) → (j < zy → gx i ≤ gy j) → ∀ (H : Heap) (locs : List Loc), va_P D classes [(h0, .inr (0, [.ref h1, .int (nI zz)])), (h1, .inl (K 0, n, .inl (nA gg))), (hx0, .inr (0, [.ref hx1, .int (nI zx)])), (hx1, .inl (K 0, nx, .inl (nA gx))), (hy0, .inr (0, [.ref hy1, .int (nI zy)])), (hy1, .inl (K 0, ny, .inl (nA gy)))] H → va_D A [(h0, .inr (0, [.ref h1, .int (nI zz)])), (h1, .inl (K 0, n, .inl (nA gg))), (hx0, .inr (0, [.ref hx1, .int (nI zx)])), (hx1, .inl (K 0, nx, .inl (nA gx))), (hy0, .inr (0, [.ref hy1, .int (nI zy)])), (hy1, .inl (K 0, ny, .inl (nA gy)))] → va_S A s.heap H locs → ∀ ls : Array Slot, lv_has ls 5 [(0, .ref h0), (1, .ref hx0), (2, .ref hy0), (3, .int (nI i)), (4, .int (nI j))] → W p l e ({ frames := 1, cells := 0, slots := 0, locals := 21 } : Room) s m ([.ref h0, .ref hx0, .ref hy0] : List Value).toArray below meth c H locs 0 0 (MQ below (va_Qv (q_HS_unite K h0 h1 z n g hx0 hx1 zx nx gx hy0 hy1 zy ny gy t T) (fun u t => va_P D classes u t.heap ∧ va_D A u) A) ([.ref h0, .ref hx0, .ref hy0] : List Value).toArray s 0 0 A) (F0 m 59 ls []) := by
      intro i j zz gg hi hj hu hfu hlt hle H locs hP hD hS ls hl
      refine lv_aload_n hx hb d_HS_unite_59 rfl (lv_at hl 0 rfl) ?_
      refine lv_aload_n hx hb d_HS_unite_60 rfl (lv_at hl 1 rfl) ?_
      refine xg hx hb hown htw hK hP 2 0 rfl k_HS (by decide) fl_HS_9 rfl d_HS_unite_61 ?_
      refine lv_iload_n hx hb d_HS_unite_64 rfl (lv_at hl 3 rfl) ?_
      refine xald_i hx hb hK hP 3 rfl (by omega) (by omega) d_HS_unite_65 ?_
      refine xi (y := nI (gx i)) rfl ?_
      refine xcV_v (As := [.int (nI (gx i))]) (rest := []) (wr := [(hx0, .inr (0, [.ref hx1, .int (nI zx)])), (hx1, .inl (K 0, nx, .inl (nA gx))), (hy0, .inr (0, [.ref hy1, .int (nI zy)])), (hy1, .inl (K 0, ny, .inl (nA gy)))]) hx hb hml hown htw hK hA hl.1 hP hD hS (c_HS_put l D K h0 h1 zz n gg (gx i) (by exact Nat.lt_of_le_of_lt (st_un_card hu hi hj hT) ht) (by first | assumption | omega) (by exact hgx _ (by omega)) (by exact st_un_lt hu hi hj hgx hgy)) [0, 1] [2, 3, 4, 5] rfl rfl (by decide) (by decide) (by decide) 0 rfl k_HS ml_HS_28 w_HS_put rfl ⟨by decide, by decide⟩ rfl (Nat.le_of_ble_eq_true rfl) ⟨by decide, by decide⟩ d_HS_unite_66 (fun u H locs hpost hP hD hS => ?_)
      subst hpost
      have hP : va_P D classes [(hx0, .inr (0, [.ref hx1, .int (nI zx)])), (hx1, .inl (K 0, nx, .inl (nA gx))), (hy0, .inr (0, [.ref hy1, .int (nI zy)])), (hy1, .inl (K 0, ny, .inl (nA gy))), (h0, .inr (0, [.ref h1, .int (nI (pz zz gg (gx i)))])), (h1, .inl (K 0, n, .inl (nA (pg zz gg (gx i)))))] H := hP
      have hD : va_D A [(hx0, .inr (0, [.ref hx1, .int (nI zx)])), (hx1, .inl (K 0, nx, .inl (nA gx))), (hy0, .inr (0, [.ref hy1, .int (nI zy)])), (hy1, .inl (K 0, ny, .inl (nA gy))), (h0, .inr (0, [.ref h1, .int (nI (pz zz gg (gx i)))])), (h1, .inl (K 0, n, .inl (nA (pg zz gg (gx i)))))] := hD
      refine lv_iinc (v := nI (i + 1)) (lv' := [(3, .int (nI (i + 1))), (0, .ref h0), (1, .ref hx0), (2, .ref hy0), (4, .int (nI j))]) hx hb d_HS_unite_69 hl (k := 3) rfl (inc_nI _ _) (by decide) rfl (fun ls hl => ?_)
      refine lv_goto (tgt := 9) hx hb d_HS_unite_72 (by decide) ?_
      obtain ⟨hP9, hD9⟩ := xp (ws' := [(h0, .inr (0, [.ref h1, .int (nI (pz zz gg (gx i)))])), (h1, .inl (K 0, n, .inl (nA (pg zz gg (gx i))))), (hx0, .inr (0, [.ref hx1, .int (nI zx)])), (hx1, .inl (K 0, nx, .inl (nA gx))), (hy0, .inr (0, [.ref hy1, .int (nI zy)])), (hy1, .inl (K 0, ny, .inl (nA gy)))]) hP hD [4, 5, 0, 1, 2, 3] (by decide) rfl
      exact ih (i + 1) j (pz zz gg (gx i)) (pg zz gg (gx i)) (by first | assumption | omega) (by first | assumption | omega) (by exact st_un_x hix hiy hu hlt hj hle) (by omega) _ _ hP9 hD9 hS _ (lv_sub hl [1, 2, 3, 0, 4] rfl)
    have jn_26 : ∀ i : Nat, ∀ j : Nat, ∀ zz : Nat, ∀ gg : Nat → Nat, (i ≤ zx) → (j ≤ zy) → (st_un zx gx zy gy i j zz gg) → ((zx - i) + (zy - j) < fuel + 1) → (i < zx ∨ j < zy) → ∀ (H : Heap) (locs : List Loc), va_P D classes [(h0, .inr (0, [.ref h1, .int (nI zz)])), (h1, .inl (K 0, n, .inl (nA gg))), (hx0, .inr (0, [.ref hx1, .int (nI zx)])), (hx1, .inl (K 0, nx, .inl (nA gx))), (hy0, .inr (0, [.ref hy1, .int (nI zy)])), (hy1, .inl (K 0, ny, .inl (nA gy)))] H → va_D A [(h0, .inr (0, [.ref h1, .int (nI zz)])), (h1, .inl (K 0, n, .inl (nA gg))), (hx0, .inr (0, [.ref hx1, .int (nI zx)])), (hx1, .inl (K 0, nx, .inl (nA gx))), (hy0, .inr (0, [.ref hy1, .int (nI zy)])), (hy1, .inl (K 0, ny, .inl (nA gy)))] → va_S A s.heap H locs → ∀ ls : Array Slot, lv_has ls 5 [(0, .ref h0), (1, .ref hx0), (2, .ref hy0), (3, .int (nI i)), (4, .int (nI j))] → W p l e ({ frames := 1, cells := 0, slots := 0, locals := 21 } : Room) s m ([.ref h0, .ref hx0, .ref hy0] : List Value).toArray below meth c H locs 0 0 (MQ below (va_Qv (q_HS_unite K h0 h1 z n g hx0 hx1 zx nx gx hy0 hy1 zy ny gy t T) (fun u t => va_P D classes u t.heap ∧ va_D A u) A) ([.ref h0, .ref hx0, .ref hy0] : List Value).toArray s 0 0 A) (F0 m 26 ls []) := by
      intro i j zz gg hi hj hu hfu hor H locs hP hD hS ls hl
      refine lv_iload hx hb d_HS_unite_26 (lv_at hl 4 rfl) ?_
      refine lv_aload_n hx hb d_HS_unite_28 rfl (lv_at hl 2 rfl) ?_
      refine xg hx hb hown htw hK hP 4 1 rfl k_HS (by decide) fl_HS_15 rfl d_HS_unite_29 ?_
      refine xc_ge (tgt := 59) (a := j) (b := zy) hx hb (by omega) (by omega) d_HS_unite_32 (by decide) (fun c_32 => ?_) (fun c_32 => ?_)
      · exact jn_59 i j zz gg (by first | assumption | omega) (by first | assumption | omega) (by first | assumption | omega) (by first | assumption | omega) (by first | assumption | omega) (by exact fun q => by omega) _ _ hP hD hS _ (lv_sub hl [0, 1, 2, 3, 4] rfl)
      · refine lv_iload_n hx hb d_HS_unite_35 rfl (lv_at hl 3 rfl) ?_
        refine lv_aload_n hx hb d_HS_unite_36 rfl (lv_at hl 1 rfl) ?_
        refine xg hx hb hown htw hK hP 2 1 rfl k_HS (by decide) fl_HS_15 rfl d_HS_unite_37 ?_
        refine xc_ge (tgt := 75) (a := i) (b := zx) hx hb (by omega) (by omega) d_HS_unite_40 (by decide) (fun c_40 => ?_) (fun c_40 => ?_)
        · exact jn_75 i j zz gg (by first | assumption | omega) (by first | assumption | omega) (by first | assumption | omega) (by first | assumption | omega) (by first | assumption | omega) (by exact fun q => by omega) _ _ hP hD hS _ (lv_sub hl [0, 1, 2, 3, 4] rfl)
        · refine lv_aload_n hx hb d_HS_unite_43 rfl (lv_at hl 1 rfl) ?_
          refine xg hx hb hown htw hK hP 2 0 rfl k_HS (by decide) fl_HS_9 rfl d_HS_unite_44 ?_
          refine lv_iload_n hx hb d_HS_unite_47 rfl (lv_at hl 3 rfl) ?_
          refine xald_i hx hb hK hP 3 rfl (by omega) (by omega) d_HS_unite_48 ?_
          refine xi (y := nI (gx i)) rfl ?_
          refine lv_aload_n hx hb d_HS_unite_49 rfl (lv_at hl 2 rfl) ?_
          refine xg hx hb hown htw hK hP 4 0 rfl k_HS (by decide) fl_HS_9 rfl d_HS_unite_50 ?_
          refine lv_iload hx hb d_HS_unite_53 (lv_at hl 4 rfl) ?_
          refine xald_i hx hb hK hP 5 rfl (by omega) (by omega) d_HS_unite_55 ?_
          refine xi (y := nI (gy j)) rfl ?_
          refine xc_gt (tgt := 75) (a := gx i) (b := gy j) hx hb (by exact hgx _ (by omega)) (by exact hgy _ (by omega)) d_HS_unite_56 (by decide) (fun c_56 => ?_) (fun c_56 => ?_)
          · exact jn_75 i j zz gg (by first | assumption | omega) (by first | assumption | omega) (by first | assumption | omega) (by first | assumption | omega) (by first | assumption | omega) (by exact fun _ => Nat.le_of_lt c_56) _ _ hP hD hS _ (lv_sub hl [0, 1, 2, 3, 4] rfl)
          · exact jn_59 i j zz gg (by first | assumption | omega) (by first | assumption | omega) (by first | assumption | omega) (by first | assumption | omega) (by first | assumption | omega) (by exact fun _ => c_56) _ _ hP hD hS _ (lv_sub hl [0, 1, 2, 3, 4] rfl)
    intro i j zz gg hi hj hu hfu H locs hP hD hS ls hl
    refine lv_iload_n hx hb d_HS_unite_9 rfl (lv_at hl 3 rfl) ?_
    refine lv_aload_n hx hb d_HS_unite_10 rfl (lv_at hl 1 rfl) ?_
    refine xg hx hb hown htw hK hP 2 1 rfl k_HS (by decide) fl_HS_15 rfl d_HS_unite_11 ?_
    refine xc_lt (tgt := 26) (a := i) (b := zx) hx hb (by omega) (by omega) d_HS_unite_14 (by decide) (fun c_14 => ?_) (fun c_14 => ?_)
    · exact jn_26 i j zz gg (by first | assumption | omega) (by first | assumption | omega) (by first | assumption | omega) (by first | assumption | omega) (by first | assumption | omega) _ _ hP hD hS _ (lv_sub hl [0, 1, 2, 3, 4] rfl)
    · refine lv_iload hx hb d_HS_unite_17 (lv_at hl 4 rfl) ?_
      refine lv_aload_n hx hb d_HS_unite_19 rfl (lv_at hl 2 rfl) ?_
      refine xg hx hb hown htw hK hP 4 1 rfl k_HS (by decide) fl_HS_15 rfl d_HS_unite_20 ?_
      refine xc_ge (tgt := 92) (a := j) (b := zy) hx hb (by omega) (by omega) d_HS_unite_23 (by decide) (fun c_23 => ?_) (fun c_23 => ?_)
      · have hiz : i = zx := by omega
        have hjz : j = zy := by omega
        subst hiz
        subst hjz
        exact xr_vret hx hb hr hlocks hP hD hS (Nat.le_of_ble_eq_true rfl) (Nat.le_of_ble_eq_true rfl) (⟨_, _, rfl, hu.1, hu.2.1⟩) d_HS_unite_92
      · exact jn_26 i j zz gg (by first | assumption | omega) (by first | assumption | omega) (by first | assumption | omega) (by first | assumption | omega) (by first | assumption | omega) _ _ hP hD hS _ (lv_sub hl [0, 1, 2, 3, 4] rfl)
set_option maxHeartbeats 4000000 in
set_option maxRecDepth 100000 in
theorem c_HS_unite (l : Launch) (D : va_G) (K : Nat → ClassId) (h0 : Nat) (h1 : Nat) (z : Nat) (n : Nat) (g : Nat → Nat) (hx0 : Nat) (hx1 : Nat) (zx : Nat) (nx : Nat) (gx : Nat → Nat) (hy0 : Nat) (hy1 : Nat) (zy : Nat) (ny : Nat) (gy : Nat → Nat) (t : Nat) (T : Nat → Nat) (hn : n < 2 ^ 30) (hzx : zx ≤ nx) (hnx : nx < 2 ^ 30) (hzy : zy ≤ ny) (hny : ny < 2 ^ 30) (hgx : ∀ k, k < zx → gx k < 2 ^ 31) (hgy : ∀ k, k < zy → gy k < 2 ^ 31) (hix : st_inc zx gx) (hiy : st_inc zy gy) (ht : t < n) (hT : ∀ v, (st_mem zx gx v ∨ st_mem zy gy v) → st_mem t T v) : CV l y_HS_unite b_HS_unite 5 ({ frames := 1, cells := 0, slots := 0, locals := 21 } : Room) D K [.ref h0, .ref hx0, .ref hy0] [(h0, .inr (0, [.ref h1, .int (nI z)])), (h1, .inl (K 0, n, .inl (nA g))), (hx0, .inr (0, [.ref hx1, .int (nI zx)])), (hx1, .inl (K 0, nx, .inl (nA gx))), (hy0, .inr (0, [.ref hy1, .int (nI zy)])), (hy1, .inl (K 0, ny, .inl (nA gy)))] (q_HS_unite K h0 h1 z n g hx0 hx1 zx nx gx hy0 hy1 zy ny gy t T) := by
  refine CV_of (by decide) (Nat.le_of_ble_eq_true rfl) ?_
  intro p e s m below meth c A b0 ls hF hA hP hD hl
  have hF2 := hF
  obtain ⟨hx, hb, hr, hml, hown, htw, hK, hlocks, hname⟩ := hF
  have hS : va_S A s.heap s.heap [] := va_S.rf
  have hl : lv_has ls 5 [(0, .ref h0), (1, .ref hx0), (2, .ref hy0)] := hl
  refine lv_aload_n hx hb d_HS_unite_0 rfl (lv_at hl 0 rfl) ?_
  refine xcV_v (As := []) (rest := []) (wr := [(h1, .inl (K 0, n, .inl (nA g))), (hx0, .inr (0, [.ref hx1, .int (nI zx)])), (hx1, .inl (K 0, nx, .inl (nA gx))), (hy0, .inr (0, [.ref hy1, .int (nI zy)])), (hy1, .inl (K 0, ny, .inl (nA gy)))]) hx hb hml hown htw hK hA hl.1 hP hD hS (c_HS_clear l D K h0 h1 z ) [0] [1, 2, 3, 4, 5] rfl rfl (by decide) (by decide) (by decide) 0 rfl k_HS ml_HS_25 w_HS_clear rfl ⟨by decide, by decide⟩ rfl (Nat.le_of_ble_eq_true rfl) ⟨by decide, by decide⟩ d_HS_unite_1 (fun u H locs hpost hP hD hS => ?_)
  subst hpost
  have hP : va_P D classes [(h1, .inl (K 0, n, .inl (nA g))), (hx0, .inr (0, [.ref hx1, .int (nI zx)])), (hx1, .inl (K 0, nx, .inl (nA gx))), (hy0, .inr (0, [.ref hy1, .int (nI zy)])), (hy1, .inl (K 0, ny, .inl (nA gy))), (h0, .inr (0, [.ref h1, .int (nI 0)]))] H := hP
  have hD : va_D A [(h1, .inl (K 0, n, .inl (nA g))), (hx0, .inr (0, [.ref hx1, .int (nI zx)])), (hx1, .inl (K 0, nx, .inl (nA gx))), (hy0, .inr (0, [.ref hy1, .int (nI zy)])), (hy1, .inl (K 0, ny, .inl (nA gy))), (h0, .inr (0, [.ref h1, .int (nI 0)]))] := hD
  refine lv_iconst (v := nI 0) hx hb d_HS_unite_4 (by decide) ?_
  refine lv_istore_n (lv' := [(3, .int (nI 0)), (0, .ref h0), (1, .ref hx0), (2, .ref hy0)]) hx hb d_HS_unite_5 rfl hl (by decide) rfl (fun ls hl => ?_)
  refine lv_iconst (v := nI 0) hx hb d_HS_unite_6 (by decide) ?_
  refine lv_istore (lv' := [(4, .int (nI 0)), (3, .int (nI 0)), (0, .ref h0), (1, .ref hx0), (2, .ref hy0)]) hx hb d_HS_unite_7 hl (by decide) rfl (fun ls hl => ?_)
  obtain ⟨hP9, hD9⟩ := xp (ws' := [(h0, .inr (0, [.ref h1, .int (nI 0)])), (h1, .inl (K 0, n, .inl (nA g))), (hx0, .inr (0, [.ref hx1, .int (nI zx)])), (hx1, .inl (K 0, nx, .inl (nA gx))), (hy0, .inr (0, [.ref hy1, .int (nI zy)])), (hy1, .inl (K 0, ny, .inl (nA gy)))]) hP hD [5, 0, 1, 2, 3, 4] (by decide) rfl
  exact lp_HS_unite_9 (l := l) h0 h1 z n g hx0 hx1 zx nx gx hy0 hy1 zy ny gy t T hn hzx hnx hzy hny hgx hgy hix hiy ht hT hF2 hA _ 0 0 0 g (by first | assumption | omega) (by first | assumption | omega) (by exact st_un_0) (Nat.lt_succ_self _) _ _ hP9 hD9 hS _ (lv_sub hl [2, 3, 4, 1, 0] rfl)

abbrev q_HS_endsDocument (K : Nat → ClassId) (h0 : Nat) (h1 : Nat) (z : Nat) (n : Nat) (g : Nat → Nat) (i : Nat) : Int32 → va_W → Prop := fun r u => u = [(h0, .inr (0, [.ref h1, .int (nI z)])), (h1, .inl (K 0, n, .inl (nA g)))] ∧ r = nI (bN (z ≤ i + 1 ∨ ¬ g (i + 1) / 2 ^ 14 = g i / 2 ^ 14))
set_option maxHeartbeats 4000000 in
set_option maxRecDepth 100000 in
theorem c_HS_endsDocument (l : Launch) (D : va_G) (K : Nat → ClassId) (h0 : Nat) (h1 : Nat) (z : Nat) (n : Nat) (g : Nat → Nat) (i : Nat) (hi : i < z) (hz : z ≤ n) (hn : n < 2 ^ 30) (hg1 : ∀ k, k < z → g k < 2 ^ 31) : CI l y_HS_endsDocument b_HS_endsDocument 2 .boolean ({ frames := 1, cells := 0, slots := 0, locals := 20 } : Room) D K [.ref h0, .int (nI i)] [(h0, .inr (0, [.ref h1, .int (nI z)])), (h1, .inl (K 0, n, .inl (nA g)))] (q_HS_endsDocument K h0 h1 z n g i) := by
  refine CI_of (by decide) (Nat.le_of_ble_eq_true rfl) ?_
  intro p e s m below meth c A b0 ls hF hA hP hD hl
  have hF2 := hF
  obtain ⟨hx, hb, hr, hml, hown, htw, hK, hlocks, hname⟩ := hF
  have jn_37 : (¬ (z ≤ i + 1 ∨ ¬ g (i + 1) / 2 ^ 14 = g i / 2 ^ 14)) → ∀ (H : Heap) (locs : List Loc), va_P D classes [(h0, .inr (0, [.ref h1, .int (nI z)])), (h1, .inl (K 0, n, .inl (nA g)))] H → va_D A [(h0, .inr (0, [.ref h1, .int (nI z)])), (h1, .inl (K 0, n, .inl (nA g)))] → va_S A s.heap H locs → ∀ ls : Array Slot, lv_has ls 2 [] → W p l e ({ frames := 1, cells := 0, slots := 0, locals := 20 } : Room) s m ([.ref h0, .int (nI i)] : List Value).toArray below meth c H locs 0 0 (MQ below (va_Qi (q_HS_endsDocument K h0 h1 z n g i) (fun u t => va_P D classes u t.heap ∧ va_D A u) A) ([.ref h0, .int (nI i)] : List Value).toArray s 0 0 A) (F0 m 37 ls []) := by
    intro hb0 H locs hP hD hS ls hl
    refine lv_iconst (v := nI 0) hx hb d_HS_endsDocument_37 (by decide) ?_
    exact xr_zret (by first | exact Or.inl rfl | exact Or.inr rfl | exact bN_v _) hx hb hr hlocks hP hD hS (Nat.le_of_ble_eq_true rfl) (Nat.le_of_ble_eq_true rfl) (⟨rfl, by first | rw [bN_t hb1] | rw [bN_f hb0]⟩) d_HS_endsDocument_38
  have jn_33 : (z ≤ i + 1 ∨ ¬ g (i + 1) / 2 ^ 14 = g i / 2 ^ 14) → ∀ (H : Heap) (locs : List Loc), va_P D classes [(h0, .inr (0, [.ref h1, .int (nI z)])), (h1, .inl (K 0, n, .inl (nA g)))] H → va_D A [(h0, .inr (0, [.ref h1, .int (nI z)])), (h1, .inl (K 0, n, .inl (nA g)))] → va_S A s.heap H locs → ∀ ls : Array Slot, lv_has ls 2 [] → W p l e ({ frames := 1, cells := 0, slots := 0, locals := 20 } : Room) s m ([.ref h0, .int (nI i)] : List Value).toArray below meth c H locs 0 0 (MQ below (va_Qi (q_HS_endsDocument K h0 h1 z n g i) (fun u t => va_P D classes u t.heap ∧ va_D A u) A) ([.ref h0, .int (nI i)] : List Value).toArray s 0 0 A) (F0 m 33 ls []) := by
    intro hb1 H locs hP hD hS ls hl
    refine lv_iconst (v := nI 1) hx hb d_HS_endsDocument_33 (by decide) ?_
    refine lv_goto (tgt := 38) hx hb d_HS_endsDocument_34 (by decide) ?_
    exact xr_zret (by first | exact Or.inl rfl | exact Or.inr rfl | exact bN_v _) hx hb hr hlocks hP hD hS (Nat.le_of_ble_eq_true rfl) (Nat.le_of_ble_eq_true rfl) (⟨rfl, by first | rw [bN_t hb1] | rw [bN_f hb0]⟩) d_HS_endsDocument_38
  have hS : va_S A s.heap s.heap [] := va_S.rf
  have hl : lv_has ls 2 [(0, .ref h0), (1, .int (nI i))] := hl
  refine lv_iload_n hx hb d_HS_endsDocument_0 rfl (lv_at hl 1 rfl) ?_
  refine lv_iconst (v := nI 1) hx hb d_HS_endsDocument_1 (by decide) ?_
  refine lv_iadd hx hb d_HS_endsDocument_2 ?_
  refine xi (nI_add i 1) ?_
  refine lv_aload_n hx hb d_HS_endsDocument_3 rfl (lv_at hl 0 rfl) ?_
  refine xg hx hb hown htw hK hP 0 1 rfl k_HS (by decide) fl_HS_15 rfl d_HS_endsDocument_4 ?_
  refine xc_ge (tgt := 33) (a := i + 1) (b := z) hx hb (by omega) (by omega) d_HS_endsDocument_7 (by decide) (fun c_7 => ?_) (fun c_7 => ?_)
  · exact jn_33  (by exact Or.inl c_7) _ _ hP hD hS _ (lv_sub hl [] rfl)
  · refine lv_aload_n hx hb d_HS_endsDocument_10 rfl (lv_at hl 0 rfl) ?_
    refine xg hx hb hown htw hK hP 0 0 rfl k_HS (by decide) fl_HS_9 rfl d_HS_endsDocument_11 ?_
    refine lv_iload_n hx hb d_HS_endsDocument_14 rfl (lv_at hl 1 rfl) ?_
    refine lv_iconst (v := nI 1) hx hb d_HS_endsDocument_15 (by decide) ?_
    refine lv_iadd hx hb d_HS_endsDocument_16 ?_
    refine xi (nI_add i 1) ?_
    refine xald_i hx hb hK hP 1 rfl (by omega) (by omega) d_HS_endsDocument_17 ?_
    refine xi (y := nI (g (i + 1))) rfl ?_
    refine xcSN_i (As := [.int (nI (g (i + 1)))]) (rest := []) (wr := [(h0, .inr (0, [.ref h1, .int (nI z)])), (h1, .inl (K 0, n, .inl (nA g)))]) hx hb hml hown htw hK hA hl.1 hP hD hS (c_SI_documentOf l D K (g (i + 1)) (by exact hg1 _ (by omega))) [] [0, 1] rfl rfl (by decide) (by decide) (by decide) ml_HS_32 w_SI_documentOf rfl ⟨by decide, by decide⟩ rfl (Nat.le_of_ble_eq_true rfl) ⟨by decide, by decide⟩ d_HS_endsDocument_18 (fun r u H locs hpost hP hD hS => ?_)
    obtain ⟨rfl, rfl⟩ := hpost
    have hP : va_P D classes [(h0, .inr (0, [.ref h1, .int (nI z)])), (h1, .inl (K 0, n, .inl (nA g)))] H := hP
    have hD : va_D A [(h0, .inr (0, [.ref h1, .int (nI z)])), (h1, .inl (K 0, n, .inl (nA g)))] := hD
    refine lv_aload_n hx hb d_HS_endsDocument_21 rfl (lv_at hl 0 rfl) ?_
    refine xg hx hb hown htw hK hP 0 0 rfl k_HS (by decide) fl_HS_9 rfl d_HS_endsDocument_22 ?_
    refine lv_iload_n hx hb d_HS_endsDocument_25 rfl (lv_at hl 1 rfl) ?_
    refine xald_i hx hb hK hP 1 rfl (by omega) (by omega) d_HS_endsDocument_26 ?_
    refine xi (y := nI (g i)) rfl ?_
    refine xcSN_i (As := [.int (nI (g i))]) (rest := [.int (nI ((g (i + 1)) / 2 ^ 14))]) (wr := [(h0, .inr (0, [.ref h1, .int (nI z)])), (h1, .inl (K 0, n, .inl (nA g)))]) hx hb hml hown htw hK hA hl.1 hP hD hS (c_SI_documentOf l D K (g i) (by exact hg1 _ (by omega))) [] [0, 1] rfl rfl (by decide) (by decide) (by decide) ml_HS_32 w_SI_documentOf rfl ⟨by decide, by decide⟩ rfl (Nat.le_of_ble_eq_true rfl) ⟨by decide, by decide⟩ d_HS_endsDocument_27 (fun r u H locs hpost hP hD hS => ?_)
    obtain ⟨rfl, rfl⟩ := hpost
    have hP : va_P D classes [(h0, .inr (0, [.ref h1, .int (nI z)])), (h1, .inl (K 0, n, .inl (nA g)))] H := hP
    have hD : va_D A [(h0, .inr (0, [.ref h1, .int (nI z)])), (h1, .inl (K 0, n, .inl (nA g)))] := hD
    refine xc_eq (tgt := 37) (a := (g (i + 1)) / 2 ^ 14) (b := (g i) / 2 ^ 14) hx hb (by have := hg1 (i + 1) (by omega); omega) (by have := hg1 i (by omega); omega) d_HS_endsDocument_30 (by decide) (fun c_30 => ?_) (fun c_30 => ?_)
    · exact jn_37  (by exact fun q => q.elim (fun q => by omega) (fun q => q c_30)) _ _ hP hD hS _ (lv_sub hl [] rfl)
    · exact jn_33  (by exact Or.inr c_30) _ _ hP hD hS _ (lv_sub hl [] rfl)

abbrev q_HS_hasWithin (K : Nat → ClassId) (h0 : Nat) (h1 : Nat) (z : Nat) (n : Nat) (g : Nat → Nat) (lo : Nat) (hi : Int) : Int32 → va_W → Prop := fun r u => u = [(h0, .inr (0, [.ref h1, .int (nI z)])), (h1, .inl (K 0, n, .inl (nA g)))] ∧ r = nI (bN (∃ k, k < z ∧ lo ≤ g k ∧ ((g k : Nat) : Int) ≤ hi))
set_option maxHeartbeats 4000000 in
set_option maxRecDepth 100000 in
theorem lp_HS_hasWithin_8 {p : Program} {l : Launch} {e : Env} {s : State} {m : MethodId} {below : List Frame} {meth : Method} {c : Code} {A : Nat → Prop} {D : va_G} {K : Nat → ClassId} (h0 : Nat) (h1 : Nat) (z : Nat) (n : Nat) (g : Nat → Nat) (lo : Nat) (hi : Int) (hz : z ≤ n) (hn : n < 2 ^ 30) (hg1 : ∀ k, k < z → g k < 2 ^ 31) (hin : st_inc z g) (hlo : lo < 2 ^ 31) (hh1 : -(2 ^ 31) ≤ hi) (hh2 : hi < 2 ^ 31) (hF : Fx p s m meth c y_HS_hasWithin b_HS_hasWithin 6 (some .boolean) D K) {b0 : Nat} (hA : AS K s A b0) : ∀ fuel : Nat, ∀ lw : Nat, ∀ hg : Nat, (lw ≤ hg) → (hg ≤ z) → (∀ k, k < lw → g k < lo) → (∀ k, hg ≤ k → k < z → lo ≤ g k) → hg - lw < fuel → ∀ (H : Heap) (locs : List Loc), va_P D classes [(h0, .inr (0, [.ref h1, .int (nI z)])), (h1, .inl (K 0, n, .inl (nA g)))] H → va_D A [(h0, .inr (0, [.ref h1, .int (nI z)])), (h1, .inl (K 0, n, .inl (nA g)))] → va_S A s.heap H locs → ∀ ls : Array Slot, lv_has ls 6 [(0, .ref h0), (1, .int (nI lo)), (2, .int (zI hi)), (3, .int (nI lw)), (4, .int (nI hg))] → W p l e ({ frames := 0, cells := 0, slots := 0, locals := 0 } : Room) s m ([.ref h0, .int (nI lo), .int (zI hi)] : List Value).toArray below meth c H locs 0 0 (MQ below (va_Qi (q_HS_hasWithin K h0 h1 z n g lo hi) (fun u t => va_P D classes u t.heap ∧ va_D A u) A) ([.ref h0, .int (nI lo), .int (zI hi)] : List Value).toArray s 0 0 A) (F0 m 8 ls []) := by
  have hF2 := hF
  obtain ⟨hx, hb, hr, hml, hown, htw, hK, hlocks, hname⟩ := hF
  intro fuel
  induction fuel with
  | zero => intros; omega
  | succ fuel ih =>
    have jn_70 : (¬ (∃ k, k < z ∧ lo ≤ g k ∧ ((g k : Nat) : Int) ≤ hi)) → ∀ (H : Heap) (locs : List Loc), va_P D classes [(h0, .inr (0, [.ref h1, .int (nI z)])), (h1, .inl (K 0, n, .inl (nA g)))] H → va_D A [(h0, .inr (0, [.ref h1, .int (nI z)])), (h1, .inl (K 0, n, .inl (nA g)))] → va_S A s.heap H locs → ∀ ls : Array Slot, lv_has ls 6 [] → W p l e ({ frames := 0, cells := 0, slots := 0, locals := 0 } : Room) s m ([.ref h0, .int (nI lo), .int (zI hi)] : List Value).toArray below meth c H locs 0 0 (MQ below (va_Qi (q_HS_hasWithin K h0 h1 z n g lo hi) (fun u t => va_P D classes u t.heap ∧ va_D A u) A) ([.ref h0, .int (nI lo), .int (zI hi)] : List Value).toArray s 0 0 A) (F0 m 70 ls []) := by
      intro hno H locs hP hD hS ls hl
      refine lv_iconst (v := nI 0) hx hb d_HS_hasWithin_70 (by decide) ?_
      exact xr_zret (by first | exact Or.inl rfl | exact Or.inr rfl | exact bN_v _) hx hb hr hlocks hP hD hS (Nat.le_of_ble_eq_true rfl) (Nat.le_of_ble_eq_true rfl) (⟨rfl, by first | rw [bN_t hyes] | rw [bN_f hno]⟩) d_HS_hasWithin_71
    intro lw hg h12 h2 ha hb9 hfu H locs hP hD hS ls hl
    refine lv_iload_n hx hb d_HS_hasWithin_8 rfl (lv_at hl 3 rfl) ?_
    refine lv_iload hx hb d_HS_hasWithin_9 (lv_at hl 4 rfl) ?_
    refine xc_ge (tgt := 48) (a := lw) (b := hg) hx hb (by omega) (by omega) d_HS_hasWithin_11 (by decide) (fun c_11 => ?_) (fun c_11 => ?_)
    · refine lv_iload_n hx hb d_HS_hasWithin_48 rfl (lv_at hl 3 rfl) ?_
      refine lv_aload_n hx hb d_HS_hasWithin_49 rfl (lv_at hl 0 rfl) ?_
      refine xg hx hb hown htw hK hP 0 1 rfl k_HS (by decide) fl_HS_15 rfl d_HS_hasWithin_50 ?_
      refine xc_ge (tgt := 70) (a := lw) (b := z) hx hb (by omega) (by omega) d_HS_hasWithin_53 (by decide) (fun c_53 => ?_) (fun c_53 => ?_)
      · exact jn_70  (by exact fun q => by obtain ⟨k, k1, k2, k3⟩ := q; have := ha k (by omega); omega) _ _ hP hD hS _ (lv_sub hl [] rfl)
      · refine lv_aload_n hx hb d_HS_hasWithin_56 rfl (lv_at hl 0 rfl) ?_
        refine xg hx hb hown htw hK hP 0 0 rfl k_HS (by decide) fl_HS_9 rfl d_HS_hasWithin_57 ?_
        refine lv_iload_n hx hb d_HS_hasWithin_60 rfl (lv_at hl 3 rfl) ?_
        refine xald_i hx hb hK hP 1 rfl (by omega) (by omega) d_HS_hasWithin_61 ?_
        refine xi (y := nI (g lw)) rfl ?_
        refine lv_iload_n hx hb d_HS_hasWithin_62 rfl (lv_at hl 2 rfl) ?_
        refine lv_icmp_gt (tgt := 70) hx hb d_HS_hasWithin_63 (by decide) (fun c_63 => ?_) (fun c_63 => ?_)
        · rw [nI_zI] at c_63
          have hgl := hg1 lw (by omega)
          have c_63 := (zI_lt hh1 hh2 (by omega) (by omega)).mp c_63
          exact jn_70  (by exact fun q => by obtain ⟨k, k1, k2, k3⟩ := q; rcases Nat.lt_or_ge k lw with w | w; (have := ha k w; omega); (have := st_le hin w k1; omega)) _ _ hP hD hS _ (lv_sub hl [] rfl)
        · rw [nI_zI] at c_63
          have hgl := hg1 lw (by omega)
          have c_63 := Int.not_lt.mp (fun w => c_63 ((zI_lt hh1 hh2 (by omega) (by omega)).mpr w))
          have hyes : ∃ k, k < z ∧ lo ≤ g k ∧ ((g k : Nat) : Int) ≤ hi := ⟨lw, by omega, hb9 lw (by omega) (by omega), c_63⟩
          refine lv_iconst (v := nI 1) hx hb d_HS_hasWithin_66 (by decide) ?_
          refine lv_goto (tgt := 71) hx hb d_HS_hasWithin_67 (by decide) ?_
          exact xr_zret (by first | exact Or.inl rfl | exact Or.inr rfl | exact bN_v _) hx hb hr hlocks hP hD hS (Nat.le_of_ble_eq_true rfl) (Nat.le_of_ble_eq_true rfl) (⟨rfl, by first | rw [bN_t hyes] | rw [bN_f hno]⟩) d_HS_hasWithin_71
    · refine lv_iload_n hx hb d_HS_hasWithin_14 rfl (lv_at hl 3 rfl) ?_
      refine lv_iload hx hb d_HS_hasWithin_15 (lv_at hl 4 rfl) ?_
      refine lv_iadd hx hb d_HS_hasWithin_17 ?_
      refine xi (nI_add lw hg) ?_
      refine lv_iconst (v := nI 1) hx hb d_HS_hasWithin_18 (by decide) ?_
      refine lv_iushr (v := nI ((lw + hg) / 2 ^ 1)) hx hb d_HS_hasWithin_19 (pk_ushrN (by omega) _ 1 (by decide)) ?_
      refine lv_istore (lv' := [(5, .int (nI ((lw + hg) / 2 ^ 1))), (0, .ref h0), (1, .int (nI lo)), (2, .int (zI hi)), (3, .int (nI lw)), (4, .int (nI hg))]) hx hb d_HS_hasWithin_20 hl (by decide) rfl (fun ls hl => ?_)
      refine lv_aload_n hx hb d_HS_hasWithin_22 rfl (lv_at hl 1 rfl) ?_
      refine xg hx hb hown htw hK hP 0 0 rfl k_HS (by decide) fl_HS_9 rfl d_HS_hasWithin_23 ?_
      refine lv_iload hx hb d_HS_hasWithin_26 (lv_at hl 0 rfl) ?_
      refine xald_i hx hb hK hP 1 rfl (by omega) (by omega) d_HS_hasWithin_28 ?_
      refine xi (y := nI (g ((lw + hg) / 2 ^ 1))) rfl ?_
      refine lv_iload_n hx hb d_HS_hasWithin_29 rfl (lv_at hl 2 rfl) ?_
      refine xc_ge (tgt := 41) (a := g ((lw + hg) / 2 ^ 1)) (b := lo) hx hb (by exact hg1 _ (by omega)) (by omega) d_HS_hasWithin_30 (by decide) (fun c_30 => ?_) (fun c_30 => ?_)
      · refine lv_iload hx hb d_HS_hasWithin_41 (lv_at hl 0 rfl) ?_
        refine lv_istore (lv' := [(4, .int (nI ((lw + hg) / 2 ^ 1))), (5, .int (nI ((lw + hg) / 2 ^ 1))), (0, .ref h0), (1, .int (nI lo)), (2, .int (zI hi)), (3, .int (nI lw))]) hx hb d_HS_hasWithin_43 hl (by decide) rfl (fun ls hl => ?_)
        refine lv_goto (tgt := 8) hx hb d_HS_hasWithin_45 (by decide) ?_
        exact ih lw ((lw + hg) / 2 ^ 1) (by first | assumption | omega) (by first | assumption | omega) (by first | assumption | exact fun k hk => Nat.lt_of_le_of_lt (st_le hin (by omega) (by omega)) c_30) (by first | assumption | exact fun k h1 h2 => Nat.le_trans c_30 (st_le hin (by omega) (by omega))) (by omega) _ _ hP hD hS _ (lv_sub hl [2, 3, 4, 5, 0] rfl)
      · refine lv_iload hx hb d_HS_hasWithin_33 (lv_at hl 0 rfl) ?_
        refine lv_iconst (v := nI 1) hx hb d_HS_hasWithin_35 (by decide) ?_
        refine lv_iadd hx hb d_HS_hasWithin_36 ?_
        refine xi (nI_add ((lw + hg) / 2 ^ 1) 1) ?_
        refine lv_istore_n (lv' := [(3, .int (nI (((lw + hg) / 2 ^ 1) + 1))), (5, .int (nI ((lw + hg) / 2 ^ 1))), (0, .ref h0), (1, .int (nI lo)), (2, .int (zI hi)), (4, .int (nI hg))]) hx hb d_HS_hasWithin_37 rfl hl (by decide) rfl (fun ls hl => ?_)
        refine lv_goto (tgt := 45) hx hb d_HS_hasWithin_38 (by decide) ?_
        refine lv_goto (tgt := 8) hx hb d_HS_hasWithin_45 (by decide) ?_
        exact ih (((lw + hg) / 2 ^ 1) + 1) hg (by first | assumption | omega) (by first | assumption | omega) (by first | assumption | exact fun k hk => Nat.lt_of_le_of_lt (st_le hin (by omega) (by omega)) c_30) (by first | assumption | exact fun k h1 h2 => Nat.le_trans c_30 (st_le hin (by omega) (by omega))) (by omega) _ _ hP hD hS _ (lv_sub hl [2, 3, 4, 0, 5] rfl)
set_option maxHeartbeats 4000000 in
set_option maxRecDepth 100000 in
theorem c_HS_hasWithin (l : Launch) (D : va_G) (K : Nat → ClassId) (h0 : Nat) (h1 : Nat) (z : Nat) (n : Nat) (g : Nat → Nat) (lo : Nat) (hi : Int) (hz : z ≤ n) (hn : n < 2 ^ 30) (hg1 : ∀ k, k < z → g k < 2 ^ 31) (hin : st_inc z g) (hlo : lo < 2 ^ 31) (hh1 : -(2 ^ 31) ≤ hi) (hh2 : hi < 2 ^ 31) : CI l y_HS_hasWithin b_HS_hasWithin 6 .boolean ({ frames := 0, cells := 0, slots := 0, locals := 0 } : Room) D K [.ref h0, .int (nI lo), .int (zI hi)] [(h0, .inr (0, [.ref h1, .int (nI z)])), (h1, .inl (K 0, n, .inl (nA g)))] (q_HS_hasWithin K h0 h1 z n g lo hi) := by
  refine CI_of (by decide) (Nat.le_of_ble_eq_true rfl) ?_
  intro p e s m below meth c A b0 ls hF hA hP hD hl
  have hF2 := hF
  obtain ⟨hx, hb, hr, hml, hown, htw, hK, hlocks, hname⟩ := hF
  have hS : va_S A s.heap s.heap [] := va_S.rf
  have hl : lv_has ls 6 [(0, .ref h0), (1, .int (nI lo)), (2, .int (zI hi))] := hl
  refine lv_iconst (v := nI 0) hx hb d_HS_hasWithin_0 (by decide) ?_
  refine lv_istore_n (lv' := [(3, .int (nI 0)), (0, .ref h0), (1, .int (nI lo)), (2, .int (zI hi))]) hx hb d_HS_hasWithin_1 rfl hl (by decide) rfl (fun ls hl => ?_)
  refine lv_aload_n hx hb d_HS_hasWithin_2 rfl (lv_at hl 1 rfl) ?_
  refine xg hx hb hown htw hK hP 0 1 rfl k_HS (by decide) fl_HS_15 rfl d_HS_hasWithin_3 ?_
  refine lv_istore (lv' := [(4, .int (nI z)), (3, .int (nI 0)), (0, .ref h0), (1, .int (nI lo)), (2, .int (zI hi))]) hx hb d_HS_hasWithin_6 hl (by decide) rfl (fun ls hl => ?_)
  exact lp_HS_hasWithin_8 (l := l) h0 h1 z n g lo hi hz hn hg1 hin hlo hh1 hh2 hF2 hA _ 0 z (by first | assumption | omega) (by first | assumption | omega) (by exact fun k hk => by omega) (by exact fun k h1 h2 => by omega) (Nat.lt_succ_self _) _ _ hP hD hS _ (lv_sub hl [2, 3, 4, 1, 0] rfl)

abbrev q_HS_hasDocument (K : Nat → ClassId) (h0 : Nat) (h1 : Nat) (z : Nat) (n : Nat) (g : Nat → Nat) (d : Nat) : Int32 → va_W → Prop := fun r u => u = [(h0, .inr (0, [.ref h1, .int (nI z)])), (h1, .inl (K 0, n, .inl (nA g)))] ∧ r = nI (bN (∃ k, k < z ∧ g k / 2 ^ 14 = d))
set_option maxHeartbeats 4000000 in
set_option maxRecDepth 100000 in
theorem c_HS_hasDocument (l : Launch) (D : va_G) (K : Nat → ClassId) (h0 : Nat) (h1 : Nat) (z : Nat) (n : Nat) (g : Nat → Nat) (d : Nat) (hz : z ≤ n) (hn : n < 2 ^ 30) (hg1 : ∀ k, k < z → g k < 2 ^ 24) (hin : st_inc z g) (hd : d < 2 ^ 10) : CI l y_HS_hasDocument b_HS_hasDocument 2 .boolean ({ frames := 1, cells := 0, slots := 0, locals := 25 } : Room) D K [.ref h0, .int (nI d)] [(h0, .inr (0, [.ref h1, .int (nI z)])), (h1, .inl (K 0, n, .inl (nA g)))] (q_HS_hasDocument K h0 h1 z n g d) := by
  refine CI_of (by decide) (Nat.le_of_ble_eq_true rfl) ?_
  intro p e s m below meth c A b0 ls hF hA hP hD hl
  have hF2 := hF
  obtain ⟨hx, hb, hr, hml, hown, htw, hK, hlocks, hname⟩ := hF
  have hS : va_S A s.heap s.heap [] := va_S.rf
  have hl : lv_has ls 2 [(0, .ref h0), (1, .int (nI d))] := hl
  refine lv_aload_n hx hb d_HS_hasDocument_0 rfl (lv_at hl 0 rfl) ?_
  refine lv_iload_n hx hb d_HS_hasDocument_1 rfl (lv_at hl 1 rfl) ?_
  refine lv_iconst (v := nI 0) hx hb d_HS_hasDocument_2 (by decide) ?_
  refine lv_iconst (v := nI 0) hx hb d_HS_hasDocument_3 (by decide) ?_
  refine xcSN_i (As := [.int (nI d), .int (nI 0), .int (nI 0)]) (rest := [.ref h0]) (wr := [(h0, .inr (0, [.ref h1, .int (nI z)])), (h1, .inl (K 0, n, .inl (nA g)))]) hx hb hml hown htw hK hA hl.1 hP hD hS (c_SI_hitOf l D K d 0 0 (by first | assumption | omega) (by first | assumption | omega) (by first | assumption | omega)) [] [0, 1] rfl rfl (by decide) (by decide) (by decide) ml_HS_36 w_SI_hitOf rfl ⟨by decide, by decide⟩ rfl (Nat.le_of_ble_eq_true rfl) ⟨by decide, by decide⟩ d_HS_hasDocument_4 (fun r u H locs hpost hP hD hS => ?_)
  obtain ⟨rfl, rfl⟩ := hpost
  have hP : va_P D classes [(h0, .inr (0, [.ref h1, .int (nI z)])), (h1, .inl (K 0, n, .inl (nA g)))] H := hP
  have hD : va_D A [(h0, .inr (0, [.ref h1, .int (nI z)])), (h1, .inl (K 0, n, .inl (nA g)))] := hD
  refine lv_iload_n hx hb d_HS_hasDocument_7 rfl (lv_at hl 1 rfl) ?_
  refine lv_iconst (v := nI 3) hx hb d_HS_hasDocument_8 (by decide) ?_
  refine lv_sipush (v := nI 4095) hx hb d_HS_hasDocument_9 (by decide) ?_
  refine xcSN_i (As := [.int (nI d), .int (nI 3), .int (nI 4095)]) (rest := [.int (nI ((d * 2 ^ 2 + 0) * 2 ^ 12 + 0)), .ref h0]) (wr := [(h0, .inr (0, [.ref h1, .int (nI z)])), (h1, .inl (K 0, n, .inl (nA g)))]) hx hb hml hown htw hK hA hl.1 hP hD hS (c_SI_hitOf l D K d 3 4095 (by first | assumption | omega) (by first | assumption | omega) (by first | assumption | omega)) [] [0, 1] rfl rfl (by decide) (by decide) (by decide) ml_HS_36 w_SI_hitOf rfl ⟨by decide, by decide⟩ rfl (Nat.le_of_ble_eq_true rfl) ⟨by decide, by decide⟩ d_HS_hasDocument_12 (fun r u H locs hpost hP hD hS => ?_)
  obtain ⟨rfl, rfl⟩ := hpost
  have hP : va_P D classes [(h0, .inr (0, [.ref h1, .int (nI z)])), (h1, .inl (K 0, n, .inl (nA g)))] H := hP
  have hD : va_D A [(h0, .inr (0, [.ref h1, .int (nI z)])), (h1, .inl (K 0, n, .inl (nA g)))] := hD
  refine xi (y := zI ((((d * 2 ^ 2 + 3) * 2 ^ 12 + 4095 : Nat)) : Int)) (nI_zI _) ?_
  refine xcV_i (As := [.int (nI ((d * 2 ^ 2 + 0) * 2 ^ 12 + 0)), .int (zI ((((d * 2 ^ 2 + 3) * 2 ^ 12 + 4095 : Nat)) : Int))]) (rest := []) (wr := []) hx hb hml hown htw hK hA hl.1 hP hD hS (c_HS_hasWithin l D K h0 h1 z n g ((d * 2 ^ 2 + 0) * 2 ^ 12 + 0) ((((d * 2 ^ 2 + 3) * 2 ^ 12 + 4095 : Nat)) : Int) (by first | assumption | omega) (by first | assumption | omega) (by exact fun k hk => Nat.lt_trans (hg1 k hk) (by decide)) (by first | assumption | omega) (by first | assumption | omega) (by first | assumption | omega) (by first | assumption | omega)) [0, 1] [] rfl rfl (by decide) (by decide) (by decide) 0 rfl k_HS ml_HS_40 w_HS_hasWithin rfl ⟨by decide, by decide⟩ rfl (Nat.le_of_ble_eq_true rfl) ⟨by decide, by decide⟩ d_HS_hasDocument_15 (fun r u H locs hpost hP hD hS => ?_)
  obtain ⟨rfl, rfl⟩ := hpost
  have hP : va_P D classes [(h0, .inr (0, [.ref h1, .int (nI z)])), (h1, .inl (K 0, n, .inl (nA g)))] H := hP
  have hD : va_D A [(h0, .inr (0, [.ref h1, .int (nI z)])), (h1, .inl (K 0, n, .inl (nA g)))] := hD
  exact xr_zret (by first | exact Or.inl rfl | exact Or.inr rfl | exact bN_v _) hx hb hr hlocks hP hD hS (Nat.le_of_ble_eq_true rfl) (Nat.le_of_ble_eq_true rfl) (⟨rfl, congrArg nI (bN_congr ⟨fun q => by obtain ⟨k, k1, k2, k3⟩ := q; exact ⟨k, k1, by omega⟩, fun q => by obtain ⟨k, k1, k2⟩ := q; exact ⟨k, k1, by omega, by omega⟩⟩)⟩) d_HS_hasDocument_18

abbrev q_HS_hasAtDistance (K : Nat → ClassId) (h0 : Nat) (h1 : Nat) (z : Nat) (n : Nat) (g : Nat → Nat) (h : Nat) (a : Int) (b : Int) : Int32 → va_W → Prop := fun r u => u = [(h0, .inr (0, [.ref h1, .int (nI z)])), (h1, .inl (K 0, n, .inl (nA g)))] ∧ r = nI (bN (∃ k, k < z ∧ g k / 2 ^ 12 = h / 2 ^ 12 ∧ a ≤ ((g k : Nat) : Int) - h ∧ ((g k : Nat) : Int) - h ≤ b))
set_option maxHeartbeats 4000000 in
set_option maxRecDepth 100000 in
theorem c_HS_hasAtDistance (l : Launch) (D : va_G) (K : Nat → ClassId) (h0 : Nat) (h1 : Nat) (z : Nat) (n : Nat) (g : Nat → Nat) (h : Nat) (a : Int) (b : Int) (hz : z ≤ n) (hn : n < 2 ^ 30) (hg1 : ∀ k, k < z → g k < 2 ^ 24) (hin : st_inc z g) (hh : h < 2 ^ 24) (ha1 : -100 ≤ a) (ha2 : a ≤ 100) (hb1 : -100 ≤ b) (hb2 : b ≤ 100) : CI l y_HS_hasAtDistance b_HS_hasAtDistance 8 .boolean ({ frames := 1, cells := 0, slots := 0, locals := 29 } : Room) D K [.ref h0, .int (nI h), .int (zI a), .int (zI b)] [(h0, .inr (0, [.ref h1, .int (nI z)])), (h1, .inl (K 0, n, .inl (nA g)))] (q_HS_hasAtDistance K h0 h1 z n g h a b) := by
  refine CI_of (by decide) (Nat.le_of_ble_eq_true rfl) ?_
  intro p e s m below meth c A b0 ls hF hA hP hD hl
  have hF2 := hF
  obtain ⟨hx, hb, hr, hml, hown, htw, hK, hlocks, hname⟩ := hF
  have hS : va_S A s.heap s.heap [] := va_S.rf
  have hl : lv_has ls 8 [(0, .ref h0), (1, .int (nI h)), (2, .int (zI a)), (3, .int (zI b))] := hl
  refine lv_iload_n hx hb d_HS_hasAtDistance_0 rfl (lv_at hl 1 rfl) ?_
  refine xcSN_i (As := [.int (nI h)]) (rest := []) (wr := [(h0, .inr (0, [.ref h1, .int (nI z)])), (h1, .inl (K 0, n, .inl (nA g)))]) hx hb hml hown htw hK hA hl.1 hP hD hS (c_SI_placeOf l D K h (by first | assumption | omega)) [] [0, 1] rfl rfl (by decide) (by decide) (by decide) ml_HS_44 w_SI_placeOf rfl ⟨by decide, by decide⟩ rfl (Nat.le_of_ble_eq_true rfl) ⟨by decide, by decide⟩ d_HS_hasAtDistance_1 (fun r u H locs hpost hP hD hS => ?_)
  obtain ⟨rfl, rfl⟩ := hpost
  have hP : va_P D classes [(h0, .inr (0, [.ref h1, .int (nI z)])), (h1, .inl (K 0, n, .inl (nA g)))] H := hP
  have hD : va_D A [(h0, .inr (0, [.ref h1, .int (nI z)])), (h1, .inl (K 0, n, .inl (nA g)))] := hD
  refine lv_istore (lv' := [(4, .int (nI (h % 2 ^ 12))), (0, .ref h0), (1, .int (nI h)), (2, .int (zI a)), (3, .int (zI b))]) hx hb d_HS_hasAtDistance_4 hl (by decide) rfl (fun ls hl => ?_)
  refine lv_iload_n hx hb d_HS_hasAtDistance_6 rfl (lv_at hl 2 rfl) ?_
  refine lv_iload hx hb d_HS_hasAtDistance_7 (lv_at hl 0 rfl) ?_
  refine lv_isub hx hb d_HS_hasAtDistance_9 ?_
  refine xi (nI_sub (a := h) (b := h % 2 ^ 12) (by exact Nat.mod_le _ _)) ?_
  refine lv_istore (lv' := [(5, .int (nI (h - (h % 2 ^ 12)))), (4, .int (nI (h % 2 ^ 12))), (0, .ref h0), (1, .int (nI h)), (2, .int (zI a)), (3, .int (zI b))]) hx hb d_HS_hasAtDistance_10 hl (by decide) rfl (fun ls hl => ?_)
  refine lv_iload hx hb d_HS_hasAtDistance_12 (lv_at hl 1 rfl) ?_
  refine lv_iload_n hx hb d_HS_hasAtDistance_14 rfl (lv_at hl 4 rfl) ?_
  refine lv_iadd hx hb d_HS_hasAtDistance_15 ?_
  refine xi (y := zI ((((h % 2 ^ 12 : Nat)) : Int) + a)) ((congrArg (· + zI a) (nI_zI _)).trans (zI_add _ _)) ?_
  refine lv_iconst (v := nI 0) hx hb d_HS_hasAtDistance_16 (by decide) ?_
  refine va_mmax hx hb (by rw [hml]; exact hl.1.symm) hown (htw _ ml_HS_47 _) (htw _ w_Ma_max.1 _) (htw _ w_Ma_max.2.1 _) (htw _ w_Ma_max.2.2.1 _) (Nat.le_of_ble_eq_true rfl) (Nat.le_of_ble_eq_true rfl) (Nat.le_of_ble_eq_true rfl) (Nat.le_of_ble_eq_true rfl) d_HS_hasAtDistance_17 ?_
  refine xi (y := nI (((((h % 2 ^ 12 : Nat)) : Int) + a).toNat)) (mx_zI (by omega) (by omega)) ?_
  refine lv_istore (lv' := [(6, .int (nI (((((h % 2 ^ 12 : Nat)) : Int) + a).toNat))), (5, .int (nI (h - (h % 2 ^ 12)))), (4, .int (nI (h % 2 ^ 12))), (0, .ref h0), (1, .int (nI h)), (2, .int (zI a)), (3, .int (zI b))]) hx hb d_HS_hasAtDistance_20 hl (by decide) rfl (fun ls hl => ?_)
  refine lv_iload hx hb d_HS_hasAtDistance_22 (lv_at hl 2 rfl) ?_
  refine lv_iload_n hx hb d_HS_hasAtDistance_24 rfl (lv_at hl 6 rfl) ?_
  refine lv_iadd hx hb d_HS_hasAtDistance_25 ?_
  refine xi (y := zI ((((h % 2 ^ 12 : Nat)) : Int) + b)) ((congrArg (· + zI b) (nI_zI _)).trans (zI_add _ _)) ?_
  refine lv_sipush (v := nI 4095) hx hb d_HS_hasAtDistance_26 (by decide) ?_
  refine va_mmin hx hb (by rw [hml]; exact hl.1.symm) hown (htw _ ml_HS_53 _) (htw _ w_Ma_min.1 _) (htw _ w_Ma_min.2.1 _) (htw _ w_Ma_min.2.2.1 _) (Nat.le_of_ble_eq_true rfl) (Nat.le_of_ble_eq_true rfl) (Nat.le_of_ble_eq_true rfl) (Nat.le_of_ble_eq_true rfl) d_HS_hasAtDistance_29 ?_
  refine xi (y := zI (min ((((h % 2 ^ 12 : Nat)) : Int) + b) 4095)) (mn_zI (by omega) (by omega)) ?_
  refine lv_istore (lv' := [(7, .int (zI (min ((((h % 2 ^ 12 : Nat)) : Int) + b) 4095))), (6, .int (nI (((((h % 2 ^ 12 : Nat)) : Int) + a).toNat))), (5, .int (nI (h - (h % 2 ^ 12)))), (4, .int (nI (h % 2 ^ 12))), (0, .ref h0), (1, .int (nI h)), (2, .int (zI a)), (3, .int (zI b))]) hx hb d_HS_hasAtDistance_32 hl (by decide) rfl (fun ls hl => ?_)
  refine lv_aload_n hx hb d_HS_hasAtDistance_34 rfl (lv_at hl 4 rfl) ?_
  refine lv_iload hx hb d_HS_hasAtDistance_35 (lv_at hl 2 rfl) ?_
  refine lv_iload hx hb d_HS_hasAtDistance_37 (lv_at hl 1 rfl) ?_
  refine lv_iadd hx hb d_HS_hasAtDistance_39 ?_
  refine xi (nI_add (h - (h % 2 ^ 12)) (((((h % 2 ^ 12 : Nat)) : Int) + a).toNat)) ?_
  refine lv_iload hx hb d_HS_hasAtDistance_40 (lv_at hl 2 rfl) ?_
  refine lv_iload hx hb d_HS_hasAtDistance_42 (lv_at hl 0 rfl) ?_
  refine lv_iadd hx hb d_HS_hasAtDistance_44 ?_
  refine xi (y := zI ((((h - h % 2 ^ 12 : Nat)) : Int) + min ((((h % 2 ^ 12 : Nat)) : Int) + b) 4095)) ((congrArg (· + zI _) (nI_zI _)).trans (zI_add _ _)) ?_
  refine xcV_i (As := [.int (nI ((h - (h % 2 ^ 12)) + (((((h % 2 ^ 12 : Nat)) : Int) + a).toNat))), .int (zI ((((h - h % 2 ^ 12 : Nat)) : Int) + min ((((h % 2 ^ 12 : Nat)) : Int) + b) 4095))]) (rest := []) (wr := []) hx hb hml hown htw hK hA hl.1 hP hD hS (c_HS_hasWithin l D K h0 h1 z n g ((h - (h % 2 ^ 12)) + (((((h % 2 ^ 12 : Nat)) : Int) + a).toNat)) ((((h - h % 2 ^ 12 : Nat)) : Int) + min ((((h % 2 ^ 12 : Nat)) : Int) + b) 4095) (by first | assumption | omega) (by first | assumption | omega) (by exact fun k hk => Nat.lt_trans (hg1 k hk) (by decide)) (by first | assumption | omega) (by first | assumption | omega) (by first | assumption | omega) (by first | assumption | omega)) [0, 1] [] rfl rfl (by decide) (by decide) (by decide) 0 rfl k_HS ml_HS_40 w_HS_hasWithin rfl ⟨by decide, by decide⟩ rfl (Nat.le_of_ble_eq_true rfl) ⟨by decide, by decide⟩ d_HS_hasAtDistance_45 (fun r u H locs hpost hP hD hS => ?_)
  obtain ⟨rfl, rfl⟩ := hpost
  have hP : va_P D classes [(h0, .inr (0, [.ref h1, .int (nI z)])), (h1, .inl (K 0, n, .inl (nA g)))] H := hP
  have hD : va_D A [(h0, .inr (0, [.ref h1, .int (nI z)])), (h1, .inl (K 0, n, .inl (nA g)))] := hD
  exact xr_zret (by first | exact Or.inl rfl | exact Or.inr rfl | exact bN_v _) hx hb hr hlocks hP hD hS (Nat.le_of_ble_eq_true rfl) (Nat.le_of_ble_eq_true rfl) (⟨rfl, congrArg nI (bN_congr ⟨fun q => by obtain ⟨k, k1, k2, k3⟩ := q; exact ⟨k, k1, by omega, by omega, by omega⟩, fun q => by obtain ⟨k, k1, k2, k3, k4⟩ := q; exact ⟨k, k1, by omega, by omega⟩⟩)⟩) d_HS_hasAtDistance_48

abbrev q_HS_keepByDocument (K : Nat → ClassId) (h0 : Nat) (h1 : Nat) (z : Nat) (n : Nat) (g : Nat → Nat) (ho : Nat) (h2 : Nat) (zo : Nat) (no : Nat) (go : Nat → Nat) (fl : Nat) : va_W → Prop := fun u => ∃ z' : Nat, ∃ g' : Nat → Nat, u = [(h0, .inr (0, [.ref h1, .int (nI z')])), (h1, .inl (K 0, n, .inl (nA g'))), (ho, .inr (0, [.ref h2, .int (nI zo)])), (h2, .inl (K 0, no, .inl (nA go)))] ∧ (st_inc z' g') ∧ (∀ v, st_mem z' g' v ↔ st_mem z g v ∧ fl = bN (∃ k, k < zo ∧ go k / 2 ^ 14 = v / 2 ^ 14)) ∧ (z' ≤ z)
set_option maxHeartbeats 4000000 in
set_option maxRecDepth 100000 in
theorem lp_HS_keepByDocument_5 {p : Program} {l : Launch} {e : Env} {s : State} {m : MethodId} {below : List Frame} {meth : Method} {c : Code} {A : Nat → Prop} {D : va_G} {K : Nat → ClassId} (h0 : Nat) (h1 : Nat) (z : Nat) (n : Nat) (g : Nat → Nat) (ho : Nat) (h2 : Nat) (zo : Nat) (no : Nat) (go : Nat → Nat) (fl : Nat) (hz : z ≤ n) (hn : n < 2 ^ 30) (hg1 : ∀ k, k < z → g k < 2 ^ 24) (hin : st_inc z g) (hzo : zo ≤ no) (hno : no < 2 ^ 30) (hgo : ∀ k, k < zo → go k < 2 ^ 24) (hio : st_inc zo go) (hfl : fl ≤ 1) (hF : Fx p s m meth c y_HS_keepByDocument b_HS_keepByDocument 5 none D K) {b0 : Nat} (hA : AS K s A b0) : ∀ fuel : Nat, ∀ kk : Nat, ∀ i : Nat, ∀ gg : Nat → Nat, (kk ≤ i) → (i ≤ z) → (st_kp z g (fun v => fl = bN (∃ k, k < zo ∧ go k / 2 ^ 14 = v / 2 ^ 14)) i kk gg) → z - i < fuel → ∀ (H : Heap) (locs : List Loc), va_P D classes [(h0, .inr (0, [.ref h1, .int (nI z)])), (h1, .inl (K 0, n, .inl (nA gg))), (ho, .inr (0, [.ref h2, .int (nI zo)])), (h2, .inl (K 0, no, .inl (nA go)))] H → va_D A [(h0, .inr (0, [.ref h1, .int (nI z)])), (h1, .inl (K 0, n, .inl (nA gg))), (ho, .inr (0, [.ref h2, .int (nI zo)])), (h2, .inl (K 0, no, .inl (nA go)))] → va_S A s.heap H locs → ∀ ls : Array Slot, lv_has ls 5 [(0, .ref h0), (1, .ref ho), (2, .int (nI fl)), (3, .int (nI kk)), (4, .int (nI i))] → W p l e ({ frames := 2, cells := 0, slots := 0, locals := 46 } : Room) s m ([.ref h0, .ref ho, .int (nI fl)] : List Value).toArray below meth c H locs 0 0 (MQ below (va_Qv (q_HS_keepByDocument K h0 h1 z n g ho h2 zo no go fl) (fun u t => va_P D classes u t.heap ∧ va_D A u) A) ([.ref h0, .ref ho, .int (nI fl)] : List Value).toArray s 0 0 A) (F0 m 5 ls []) := by
  have hF2 := hF
  obtain ⟨hx, hb, hr, hml, hown, htw, hK, hlocks, hname⟩ := hF
  intro fuel
  induction fuel with
  | zero => intros; omega
  | succ fuel ih =>
    have jn_48 : ∀ kk : Nat, ∀ i : Nat, ∀ gg : Nat → Nat, (kk ≤ i + 1) → (i < z) → (st_kp z g (fun v => fl = bN (∃ k, k < zo ∧ go k / 2 ^ 14 = v / 2 ^ 14)) (i + 1) kk gg) → (z - i < fuel + 1) → ∀ (H : Heap) (locs : List Loc), va_P D classes [(h0, .inr (0, [.ref h1, .int (nI z)])), (h1, .inl (K 0, n, .inl (nA gg))), (ho, .inr (0, [.ref h2, .int (nI zo)])), (h2, .inl (K 0, no, .inl (nA go)))] H → va_D A [(h0, .inr (0, [.ref h1, .int (nI z)])), (h1, .inl (K 0, n, .inl (nA gg))), (ho, .inr (0, [.ref h2, .int (nI zo)])), (h2, .inl (K 0, no, .inl (nA go)))] → va_S A s.heap H locs → ∀ ls : Array Slot, lv_has ls 5 [(0, .ref h0), (1, .ref ho), (2, .int (nI fl)), (3, .int (nI kk)), (4, .int (nI i))] → W p l e ({ frames := 2, cells := 0, slots := 0, locals := 46 } : Room) s m ([.ref h0, .ref ho, .int (nI fl)] : List Value).toArray below meth c H locs 0 0 (MQ below (va_Qv (q_HS_keepByDocument K h0 h1 z n g ho h2 zo no go fl) (fun u t => va_P D classes u t.heap ∧ va_D A u) A) ([.ref h0, .ref ho, .int (nI fl)] : List Value).toArray s 0 0 A) (F0 m 48 ls []) := by
      intro kk i gg hki hiz hkp hfu H locs hP hD hS ls hl
      refine lv_iinc (v := nI (i + 1)) (lv' := [(4, .int (nI (i + 1))), (0, .ref h0), (1, .ref ho), (2, .int (nI fl)), (3, .int (nI kk))]) hx hb d_HS_keepByDocument_48 hl (k := 4) rfl (inc_nI _ _) (by decide) rfl (fun ls hl => ?_)
      refine lv_goto (tgt := 5) hx hb d_HS_keepByDocument_51 (by decide) ?_
      exact ih kk (i + 1) gg (by first | assumption | omega) (by first | assumption | omega) (by first | assumption | omega) (by omega) _ _ hP hD hS _ (lv_sub hl [1, 2, 3, 4, 0] rfl)
    intro kk i gg hki hiz hkp hfu H locs hP hD hS ls hl
    refine lv_iload hx hb d_HS_keepByDocument_5 (lv_at hl 4 rfl) ?_
    refine lv_aload_n hx hb d_HS_keepByDocument_7 rfl (lv_at hl 0 rfl) ?_
    refine xg hx hb hown htw hK hP 0 1 rfl k_HS (by decide) fl_HS_15 rfl d_HS_keepByDocument_8 ?_
    refine xc_ge (tgt := 54) (a := i) (b := z) hx hb (by omega) (by omega) d_HS_keepByDocument_11 (by decide) (fun c_11 => ?_) (fun c_11 => ?_)
    · have hiz2 : i = z := by omega
      subst hiz2
      refine lv_aload_n hx hb d_HS_keepByDocument_54 rfl (lv_at hl 0 rfl) ?_
      refine lv_iload_n hx hb d_HS_keepByDocument_55 rfl (lv_at hl 3 rfl) ?_
      refine xpt hx hb hown htw hK hP hD hS 0 1 rfl k_HS (by decide) fl_HS_15 rfl rfl rfl (Nat.le_of_ble_eq_true rfl) d_HS_keepByDocument_56 (fun H locs hP hD hS => ?_)
      have hP : va_P D classes [(h0, .inr (0, [.ref h1, .int (nI kk)])), (h1, .inl (K 0, n, .inl (nA gg))), (ho, .inr (0, [.ref h2, .int (nI zo)])), (h2, .inl (K 0, no, .inl (nA go)))] H := hP
      have hD : va_D A [(h0, .inr (0, [.ref h1, .int (nI kk)])), (h1, .inl (K 0, n, .inl (nA gg))), (ho, .inr (0, [.ref h2, .int (nI zo)])), (h2, .inl (K 0, no, .inl (nA go)))] := hD
      exact xr_vret hx hb hr hlocks hP hD hS (Nat.le_of_ble_eq_true rfl) (Nat.le_of_ble_eq_true rfl) (⟨_, _, rfl, hkp.1, fun v => (hkp.2.1 v).trans Iff.rfl, hki⟩) d_HS_keepByDocument_59
    · refine lv_aload_n hx hb d_HS_keepByDocument_14 rfl (lv_at hl 1 rfl) ?_
      refine lv_aload_n hx hb d_HS_keepByDocument_15 rfl (lv_at hl 0 rfl) ?_
      refine xg hx hb hown htw hK hP 0 0 rfl k_HS (by decide) fl_HS_9 rfl d_HS_keepByDocument_16 ?_
      refine lv_iload hx hb d_HS_keepByDocument_19 (lv_at hl 4 rfl) ?_
      refine xald_i hx hb hK hP 1 rfl (by omega) (by omega) d_HS_keepByDocument_21 ?_
      refine xi (y := nI (gg i)) rfl ?_
      refine xcSN_i (As := [.int (nI (gg i))]) (rest := [.ref ho]) (wr := [(h0, .inr (0, [.ref h1, .int (nI z)])), (h1, .inl (K 0, n, .inl (nA gg))), (ho, .inr (0, [.ref h2, .int (nI zo)])), (h2, .inl (K 0, no, .inl (nA go)))]) hx hb hml hown htw hK hA hl.1 hP hD hS (c_SI_documentOf l D K (gg i) (by rw [(show gg i = g i from hkp.2.2.1 i (Nat.le_refl i))]; have := hg1 i (by omega); omega)) [] [0, 1, 2, 3] rfl rfl (by decide) (by decide) (by decide) ml_HS_32 w_SI_documentOf rfl ⟨by decide, by decide⟩ rfl (Nat.le_of_ble_eq_true rfl) ⟨by decide, by decide⟩ d_HS_keepByDocument_22 (fun r u H locs hpost hP hD hS => ?_)
      obtain ⟨rfl, rfl⟩ := hpost
      have hP : va_P D classes [(h0, .inr (0, [.ref h1, .int (nI z)])), (h1, .inl (K 0, n, .inl (nA gg))), (ho, .inr (0, [.ref h2, .int (nI zo)])), (h2, .inl (K 0, no, .inl (nA go)))] H := hP
      have hD : va_D A [(h0, .inr (0, [.ref h1, .int (nI z)])), (h1, .inl (K 0, n, .inl (nA gg))), (ho, .inr (0, [.ref h2, .int (nI zo)])), (h2, .inl (K 0, no, .inl (nA go)))] := hD
      refine xcV_i (As := [.int (nI ((gg i) / 2 ^ 14))]) (rest := []) (wr := [(h0, .inr (0, [.ref h1, .int (nI z)])), (h1, .inl (K 0, n, .inl (nA gg)))]) hx hb hml hown htw hK hA hl.1 hP hD hS (c_HS_hasDocument l D K ho h2 zo no go ((gg i) / 2 ^ 14) (by exact hzo) (by exact hno) (by exact hgo) (by exact hio) (by rw [(show gg i = g i from hkp.2.2.1 i (Nat.le_refl i))]; have := hg1 i (by omega); omega)) [2, 3] [0, 1] rfl rfl (by decide) (by decide) (by decide) 0 rfl k_HS ml_HS_56 w_HS_hasDocument rfl ⟨by decide, by decide⟩ rfl (Nat.le_of_ble_eq_true rfl) ⟨by decide, by decide⟩ d_HS_keepByDocument_25 (fun r u H locs hpost hP hD hS => ?_)
      obtain ⟨rfl, rfl⟩ := hpost
      have hP : va_P D classes [(h0, .inr (0, [.ref h1, .int (nI z)])), (h1, .inl (K 0, n, .inl (nA gg))), (ho, .inr (0, [.ref h2, .int (nI zo)])), (h2, .inl (K 0, no, .inl (nA go)))] H := hP
      have hD : va_D A [(h0, .inr (0, [.ref h1, .int (nI z)])), (h1, .inl (K 0, n, .inl (nA gg))), (ho, .inr (0, [.ref h2, .int (nI zo)])), (h2, .inl (K 0, no, .inl (nA go)))] := hD
      refine lv_iload_n hx hb d_HS_keepByDocument_28 rfl (lv_at hl 2 rfl) ?_
      refine xc_ne (tgt := 48) (a := bN (∃ k, k < zo ∧ go k / 2 ^ 14 = ((gg i) / 2 ^ 14))) (b := fl) hx hb (by exact bN_31 _) (by omega) d_HS_keepByDocument_29 (by decide) (fun c_29 => ?_) (fun c_29 => ?_)
      · exact jn_48 kk i gg (by first | assumption | omega) (by first | assumption | omega) (by exact st_kp_n hkp (by omega) (by rw [(show gg i = g i from hkp.2.2.1 i (Nat.le_refl i))] at c_29; exact fun q => c_29 q.symm)) (by first | assumption | omega) _ _ hP hD hS _ (lv_sub hl [0, 1, 2, 3, 4] rfl)
      · refine lv_aload_n hx hb d_HS_keepByDocument_32 rfl (lv_at hl 0 rfl) ?_
        refine xg hx hb hown htw hK hP 0 0 rfl k_HS (by decide) fl_HS_9 rfl d_HS_keepByDocument_33 ?_
        refine lv_iload_n hx hb d_HS_keepByDocument_36 rfl (lv_at hl 3 rfl) ?_
        refine lv_aload_n hx hb d_HS_keepByDocument_37 rfl (lv_at hl 0 rfl) ?_
        refine xg hx hb hown htw hK hP 0 0 rfl k_HS (by decide) fl_HS_9 rfl d_HS_keepByDocument_38 ?_
        refine lv_iload hx hb d_HS_keepByDocument_41 (lv_at hl 4 rfl) ?_
        refine xald_i hx hb hK hP 1 rfl (by omega) (by omega) d_HS_keepByDocument_43 ?_
        refine xi (y := nI (gg i)) rfl ?_
        refine xast_i hx hb hK hP hD hS 1 rfl (by omega) (by omega) d_HS_keepByDocument_44 (fun H locs hP hD hS => ?_)
        rw [upd_nA] at hP hD
        have hP : va_P D classes [(h0, .inr (0, [.ref h1, .int (nI z)])), (h1, .inl (K 0, n, .inl (nA (va_up gg kk (gg i))))), (ho, .inr (0, [.ref h2, .int (nI zo)])), (h2, .inl (K 0, no, .inl (nA go)))] H := hP
        have hD : va_D A [(h0, .inr (0, [.ref h1, .int (nI z)])), (h1, .inl (K 0, n, .inl (nA (va_up gg kk (gg i))))), (ho, .inr (0, [.ref h2, .int (nI zo)])), (h2, .inl (K 0, no, .inl (nA go)))] := hD
        refine lv_iinc (v := nI (kk + 1)) (lv' := [(3, .int (nI (kk + 1))), (0, .ref h0), (1, .ref ho), (2, .int (nI fl)), (4, .int (nI i))]) hx hb d_HS_keepByDocument_45 hl (k := 3) rfl (inc_nI _ _) (by decide) rfl (fun ls hl => ?_)
        exact jn_48 (kk + 1) i (va_up gg kk (gg i)) (by first | assumption | omega) (by first | assumption | omega) (by exact st_kp_y hin hki (by omega) hkp (by rw [(show gg i = g i from hkp.2.2.1 i (Nat.le_refl i))] at c_29; exact c_29.symm)) (by first | assumption | omega) _ _ hP hD hS _ (lv_sub hl [1, 2, 3, 0, 4] rfl)
set_option maxHeartbeats 4000000 in
set_option maxRecDepth 100000 in
theorem c_HS_keepByDocument (l : Launch) (D : va_G) (K : Nat → ClassId) (h0 : Nat) (h1 : Nat) (z : Nat) (n : Nat) (g : Nat → Nat) (ho : Nat) (h2 : Nat) (zo : Nat) (no : Nat) (go : Nat → Nat) (fl : Nat) (hz : z ≤ n) (hn : n < 2 ^ 30) (hg1 : ∀ k, k < z → g k < 2 ^ 24) (hin : st_inc z g) (hzo : zo ≤ no) (hno : no < 2 ^ 30) (hgo : ∀ k, k < zo → go k < 2 ^ 24) (hio : st_inc zo go) (hfl : fl ≤ 1) : CV l y_HS_keepByDocument b_HS_keepByDocument 5 ({ frames := 2, cells := 0, slots := 0, locals := 46 } : Room) D K [.ref h0, .ref ho, .int (nI fl)] [(h0, .inr (0, [.ref h1, .int (nI z)])), (h1, .inl (K 0, n, .inl (nA g))), (ho, .inr (0, [.ref h2, .int (nI zo)])), (h2, .inl (K 0, no, .inl (nA go)))] (q_HS_keepByDocument K h0 h1 z n g ho h2 zo no go fl) := by
  refine CV_of (by decide) (Nat.le_of_ble_eq_true rfl) ?_
  intro p e s m below meth c A b0 ls hF hA hP hD hl
  have hF2 := hF
  obtain ⟨hx, hb, hr, hml, hown, htw, hK, hlocks, hname⟩ := hF
  have hS : va_S A s.heap s.heap [] := va_S.rf
  have hl : lv_has ls 5 [(0, .ref h0), (1, .ref ho), (2, .int (nI fl))] := hl
  refine lv_iconst (v := nI 0) hx hb d_HS_keepByDocument_0 (by decide) ?_
  refine lv_istore_n (lv' := [(3, .int (nI 0)), (0, .ref h0), (1, .ref ho), (2, .int (nI fl))]) hx hb d_HS_keepByDocument_1 rfl hl (by decide) rfl (fun ls hl => ?_)
  refine lv_iconst (v := nI 0) hx hb d_HS_keepByDocument_2 (by decide) ?_
  refine lv_istore (lv' := [(4, .int (nI 0)), (3, .int (nI 0)), (0, .ref h0), (1, .ref ho), (2, .int (nI fl))]) hx hb d_HS_keepByDocument_3 hl (by decide) rfl (fun ls hl => ?_)
  exact lp_HS_keepByDocument_5 (l := l) h0 h1 z n g ho h2 zo no go fl hz hn hg1 hin hzo hno hgo hio hfl hF2 hA _ 0 0 g (by first | assumption | omega) (by first | assumption | omega) (by exact st_kp_0) (Nat.lt_succ_self _) _ _ hP hD hS _ (lv_sub hl [2, 3, 4, 1, 0] rfl)

abbrev q_HS_keepByDistance (K : Nat → ClassId) (h0 : Nat) (h1 : Nat) (z : Nat) (n : Nat) (g : Nat → Nat) (ho : Nat) (h2 : Nat) (zo : Nat) (no : Nat) (go : Nat → Nat) (a : Int) (b : Int) : va_W → Prop := fun u => ∃ z' : Nat, ∃ g' : Nat → Nat, u = [(h0, .inr (0, [.ref h1, .int (nI z')])), (h1, .inl (K 0, n, .inl (nA g'))), (ho, .inr (0, [.ref h2, .int (nI zo)])), (h2, .inl (K 0, no, .inl (nA go)))] ∧ (st_inc z' g') ∧ (∀ v, st_mem z' g' v ↔ st_mem z g v ∧ (∃ k, k < zo ∧ go k / 2 ^ 12 = v / 2 ^ 12 ∧ a ≤ ((go k : Nat) : Int) - v ∧ ((go k : Nat) : Int) - v ≤ b)) ∧ (z' ≤ z)
set_option maxHeartbeats 4000000 in
set_option maxRecDepth 100000 in
theorem lp_HS_keepByDistance_6 {p : Program} {l : Launch} {e : Env} {s : State} {m : MethodId} {below : List Frame} {meth : Method} {c : Code} {A : Nat → Prop} {D : va_G} {K : Nat → ClassId} (h0 : Nat) (h1 : Nat) (z : Nat) (n : Nat) (g : Nat → Nat) (ho : Nat) (h2 : Nat) (zo : Nat) (no : Nat) (go : Nat → Nat) (a : Int) (b : Int) (hz : z ≤ n) (hn : n < 2 ^ 30) (hg1 : ∀ k, k < z → g k < 2 ^ 24) (hin : st_inc z g) (hzo : zo ≤ no) (hno : no < 2 ^ 30) (hgo : ∀ k, k < zo → go k < 2 ^ 24) (hio : st_inc zo go) (ha1 : -100 ≤ a) (ha2 : a ≤ 100) (hb1 : -100 ≤ b) (hb2 : b ≤ 100) (hF : Fx p s m meth c y_HS_keepByDistance b_HS_keepByDistance 6 none D K) {b0 : Nat} (hA : AS K s A b0) : ∀ fuel : Nat, ∀ kk : Nat, ∀ i : Nat, ∀ gg : Nat → Nat, (kk ≤ i) → (i ≤ z) → (st_kp z g (fun v => (∃ k, k < zo ∧ go k / 2 ^ 12 = v / 2 ^ 12 ∧ a ≤ ((go k : Nat) : Int) - v ∧ ((go k : Nat) : Int) - v ≤ b)) i kk gg) → z - i < fuel → ∀ (H : Heap) (locs : List Loc), va_P D classes [(h0, .inr (0, [.ref h1, .int (nI z)])), (h1, .inl (K 0, n, .inl (nA gg))), (ho, .inr (0, [.ref h2, .int (nI zo)])), (h2, .inl (K 0, no, .inl (nA go)))] H → va_D A [(h0, .inr (0, [.ref h1, .int (nI z)])), (h1, .inl (K 0, n, .inl (nA gg))), (ho, .inr (0, [.ref h2, .int (nI zo)])), (h2, .inl (K 0, no, .inl (nA go)))] → va_S A s.heap H locs → ∀ ls : Array Slot, lv_has ls 6 [(0, .ref h0), (1, .ref ho), (2, .int (zI a)), (3, .int (zI b)), (4, .int (nI kk)), (5, .int (nI i))] → W p l e ({ frames := 2, cells := 0, slots := 0, locals := 56 } : Room) s m ([.ref h0, .ref ho, .int (zI a), .int (zI b)] : List Value).toArray below meth c H locs 0 0 (MQ below (va_Qv (q_HS_keepByDistance K h0 h1 z n g ho h2 zo no go a b) (fun u t => va_P D classes u t.heap ∧ va_D A u) A) ([.ref h0, .ref ho, .int (zI a), .int (zI b)] : List Value).toArray s 0 0 A) (F0 m 6 ls []) := by
  have hF2 := hF
  obtain ⟨hx, hb, hr, hml, hown, htw, hK, hlocks, hname⟩ := hF
  intro fuel
  induction fuel with
  | zero => intros; omega
  | succ fuel ih =>
    have jn_48 : ∀ kk : Nat, ∀ i : Nat, ∀ gg : Nat → Nat, (kk ≤ i + 1) → (i < z) → (st_kp z g (fun v => (∃ k, k < zo ∧ go k / 2 ^ 12 = v / 2 ^ 12 ∧ a ≤ ((go k : Nat) : Int) - v ∧ ((go k : Nat) : Int) - v ≤ b)) (i + 1) kk gg) → (z - i < fuel + 1) → ∀ (H : Heap) (locs : List Loc), va_P D classes [(h0, .inr (0, [.ref h1, .int (nI z)])), (h1, .inl (K 0, n, .inl (nA gg))), (ho, .inr (0, [.ref h2, .int (nI zo)])), (h2, .inl (K 0, no, .inl (nA go)))] H → va_D A [(h0, .inr (0, [.ref h1, .int (nI z)])), (h1, .inl (K 0, n, .inl (nA gg))), (ho, .inr (0, [.ref h2, .int (nI zo)])), (h2, .inl (K 0, no, .inl (nA go)))] → va_S A s.heap H locs → ∀ ls : Array Slot, lv_has ls 6 [(0, .ref h0), (1, .ref ho), (2, .int (zI a)), (3, .int (zI b)), (4, .int (nI kk)), (5, .int (nI i))] → W p l e ({ frames := 2, cells := 0, slots := 0, locals := 56 } : Room) s m ([.ref h0, .ref ho, .int (zI a), .int (zI b)] : List Value).toArray below meth c H locs 0 0 (MQ below (va_Qv (q_HS_keepByDistance K h0 h1 z n g ho h2 zo no go a b) (fun u t => va_P D classes u t.heap ∧ va_D A u) A) ([.ref h0, .ref ho, .int (zI a), .int (zI b)] : List Value).toArray s 0 0 A) (F0 m 48 ls []) := by
      intro kk i gg hki hiz hkp hfu H locs hP hD hS ls hl
      refine lv_iinc (v := nI (i + 1)) (lv' := [(5, .int (nI (i + 1))), (0, .ref h0), (1, .ref ho), (2, .int (zI a)), (3, .int (zI b)), (4, .int (nI kk))]) hx hb d_HS_keepByDistance_48 hl (k := 5) rfl (inc_nI _ _) (by decide) rfl (fun ls hl => ?_)
      refine lv_goto (tgt := 6) hx hb d_HS_keepByDistance_51 (by decide) ?_
      exact ih kk (i + 1) gg (by first | assumption | omega) (by first | assumption | omega) (by first | assumption | omega) (by omega) _ _ hP hD hS _ (lv_sub hl [1, 2, 3, 4, 5, 0] rfl)
    intro kk i gg hki hiz hkp hfu H locs hP hD hS ls hl
    refine lv_iload hx hb d_HS_keepByDistance_6 (lv_at hl 5 rfl) ?_
    refine lv_aload_n hx hb d_HS_keepByDistance_8 rfl (lv_at hl 0 rfl) ?_
    refine xg hx hb hown htw hK hP 0 1 rfl k_HS (by decide) fl_HS_15 rfl d_HS_keepByDistance_9 ?_
    refine xc_ge (tgt := 54) (a := i) (b := z) hx hb (by omega) (by omega) d_HS_keepByDistance_12 (by decide) (fun c_12 => ?_) (fun c_12 => ?_)
    · have hiz2 : i = z := by omega
      subst hiz2
      refine lv_aload_n hx hb d_HS_keepByDistance_54 rfl (lv_at hl 0 rfl) ?_
      refine lv_iload hx hb d_HS_keepByDistance_55 (lv_at hl 4 rfl) ?_
      refine xpt hx hb hown htw hK hP hD hS 0 1 rfl k_HS (by decide) fl_HS_15 rfl rfl rfl (Nat.le_of_ble_eq_true rfl) d_HS_keepByDistance_57 (fun H locs hP hD hS => ?_)
      have hP : va_P D classes [(h0, .inr (0, [.ref h1, .int (nI kk)])), (h1, .inl (K 0, n, .inl (nA gg))), (ho, .inr (0, [.ref h2, .int (nI zo)])), (h2, .inl (K 0, no, .inl (nA go)))] H := hP
      have hD : va_D A [(h0, .inr (0, [.ref h1, .int (nI kk)])), (h1, .inl (K 0, n, .inl (nA gg))), (ho, .inr (0, [.ref h2, .int (nI zo)])), (h2, .inl (K 0, no, .inl (nA go)))] := hD
      exact xr_vret hx hb hr hlocks hP hD hS (Nat.le_of_ble_eq_true rfl) (Nat.le_of_ble_eq_true rfl) (⟨_, _, rfl, hkp.1, fun v => (hkp.2.1 v).trans Iff.rfl, hki⟩) d_HS_keepByDistance_60
    · refine lv_aload_n hx hb d_HS_keepByDistance_15 rfl (lv_at hl 1 rfl) ?_
      refine lv_aload_n hx hb d_HS_keepByDistance_16 rfl (lv_at hl 0 rfl) ?_
      refine xg hx hb hown htw hK hP 0 0 rfl k_HS (by decide) fl_HS_9 rfl d_HS_keepByDistance_17 ?_
      refine lv_iload hx hb d_HS_keepByDistance_20 (lv_at hl 5 rfl) ?_
      refine xald_i hx hb hK hP 1 rfl (by omega) (by omega) d_HS_keepByDistance_22 ?_
      refine xi (y := nI (gg i)) rfl ?_
      refine lv_iload_n hx hb d_HS_keepByDistance_23 rfl (lv_at hl 2 rfl) ?_
      refine lv_iload_n hx hb d_HS_keepByDistance_24 rfl (lv_at hl 3 rfl) ?_
      refine xcV_i (As := [.int (nI (gg i)), .int (zI a), .int (zI b)]) (rest := []) (wr := [(h0, .inr (0, [.ref h1, .int (nI z)])), (h1, .inl (K 0, n, .inl (nA gg)))]) hx hb hml hown htw hK hA hl.1 hP hD hS (c_HS_hasAtDistance l D K ho h2 zo no go (gg i) a b (by exact hzo) (by exact hno) (by exact hgo) (by exact hio) (by rw [(show gg i = g i from hkp.2.2.1 i (Nat.le_refl i))]; have := hg1 i (by omega); omega) (by first | assumption | omega) (by first | assumption | omega) (by first | assumption | omega) (by first | assumption | omega)) [2, 3] [0, 1] rfl rfl (by decide) (by decide) (by decide) 0 rfl k_HS ml_HS_60 w_HS_hasAtDistance rfl ⟨by decide, by decide⟩ rfl (Nat.le_of_ble_eq_true rfl) ⟨by decide, by decide⟩ d_HS_keepByDistance_25 (fun r u H locs hpost hP hD hS => ?_)
      obtain ⟨rfl, rfl⟩ := hpost
      have hP : va_P D classes [(h0, .inr (0, [.ref h1, .int (nI z)])), (h1, .inl (K 0, n, .inl (nA gg))), (ho, .inr (0, [.ref h2, .int (nI zo)])), (h2, .inl (K 0, no, .inl (nA go)))] H := hP
      have hD : va_D A [(h0, .inr (0, [.ref h1, .int (nI z)])), (h1, .inl (K 0, n, .inl (nA gg))), (ho, .inr (0, [.ref h2, .int (nI zo)])), (h2, .inl (K 0, no, .inl (nA go)))] := hD
      refine xz_eq (tgt := 48) (a := bN (∃ k, k < zo ∧ go k / 2 ^ 12 = (gg i) / 2 ^ 12 ∧ a ≤ ((go k : Nat) : Int) - (gg i) ∧ ((go k : Nat) : Int) - (gg i) ≤ b)) hx hb (by exact bN_31 _) d_HS_keepByDistance_28 (by decide) (fun c_28 => ?_) (fun c_28 => ?_)
      · exact jn_48 kk i gg (by first | assumption | omega) (by first | assumption | omega) (by exact st_kp_n hkp (by omega) (by rw [(show gg i = g i from hkp.2.2.1 i (Nat.le_refl i))] at c_28; exact bN_0.mp c_28)) (by first | assumption | omega) _ _ hP hD hS _ (lv_sub hl [0, 1, 2, 3, 4, 5] rfl)
      · refine lv_aload_n hx hb d_HS_keepByDistance_31 rfl (lv_at hl 0 rfl) ?_
        refine xg hx hb hown htw hK hP 0 0 rfl k_HS (by decide) fl_HS_9 rfl d_HS_keepByDistance_32 ?_
        refine lv_iload hx hb d_HS_keepByDistance_35 (lv_at hl 4 rfl) ?_
        refine lv_aload_n hx hb d_HS_keepByDistance_37 rfl (lv_at hl 0 rfl) ?_
        refine xg hx hb hown htw hK hP 0 0 rfl k_HS (by decide) fl_HS_9 rfl d_HS_keepByDistance_38 ?_
        refine lv_iload hx hb d_HS_keepByDistance_41 (lv_at hl 5 rfl) ?_
        refine xald_i hx hb hK hP 1 rfl (by omega) (by omega) d_HS_keepByDistance_43 ?_
        refine xi (y := nI (gg i)) rfl ?_
        refine xast_i hx hb hK hP hD hS 1 rfl (by omega) (by omega) d_HS_keepByDistance_44 (fun H locs hP hD hS => ?_)
        rw [upd_nA] at hP hD
        have hP : va_P D classes [(h0, .inr (0, [.ref h1, .int (nI z)])), (h1, .inl (K 0, n, .inl (nA (va_up gg kk (gg i))))), (ho, .inr (0, [.ref h2, .int (nI zo)])), (h2, .inl (K 0, no, .inl (nA go)))] H := hP
        have hD : va_D A [(h0, .inr (0, [.ref h1, .int (nI z)])), (h1, .inl (K 0, n, .inl (nA (va_up gg kk (gg i))))), (ho, .inr (0, [.ref h2, .int (nI zo)])), (h2, .inl (K 0, no, .inl (nA go)))] := hD
        refine lv_iinc (v := nI (kk + 1)) (lv' := [(4, .int (nI (kk + 1))), (0, .ref h0), (1, .ref ho), (2, .int (zI a)), (3, .int (zI b)), (5, .int (nI i))]) hx hb d_HS_keepByDistance_45 hl (k := 4) rfl (inc_nI _ _) (by decide) rfl (fun ls hl => ?_)
        exact jn_48 (kk + 1) i (va_up gg kk (gg i)) (by first | assumption | omega) (by first | assumption | omega) (by exact st_kp_y hin hki (by omega) hkp (by rw [(show gg i = g i from hkp.2.2.1 i (Nat.le_refl i))] at c_28; exact bN_pos.mp c_28)) (by first | assumption | omega) _ _ hP hD hS _ (lv_sub hl [1, 2, 3, 4, 0, 5] rfl)
set_option maxHeartbeats 4000000 in
set_option maxRecDepth 100000 in
theorem c_HS_keepByDistance (l : Launch) (D : va_G) (K : Nat → ClassId) (h0 : Nat) (h1 : Nat) (z : Nat) (n : Nat) (g : Nat → Nat) (ho : Nat) (h2 : Nat) (zo : Nat) (no : Nat) (go : Nat → Nat) (a : Int) (b : Int) (hz : z ≤ n) (hn : n < 2 ^ 30) (hg1 : ∀ k, k < z → g k < 2 ^ 24) (hin : st_inc z g) (hzo : zo ≤ no) (hno : no < 2 ^ 30) (hgo : ∀ k, k < zo → go k < 2 ^ 24) (hio : st_inc zo go) (ha1 : -100 ≤ a) (ha2 : a ≤ 100) (hb1 : -100 ≤ b) (hb2 : b ≤ 100) : CV l y_HS_keepByDistance b_HS_keepByDistance 6 ({ frames := 2, cells := 0, slots := 0, locals := 56 } : Room) D K [.ref h0, .ref ho, .int (zI a), .int (zI b)] [(h0, .inr (0, [.ref h1, .int (nI z)])), (h1, .inl (K 0, n, .inl (nA g))), (ho, .inr (0, [.ref h2, .int (nI zo)])), (h2, .inl (K 0, no, .inl (nA go)))] (q_HS_keepByDistance K h0 h1 z n g ho h2 zo no go a b) := by
  refine CV_of (by decide) (Nat.le_of_ble_eq_true rfl) ?_
  intro p e s m below meth c A b0 ls hF hA hP hD hl
  have hF2 := hF
  obtain ⟨hx, hb, hr, hml, hown, htw, hK, hlocks, hname⟩ := hF
  have hS : va_S A s.heap s.heap [] := va_S.rf
  have hl : lv_has ls 6 [(0, .ref h0), (1, .ref ho), (2, .int (zI a)), (3, .int (zI b))] := hl
  refine lv_iconst (v := nI 0) hx hb d_HS_keepByDistance_0 (by decide) ?_
  refine lv_istore (lv' := [(4, .int (nI 0)), (0, .ref h0), (1, .ref ho), (2, .int (zI a)), (3, .int (zI b))]) hx hb d_HS_keepByDistance_1 hl (by decide) rfl (fun ls hl => ?_)
  refine lv_iconst (v := nI 0) hx hb d_HS_keepByDistance_3 (by decide) ?_
  refine lv_istore (lv' := [(5, .int (nI 0)), (4, .int (nI 0)), (0, .ref h0), (1, .ref ho), (2, .int (zI a)), (3, .int (zI b))]) hx hb d_HS_keepByDistance_4 hl (by decide) rfl (fun ls hl => ?_)
  exact lp_HS_keepByDistance_6 (l := l) h0 h1 z n g ho h2 zo no go a b hz hn hg1 hin hzo hno hgo hio ha1 ha2 hb1 hb2 hF2 hA _ 0 0 g (by first | assumption | omega) (by first | assumption | omega) (by exact st_kp_0) (Nat.lt_succ_self _) _ _ hP hD hS _ (lv_sub hl [2, 3, 4, 5, 1, 0] rfl)


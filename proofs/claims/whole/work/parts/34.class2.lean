theorem tb_out2 {y : Int32} (h : ¬ y = 0 ∧ ¬ y = nI 1 ∧ ¬ y = nI 2) : y.toInt < 0 ∨ 2 < y.toInt := by
  obtain ⟨h0, h1, h2⟩ := h
  rcases Int.lt_or_le y.toInt 0 with q | q
  · exact Or.inl q
  · rcases Int.lt_or_le 2 y.toInt with r | r
    · exact Or.inr r
    · exfalso
      rcases (show y.toInt = 0 ∨ y.toInt = 1 ∨ y.toInt = 2 by omega) with e | e | e
      · exact h0 (Int32.toInt_inj.mp e)
      · exact h1 (Int32.toInt_inj.mp e)
      · exact h2 (Int32.toInt_inj.mp e)
theorem tb_out3 {y : Int32} (h : y < 0 ∨ nI 3 < y) : y.toInt < 0 ∨ 3 < y.toInt := by
  rcases h with q | q
  · exact Or.inl (Int32.lt_iff_toInt_lt.mp q)
  · exact Or.inr (Int32.lt_iff_toInt_lt.mp q)
theorem tb_out7 {x : Int32} (h : ¬ x = nI 0 ∧ ¬ x = nI 1 ∧ ¬ x = nI 2 ∧ ¬ x = nI 3 ∧ ¬ x = nI 4 ∧ ¬ x = nI 5 ∧ ¬ x = nI 6 ∧ ¬ x = nI 7) : x.toInt < 0 ∨ 7 < x.toInt := by
  obtain ⟨h0, h1, h2, h3, h4, h5, h6, h7⟩ := h
  rcases Int.lt_or_le x.toInt 0 with q | q
  · exact Or.inl q
  · rcases Int.lt_or_le 7 x.toInt with r | r
    · exact Or.inr r
    · exfalso
      rcases (show x.toInt = 0 ∨ x.toInt = 1 ∨ x.toInt = 2 ∨ x.toInt = 3 ∨ x.toInt = 4 ∨ x.toInt = 5 ∨ x.toInt = 6 ∨ x.toInt = 7 by omega) with e | e | e | e | e | e | e | e
      · exact h0 (Int32.toInt_inj.mp e)
      · exact h1 (Int32.toInt_inj.mp e)
      · exact h2 (Int32.toInt_inj.mp e)
      · exact h3 (Int32.toInt_inj.mp e)
      · exact h4 (Int32.toInt_inj.mp e)
      · exact h5 (Int32.toInt_inj.mp e)
      · exact h6 (Int32.toInt_inj.mp e)
      · exact h7 (Int32.toInt_inj.mp e)
abbrev q_SI_hit_empty (K : Nat → ClassId) (x0 : Nat) (s0 : Nat) (l0 : Nat) (p0 : Nat) (k0 : Nat) (bf : Nat) (p1 : Nat) (pf : Nat → Option Nat) (a_s : Nat) (b_s : Nat) (z_s : Nat) (x : Int32) (y : Int32) : Int32 → va_W → Prop := fun r u => u = ([(x0, .inr (6, [.ref s0, .ref l0, .ref p0, .ref k0, .int (nI bf)])), (p0, .inr (2, [.ref p1, .int (nI 0)])), (p1, .inl (K 3, 9, .inr (.inr (.inr (.inr pf))))), (a_s, .inr (0, [.ref b_s, .int (nI 0)]))] : va_W) ∧ r = zI (-1)
set_option maxHeartbeats 4000000 in
set_option maxRecDepth 100000 in
theorem c_SI_hit_empty (l : Launch) (D : va_G) (K : Nat → ClassId) (x0 : Nat) (s0 : Nat) (l0 : Nat) (p0 : Nat) (k0 : Nat) (bf : Nat) (p1 : Nat) (pf : Nat → Option Nat) (a_s : Nat) (b_s : Nat) (z_s : Nat) (x : Int32) (y : Int32) (hf : pf 0 = some a_s) : CI l y_SI_hit b_SI_hit 5 .int ({ frames := 4, cells := 0, slots := 0, locals := 120 } : Room) D K [.ref x0, .int x, .int y] ([(x0, .inr (6, [.ref s0, .ref l0, .ref p0, .ref k0, .int (nI bf)])), (p0, .inr (2, [.ref p1, .int (nI 0)])), (p1, .inl (K 3, 9, .inr (.inr (.inr (.inr pf))))), (a_s, .inr (0, [.ref b_s, .int (nI z_s)]))] : va_W) (q_SI_hit_empty K x0 s0 l0 p0 k0 bf p1 pf a_s b_s z_s x y) := by
  refine CI_of (by decide) (Nat.le_of_ble_eq_true rfl) ?_
  intro p e s m below meth c A b0 ls hF hA hP hD hl
  have hF2 := hF
  obtain ⟨hx, hb, hr, hml, hown, htw, hK, hlocks, hname⟩ := hF
  have hS : va_S A s.heap s.heap [] := va_S.rf
  have hl : lv_has ls 5 [(0, .ref x0), (1, .int x), (2, .int y)] := hl
  refine lv_aload_n hx hb d_SI_hit_0 rfl (lv_at hl 0 rfl) ?_
  refine xg hx hb hown htw hK hP 0 2 rfl k_SI (by decide) fl_SI_26 rfl d_SI_hit_1 ?_
  refine xcV_r (As := []) (rest := []) (wr := ([(x0, .inr (6, [.ref s0, .ref l0, .ref p0, .ref k0, .int (nI bf)]))] : va_W)) hx hb hml hown htw hK hA hl.1 hP hD hS (c_Pl_uppermost_0 l D K p0 p1 pf a_s b_s z_s (by first | assumption | omega)) [1, 2, 3] [0] rfl rfl (by decide) (by decide) (by decide) 0 rfl k_Pl ml_SI_151 w_Pl_uppermost rfl ⟨by decide, by decide⟩ rfl (Nat.le_of_ble_eq_true rfl) ⟨by decide, by decide⟩ d_SI_hit_4 (fun r_4 u H locs hpost hP hD hS => ?_)
  obtain ⟨rfl, hr_4⟩ := hpost
  replace hr_4 := hr_4.symm
  subst hr_4
  have hP : va_P D classes ([(x0, .inr (6, [.ref s0, .ref l0, .ref p0, .ref k0, .int (nI bf)])), (p0, .inr (2, [.ref p1, .int (nI 0)])), (p1, .inl (K 3, 9, .inr (.inr (.inr (.inr pf))))), (a_s, .inr (0, [.ref b_s, .int (nI 0)]))] : va_W) H := hP
  have hD : va_D A ([(x0, .inr (6, [.ref s0, .ref l0, .ref p0, .ref k0, .int (nI bf)])), (p0, .inr (2, [.ref p1, .int (nI 0)])), (p1, .inl (K 3, 9, .inr (.inr (.inr (.inr pf))))), (a_s, .inr (0, [.ref b_s, .int (nI 0)]))] : va_W) := hD
  refine lv_astore_n (lv' := [(3, .ref a_s), (0, .ref x0), (1, .int x), (2, .int y)]) hx hb d_SI_hit_7 rfl hl (by decide) rfl (fun ls hl => ?_)
  refine lv_iload_n hx hb d_SI_hit_8 rfl (lv_at hl 2 rfl) ?_
  refine lv_if_lt (tgt := 20) hx hb d_SI_hit_9 (by decide) (fun c_9 => ?_) (fun c_9 => ?_)
  · refine lv_iconst (v := zI (-1)) hx hb d_SI_hit_20 (by decide) ?_
    exact xr_iret hx hb hr hlocks hP hD hS (Nat.le_of_ble_eq_true rfl) (Nat.le_of_ble_eq_true rfl) (⟨rfl, rfl⟩) d_SI_hit_21
  · refine lv_iload_n hx hb d_SI_hit_12 rfl (lv_at hl 2 rfl) ?_
    refine lv_aload_n hx hb d_SI_hit_13 rfl (lv_at hl 0 rfl) ?_
    refine xg hx hb hown htw hK hP 3 1 rfl k_HS (by decide) fl_SI_172 rfl d_SI_hit_14 ?_
    refine lv_icmp_lt (tgt := 22) hx hb d_SI_hit_17 (by decide) (fun c_17 => ?_) (fun c_17 => ?_)
    · exact absurd c_17 c_9
    · refine lv_iconst (v := zI (-1)) hx hb d_SI_hit_20 (by decide) ?_
      exact xr_iret hx hb hr hlocks hP hD hS (Nat.le_of_ble_eq_true rfl) (Nat.le_of_ble_eq_true rfl) (⟨rfl, rfl⟩) d_SI_hit_21

abbrev q_SI_hit_no (K : Nat → ClassId) (x0 : Nat) (s0 : Nat) (l0 : Nat) (p0 : Nat) (k0 : Nat) (bf : Nat) (p1 : Nat) (ht : Nat) (pf : Nat → Option Nat) (a_s : Nat) (b_s : Nat) (z_s : Nat) (g_s : Nat → Nat) (x : Int32) (y : Int32) : Int32 → va_W → Prop := fun r u => u = ([(x0, .inr (6, [.ref s0, .ref l0, .ref p0, .ref k0, .int (nI bf)])), (p0, .inr (2, [.ref p1, .int (nI ht)])), (p1, .inl (K 3, 9, .inr (.inr (.inr (.inr pf))))), (a_s, .inr (0, [.ref b_s, .int (nI z_s)])), (b_s, .inl (K 0, 512, .inl (nA g_s)))] : va_W) ∧ r = zI (-1)
set_option maxHeartbeats 4000000 in
set_option maxRecDepth 100000 in
theorem c_SI_hit_no (l : Launch) (D : va_G) (K : Nat → ClassId) (x0 : Nat) (s0 : Nat) (l0 : Nat) (p0 : Nat) (k0 : Nat) (bf : Nat) (p1 : Nat) (ht : Nat) (pf : Nat → Option Nat) (a_s : Nat) (b_s : Nat) (z_s : Nat) (g_s : Nat → Nat) (x : Int32) (y : Int32) (h0 : 0 < ht) (hht : ht < 9) (hf : pf (ht - 1) = some a_s) (hz_s : z_s ≤ 512) (hb_s : ∀ k, k < z_s → g_s k < 2 ^ 24) (hi_s : st_inc z_s g_s) (hout : x < 0 ∨ nI z_s ≤ x) : CI l y_SI_hit b_SI_hit 5 .int ({ frames := 4, cells := 0, slots := 0, locals := 120 } : Room) D K [.ref x0, .int x, .int y] ([(x0, .inr (6, [.ref s0, .ref l0, .ref p0, .ref k0, .int (nI bf)])), (p0, .inr (2, [.ref p1, .int (nI ht)])), (p1, .inl (K 3, 9, .inr (.inr (.inr (.inr pf))))), (a_s, .inr (0, [.ref b_s, .int (nI z_s)])), (b_s, .inl (K 0, 512, .inl (nA g_s)))] : va_W) (q_SI_hit_no K x0 s0 l0 p0 k0 bf p1 ht pf a_s b_s z_s g_s x y) := by
  refine CI_of (by decide) (Nat.le_of_ble_eq_true rfl) ?_
  intro p e s m below meth c A b0 ls hF hA hP hD hl
  have hF2 := hF
  obtain ⟨hx, hb, hr, hml, hown, htw, hK, hlocks, hname⟩ := hF
  have hS : va_S A s.heap s.heap [] := va_S.rf
  have hl : lv_has ls 5 [(0, .ref x0), (1, .int x), (2, .int y)] := hl
  refine lv_aload_n hx hb d_SI_hit_0 rfl (lv_at hl 0 rfl) ?_
  refine xg hx hb hown htw hK hP 0 2 rfl k_SI (by decide) fl_SI_26 rfl d_SI_hit_1 ?_
  refine xcV_r (As := []) (rest := []) (wr := ([(x0, .inr (6, [.ref s0, .ref l0, .ref p0, .ref k0, .int (nI bf)])), (a_s, .inr (0, [.ref b_s, .int (nI z_s)])), (b_s, .inl (K 0, 512, .inl (nA g_s)))] : va_W)) hx hb hml hown htw hK hA hl.1 hP hD hS (c_Pl_uppermost_1 l D K p0 p1 ht pf a_s (by first | assumption | omega) (by first | assumption | omega) (by first | assumption | omega)) [1, 2] [0, 3, 4] rfl rfl (by decide) (by decide) (by decide) 0 rfl k_Pl ml_SI_151 w_Pl_uppermost rfl ⟨by decide, by decide⟩ rfl (Nat.le_of_ble_eq_true rfl) ⟨by decide, by decide⟩ d_SI_hit_4 (fun r_4 u H locs hpost hP hD hS => ?_)
  obtain ⟨rfl, hr_4⟩ := hpost
  replace hr_4 := hr_4.symm
  subst hr_4
  have hP : va_P D classes ([(x0, .inr (6, [.ref s0, .ref l0, .ref p0, .ref k0, .int (nI bf)])), (a_s, .inr (0, [.ref b_s, .int (nI z_s)])), (b_s, .inl (K 0, 512, .inl (nA g_s))), (p0, .inr (2, [.ref p1, .int (nI ht)])), (p1, .inl (K 3, 9, .inr (.inr (.inr (.inr pf)))))] : va_W) H := hP
  have hD : va_D A ([(x0, .inr (6, [.ref s0, .ref l0, .ref p0, .ref k0, .int (nI bf)])), (a_s, .inr (0, [.ref b_s, .int (nI z_s)])), (b_s, .inl (K 0, 512, .inl (nA g_s))), (p0, .inr (2, [.ref p1, .int (nI ht)])), (p1, .inl (K 3, 9, .inr (.inr (.inr (.inr pf)))))] : va_W) := hD
  refine lv_astore_n (lv' := [(3, .ref a_s), (0, .ref x0), (1, .int x), (2, .int y)]) hx hb d_SI_hit_7 rfl hl (by decide) rfl (fun ls hl => ?_)
  refine lv_iload_n hx hb d_SI_hit_8 rfl (lv_at hl 2 rfl) ?_
  refine lv_if_lt (tgt := 20) hx hb d_SI_hit_9 (by decide) (fun c_9 => ?_) (fun c_9 => ?_)
  · refine lv_iconst (v := zI (-1)) hx hb d_SI_hit_20 (by decide) ?_
    obtain ⟨hP, hD⟩ := xp (ws' := [(x0, .inr (6, [.ref s0, .ref l0, .ref p0, .ref k0, .int (nI bf)])), (p0, .inr (2, [.ref p1, .int (nI ht)])), (p1, .inl (K 3, 9, .inr (.inr (.inr (.inr pf))))), (a_s, .inr (0, [.ref b_s, .int (nI z_s)])), (b_s, .inl (K 0, 512, .inl (nA g_s)))]) hP hD [0, 3, 4, 1, 2] (by decide) rfl
    exact xr_iret hx hb hr hlocks hP hD hS (Nat.le_of_ble_eq_true rfl) (Nat.le_of_ble_eq_true rfl) (⟨rfl, rfl⟩) d_SI_hit_21
  · refine lv_iload_n hx hb d_SI_hit_12 rfl (lv_at hl 2 rfl) ?_
    refine lv_aload_n hx hb d_SI_hit_13 rfl (lv_at hl 0 rfl) ?_
    refine xg hx hb hown htw hK hP 1 1 rfl k_HS (by decide) fl_SI_172 rfl d_SI_hit_14 ?_
    refine lv_icmp_lt (tgt := 22) hx hb d_SI_hit_17 (by decide) (fun c_17 => ?_) (fun c_17 => ?_)
    · exact absurd hout (fun q => q.elim c_9 (fun q => absurd c_17 (Int32.not_lt.mpr q)))
    · refine lv_iconst (v := zI (-1)) hx hb d_SI_hit_20 (by decide) ?_
      obtain ⟨hP, hD⟩ := xp (ws' := [(x0, .inr (6, [.ref s0, .ref l0, .ref p0, .ref k0, .int (nI bf)])), (p0, .inr (2, [.ref p1, .int (nI ht)])), (p1, .inl (K 3, 9, .inr (.inr (.inr (.inr pf))))), (a_s, .inr (0, [.ref b_s, .int (nI z_s)])), (b_s, .inl (K 0, 512, .inl (nA g_s)))]) hP hD [0, 3, 4, 1, 2] (by decide) rfl
      exact xr_iret hx hb hr hlocks hP hD hS (Nat.le_of_ble_eq_true rfl) (Nat.le_of_ble_eq_true rfl) (⟨rfl, rfl⟩) d_SI_hit_21

abbrev q_SI_hit_0 (K : Nat → ClassId) (x0 : Nat) (s0 : Nat) (l0 : Nat) (p0 : Nat) (k0 : Nat) (bf : Nat) (p1 : Nat) (ht : Nat) (pf : Nat → Option Nat) (a_s : Nat) (b_s : Nat) (z_s : Nat) (g_s : Nat → Nat) (k : Nat) : Int32 → va_W → Prop := fun r u => u = ([(x0, .inr (6, [.ref s0, .ref l0, .ref p0, .ref k0, .int (nI bf)])), (p0, .inr (2, [.ref p1, .int (nI ht)])), (p1, .inl (K 3, 9, .inr (.inr (.inr (.inr pf))))), (a_s, .inr (0, [.ref b_s, .int (nI z_s)])), (b_s, .inl (K 0, 512, .inl (nA g_s)))] : va_W) ∧ r = nI (g_s k / 2 ^ 14)
set_option maxHeartbeats 4000000 in
set_option maxRecDepth 100000 in
theorem c_SI_hit_0 (l : Launch) (D : va_G) (K : Nat → ClassId) (x0 : Nat) (s0 : Nat) (l0 : Nat) (p0 : Nat) (k0 : Nat) (bf : Nat) (p1 : Nat) (ht : Nat) (pf : Nat → Option Nat) (a_s : Nat) (b_s : Nat) (z_s : Nat) (g_s : Nat → Nat) (k : Nat) (h0 : 0 < ht) (hht : ht < 9) (hf : pf (ht - 1) = some a_s) (hz_s : z_s ≤ 512) (hb_s : ∀ k, k < z_s → g_s k < 2 ^ 24) (hi_s : st_inc z_s g_s) (hk : k < z_s) : CI l y_SI_hit b_SI_hit 5 .int ({ frames := 4, cells := 0, slots := 0, locals := 120 } : Room) D K [.ref x0, .int (nI k), .int (nI 0)] ([(x0, .inr (6, [.ref s0, .ref l0, .ref p0, .ref k0, .int (nI bf)])), (p0, .inr (2, [.ref p1, .int (nI ht)])), (p1, .inl (K 3, 9, .inr (.inr (.inr (.inr pf))))), (a_s, .inr (0, [.ref b_s, .int (nI z_s)])), (b_s, .inl (K 0, 512, .inl (nA g_s)))] : va_W) (q_SI_hit_0 K x0 s0 l0 p0 k0 bf p1 ht pf a_s b_s z_s g_s k) := by
  refine CI_of (by decide) (Nat.le_of_ble_eq_true rfl) ?_
  intro p e s m below meth c A b0 ls hF hA hP hD hl
  have hF2 := hF
  obtain ⟨hx, hb, hr, hml, hown, htw, hK, hlocks, hname⟩ := hF
  have hS : va_S A s.heap s.heap [] := va_S.rf
  have hl : lv_has ls 5 [(0, .ref x0), (1, .int (nI k)), (2, .int (nI 0))] := hl
  refine lv_aload_n hx hb d_SI_hit_0 rfl (lv_at hl 0 rfl) ?_
  refine xg hx hb hown htw hK hP 0 2 rfl k_SI (by decide) fl_SI_26 rfl d_SI_hit_1 ?_
  refine xcV_r (As := []) (rest := []) (wr := ([(x0, .inr (6, [.ref s0, .ref l0, .ref p0, .ref k0, .int (nI bf)])), (a_s, .inr (0, [.ref b_s, .int (nI z_s)])), (b_s, .inl (K 0, 512, .inl (nA g_s)))] : va_W)) hx hb hml hown htw hK hA hl.1 hP hD hS (c_Pl_uppermost_1 l D K p0 p1 ht pf a_s (by first | assumption | omega) (by first | assumption | omega) (by first | assumption | omega)) [1, 2] [0, 3, 4] rfl rfl (by decide) (by decide) (by decide) 0 rfl k_Pl ml_SI_151 w_Pl_uppermost rfl ⟨by decide, by decide⟩ rfl (Nat.le_of_ble_eq_true rfl) ⟨by decide, by decide⟩ d_SI_hit_4 (fun r_4 u H locs hpost hP hD hS => ?_)
  obtain ⟨rfl, hr_4⟩ := hpost
  replace hr_4 := hr_4.symm
  subst hr_4
  have hP : va_P D classes ([(x0, .inr (6, [.ref s0, .ref l0, .ref p0, .ref k0, .int (nI bf)])), (a_s, .inr (0, [.ref b_s, .int (nI z_s)])), (b_s, .inl (K 0, 512, .inl (nA g_s))), (p0, .inr (2, [.ref p1, .int (nI ht)])), (p1, .inl (K 3, 9, .inr (.inr (.inr (.inr pf)))))] : va_W) H := hP
  have hD : va_D A ([(x0, .inr (6, [.ref s0, .ref l0, .ref p0, .ref k0, .int (nI bf)])), (a_s, .inr (0, [.ref b_s, .int (nI z_s)])), (b_s, .inl (K 0, 512, .inl (nA g_s))), (p0, .inr (2, [.ref p1, .int (nI ht)])), (p1, .inl (K 3, 9, .inr (.inr (.inr (.inr pf)))))] : va_W) := hD
  refine lv_astore_n (lv' := [(3, .ref a_s), (0, .ref x0), (1, .int (nI k)), (2, .int (nI 0))]) hx hb d_SI_hit_7 rfl hl (by decide) rfl (fun ls hl => ?_)
  refine lv_iload_n hx hb d_SI_hit_8 rfl (lv_at hl 2 rfl) ?_
  refine xz_lt (a := k) hx hb (by omega) d_SI_hit_9 20 (by decide) ?_
  refine lv_iload_n hx hb d_SI_hit_12 rfl (lv_at hl 2 rfl) ?_
  refine lv_aload_n hx hb d_SI_hit_13 rfl (lv_at hl 0 rfl) ?_
  refine xg hx hb hown htw hK hP 1 1 rfl k_HS (by decide) fl_SI_172 rfl d_SI_hit_14 ?_
  refine xc_lt (tgt := 22) (a := k) (b := z_s) hx hb (by omega) (by omega) d_SI_hit_17 (by decide) (fun c_17 => ?_) (fun c_17 => ?_)
  · refine lv_aload_n hx hb d_SI_hit_22 rfl (lv_at hl 0 rfl) ?_
    refine xg hx hb hown htw hK hP 1 0 rfl k_HS (by decide) fl_SI_174 rfl d_SI_hit_23 ?_
    refine lv_iload_n hx hb d_SI_hit_26 rfl (lv_at hl 2 rfl) ?_
    refine xald_i hx hb hK hP 2 rfl (by omega) (by omega) d_SI_hit_27 ?_
    refine xi (y := nI (g_s k)) rfl ?_
    refine lv_istore (lv' := [(4, .int (nI (g_s k))), (3, .ref a_s), (0, .ref x0), (1, .int (nI k)), (2, .int (nI 0))]) hx hb d_SI_hit_28 hl (by decide) rfl (fun ls hl => ?_)
    refine lv_iload_n hx hb d_SI_hit_30 rfl (lv_at hl 4 rfl) ?_
    refine lv_tableIn (off := 25) (tgt := 56) hx hb d_SI_hit_31 (by decide) (by decide) rfl (by decide) ?_
    refine lv_iload hx hb d_SI_hit_56 (lv_at hl 0 rfl) ?_
    refine xcS_i (As := [.int (nI (g_s k))]) (rest := []) (wr := ([(x0, .inr (6, [.ref s0, .ref l0, .ref p0, .ref k0, .int (nI bf)])), (a_s, .inr (0, [.ref b_s, .int (nI z_s)])), (b_s, .inl (K 0, 512, .inl (nA g_s))), (p0, .inr (2, [.ref p1, .int (nI ht)])), (p1, .inl (K 3, 9, .inr (.inr (.inr (.inr pf)))))] : va_W)) hx hb hml hown htw hK hA hl.1 hP hD hS (c_SI_documentOf l D K (g_s k) (by have := hb_s k hk; omega)) [] [0, 1, 2, 3, 4] rfl rfl (by decide) (by decide) (by decide) ml_SI_177 w_SI_documentOf rfl ⟨by decide, by decide⟩ rfl (Nat.le_of_ble_eq_true rfl) ⟨by decide, by decide⟩ d_SI_hit_58 (fun r u H locs hpost hP hD hS => ?_)
    obtain ⟨rfl, rfl⟩ := hpost
    have hP : va_P D classes ([(x0, .inr (6, [.ref s0, .ref l0, .ref p0, .ref k0, .int (nI bf)])), (a_s, .inr (0, [.ref b_s, .int (nI z_s)])), (b_s, .inl (K 0, 512, .inl (nA g_s))), (p0, .inr (2, [.ref p1, .int (nI ht)])), (p1, .inl (K 3, 9, .inr (.inr (.inr (.inr pf)))))] : va_W) H := hP
    have hD : va_D A ([(x0, .inr (6, [.ref s0, .ref l0, .ref p0, .ref k0, .int (nI bf)])), (a_s, .inr (0, [.ref b_s, .int (nI z_s)])), (b_s, .inl (K 0, 512, .inl (nA g_s))), (p0, .inr (2, [.ref p1, .int (nI ht)])), (p1, .inl (K 3, 9, .inr (.inr (.inr (.inr pf)))))] : va_W) := hD
    obtain ⟨hP, hD⟩ := xp (ws' := [(x0, .inr (6, [.ref s0, .ref l0, .ref p0, .ref k0, .int (nI bf)])), (p0, .inr (2, [.ref p1, .int (nI ht)])), (p1, .inl (K 3, 9, .inr (.inr (.inr (.inr pf))))), (a_s, .inr (0, [.ref b_s, .int (nI z_s)])), (b_s, .inl (K 0, 512, .inl (nA g_s)))]) hP hD [0, 3, 4, 1, 2] (by decide) rfl
    exact xr_iret hx hb hr hlocks hP hD hS (Nat.le_of_ble_eq_true rfl) (Nat.le_of_ble_eq_true rfl) (⟨rfl, rfl⟩) d_SI_hit_61
  · omega

abbrev q_SI_hit_1 (K : Nat → ClassId) (x0 : Nat) (s0 : Nat) (l0 : Nat) (p0 : Nat) (k0 : Nat) (bf : Nat) (p1 : Nat) (ht : Nat) (pf : Nat → Option Nat) (a_s : Nat) (b_s : Nat) (z_s : Nat) (g_s : Nat → Nat) (k : Nat) : Int32 → va_W → Prop := fun r u => u = ([(x0, .inr (6, [.ref s0, .ref l0, .ref p0, .ref k0, .int (nI bf)])), (p0, .inr (2, [.ref p1, .int (nI ht)])), (p1, .inl (K 3, 9, .inr (.inr (.inr (.inr pf))))), (a_s, .inr (0, [.ref b_s, .int (nI z_s)])), (b_s, .inl (K 0, 512, .inl (nA g_s)))] : va_W) ∧ r = nI (g_s k / 2 ^ 12 % 2 ^ 2)
set_option maxHeartbeats 4000000 in
set_option maxRecDepth 100000 in
theorem c_SI_hit_1 (l : Launch) (D : va_G) (K : Nat → ClassId) (x0 : Nat) (s0 : Nat) (l0 : Nat) (p0 : Nat) (k0 : Nat) (bf : Nat) (p1 : Nat) (ht : Nat) (pf : Nat → Option Nat) (a_s : Nat) (b_s : Nat) (z_s : Nat) (g_s : Nat → Nat) (k : Nat) (h0 : 0 < ht) (hht : ht < 9) (hf : pf (ht - 1) = some a_s) (hz_s : z_s ≤ 512) (hb_s : ∀ k, k < z_s → g_s k < 2 ^ 24) (hi_s : st_inc z_s g_s) (hk : k < z_s) : CI l y_SI_hit b_SI_hit 5 .int ({ frames := 4, cells := 0, slots := 0, locals := 120 } : Room) D K [.ref x0, .int (nI k), .int (nI 1)] ([(x0, .inr (6, [.ref s0, .ref l0, .ref p0, .ref k0, .int (nI bf)])), (p0, .inr (2, [.ref p1, .int (nI ht)])), (p1, .inl (K 3, 9, .inr (.inr (.inr (.inr pf))))), (a_s, .inr (0, [.ref b_s, .int (nI z_s)])), (b_s, .inl (K 0, 512, .inl (nA g_s)))] : va_W) (q_SI_hit_1 K x0 s0 l0 p0 k0 bf p1 ht pf a_s b_s z_s g_s k) := by
  refine CI_of (by decide) (Nat.le_of_ble_eq_true rfl) ?_
  intro p e s m below meth c A b0 ls hF hA hP hD hl
  have hF2 := hF
  obtain ⟨hx, hb, hr, hml, hown, htw, hK, hlocks, hname⟩ := hF
  have hS : va_S A s.heap s.heap [] := va_S.rf
  have hl : lv_has ls 5 [(0, .ref x0), (1, .int (nI k)), (2, .int (nI 1))] := hl
  refine lv_aload_n hx hb d_SI_hit_0 rfl (lv_at hl 0 rfl) ?_
  refine xg hx hb hown htw hK hP 0 2 rfl k_SI (by decide) fl_SI_26 rfl d_SI_hit_1 ?_
  refine xcV_r (As := []) (rest := []) (wr := ([(x0, .inr (6, [.ref s0, .ref l0, .ref p0, .ref k0, .int (nI bf)])), (a_s, .inr (0, [.ref b_s, .int (nI z_s)])), (b_s, .inl (K 0, 512, .inl (nA g_s)))] : va_W)) hx hb hml hown htw hK hA hl.1 hP hD hS (c_Pl_uppermost_1 l D K p0 p1 ht pf a_s (by first | assumption | omega) (by first | assumption | omega) (by first | assumption | omega)) [1, 2] [0, 3, 4] rfl rfl (by decide) (by decide) (by decide) 0 rfl k_Pl ml_SI_151 w_Pl_uppermost rfl ⟨by decide, by decide⟩ rfl (Nat.le_of_ble_eq_true rfl) ⟨by decide, by decide⟩ d_SI_hit_4 (fun r_4 u H locs hpost hP hD hS => ?_)
  obtain ⟨rfl, hr_4⟩ := hpost
  replace hr_4 := hr_4.symm
  subst hr_4
  have hP : va_P D classes ([(x0, .inr (6, [.ref s0, .ref l0, .ref p0, .ref k0, .int (nI bf)])), (a_s, .inr (0, [.ref b_s, .int (nI z_s)])), (b_s, .inl (K 0, 512, .inl (nA g_s))), (p0, .inr (2, [.ref p1, .int (nI ht)])), (p1, .inl (K 3, 9, .inr (.inr (.inr (.inr pf)))))] : va_W) H := hP
  have hD : va_D A ([(x0, .inr (6, [.ref s0, .ref l0, .ref p0, .ref k0, .int (nI bf)])), (a_s, .inr (0, [.ref b_s, .int (nI z_s)])), (b_s, .inl (K 0, 512, .inl (nA g_s))), (p0, .inr (2, [.ref p1, .int (nI ht)])), (p1, .inl (K 3, 9, .inr (.inr (.inr (.inr pf)))))] : va_W) := hD
  refine lv_astore_n (lv' := [(3, .ref a_s), (0, .ref x0), (1, .int (nI k)), (2, .int (nI 1))]) hx hb d_SI_hit_7 rfl hl (by decide) rfl (fun ls hl => ?_)
  refine lv_iload_n hx hb d_SI_hit_8 rfl (lv_at hl 2 rfl) ?_
  refine xz_lt (a := k) hx hb (by omega) d_SI_hit_9 20 (by decide) ?_
  refine lv_iload_n hx hb d_SI_hit_12 rfl (lv_at hl 2 rfl) ?_
  refine lv_aload_n hx hb d_SI_hit_13 rfl (lv_at hl 0 rfl) ?_
  refine xg hx hb hown htw hK hP 1 1 rfl k_HS (by decide) fl_SI_172 rfl d_SI_hit_14 ?_
  refine xc_lt (tgt := 22) (a := k) (b := z_s) hx hb (by omega) (by omega) d_SI_hit_17 (by decide) (fun c_17 => ?_) (fun c_17 => ?_)
  · refine lv_aload_n hx hb d_SI_hit_22 rfl (lv_at hl 0 rfl) ?_
    refine xg hx hb hown htw hK hP 1 0 rfl k_HS (by decide) fl_SI_174 rfl d_SI_hit_23 ?_
    refine lv_iload_n hx hb d_SI_hit_26 rfl (lv_at hl 2 rfl) ?_
    refine xald_i hx hb hK hP 2 rfl (by omega) (by omega) d_SI_hit_27 ?_
    refine xi (y := nI (g_s k)) rfl ?_
    refine lv_istore (lv' := [(4, .int (nI (g_s k))), (3, .ref a_s), (0, .ref x0), (1, .int (nI k)), (2, .int (nI 1))]) hx hb d_SI_hit_28 hl (by decide) rfl (fun ls hl => ?_)
    refine lv_iload_n hx hb d_SI_hit_30 rfl (lv_at hl 4 rfl) ?_
    refine lv_tableIn (off := 31) (tgt := 62) hx hb d_SI_hit_31 (by decide) (by decide) rfl (by decide) ?_
    refine lv_iload hx hb d_SI_hit_62 (lv_at hl 0 rfl) ?_
    refine xcS_i (As := [.int (nI (g_s k))]) (rest := []) (wr := ([(x0, .inr (6, [.ref s0, .ref l0, .ref p0, .ref k0, .int (nI bf)])), (a_s, .inr (0, [.ref b_s, .int (nI z_s)])), (b_s, .inl (K 0, 512, .inl (nA g_s))), (p0, .inr (2, [.ref p1, .int (nI ht)])), (p1, .inl (K 3, 9, .inr (.inr (.inr (.inr pf)))))] : va_W)) hx hb hml hown htw hK hA hl.1 hP hD hS (c_SI_fieldOf l D K (g_s k) (by have := hb_s k hk; omega)) [] [0, 1, 2, 3, 4] rfl rfl (by decide) (by decide) (by decide) ml_SI_180 w_SI_fieldOf rfl ⟨by decide, by decide⟩ rfl (Nat.le_of_ble_eq_true rfl) ⟨by decide, by decide⟩ d_SI_hit_64 (fun r u H locs hpost hP hD hS => ?_)
    obtain ⟨rfl, rfl⟩ := hpost
    have hP : va_P D classes ([(x0, .inr (6, [.ref s0, .ref l0, .ref p0, .ref k0, .int (nI bf)])), (a_s, .inr (0, [.ref b_s, .int (nI z_s)])), (b_s, .inl (K 0, 512, .inl (nA g_s))), (p0, .inr (2, [.ref p1, .int (nI ht)])), (p1, .inl (K 3, 9, .inr (.inr (.inr (.inr pf)))))] : va_W) H := hP
    have hD : va_D A ([(x0, .inr (6, [.ref s0, .ref l0, .ref p0, .ref k0, .int (nI bf)])), (a_s, .inr (0, [.ref b_s, .int (nI z_s)])), (b_s, .inl (K 0, 512, .inl (nA g_s))), (p0, .inr (2, [.ref p1, .int (nI ht)])), (p1, .inl (K 3, 9, .inr (.inr (.inr (.inr pf)))))] : va_W) := hD
    obtain ⟨hP, hD⟩ := xp (ws' := [(x0, .inr (6, [.ref s0, .ref l0, .ref p0, .ref k0, .int (nI bf)])), (p0, .inr (2, [.ref p1, .int (nI ht)])), (p1, .inl (K 3, 9, .inr (.inr (.inr (.inr pf))))), (a_s, .inr (0, [.ref b_s, .int (nI z_s)])), (b_s, .inl (K 0, 512, .inl (nA g_s)))]) hP hD [0, 3, 4, 1, 2] (by decide) rfl
    exact xr_iret hx hb hr hlocks hP hD hS (Nat.le_of_ble_eq_true rfl) (Nat.le_of_ble_eq_true rfl) (⟨rfl, rfl⟩) d_SI_hit_67
  · omega

abbrev q_SI_hit_2 (K : Nat → ClassId) (x0 : Nat) (s0 : Nat) (l0 : Nat) (p0 : Nat) (k0 : Nat) (bf : Nat) (p1 : Nat) (ht : Nat) (pf : Nat → Option Nat) (a_s : Nat) (b_s : Nat) (z_s : Nat) (g_s : Nat → Nat) (k : Nat) : Int32 → va_W → Prop := fun r u => u = ([(x0, .inr (6, [.ref s0, .ref l0, .ref p0, .ref k0, .int (nI bf)])), (p0, .inr (2, [.ref p1, .int (nI ht)])), (p1, .inl (K 3, 9, .inr (.inr (.inr (.inr pf))))), (a_s, .inr (0, [.ref b_s, .int (nI z_s)])), (b_s, .inl (K 0, 512, .inl (nA g_s)))] : va_W) ∧ r = nI (g_s k % 2 ^ 12)
set_option maxHeartbeats 4000000 in
set_option maxRecDepth 100000 in
theorem c_SI_hit_2 (l : Launch) (D : va_G) (K : Nat → ClassId) (x0 : Nat) (s0 : Nat) (l0 : Nat) (p0 : Nat) (k0 : Nat) (bf : Nat) (p1 : Nat) (ht : Nat) (pf : Nat → Option Nat) (a_s : Nat) (b_s : Nat) (z_s : Nat) (g_s : Nat → Nat) (k : Nat) (h0 : 0 < ht) (hht : ht < 9) (hf : pf (ht - 1) = some a_s) (hz_s : z_s ≤ 512) (hb_s : ∀ k, k < z_s → g_s k < 2 ^ 24) (hi_s : st_inc z_s g_s) (hk : k < z_s) : CI l y_SI_hit b_SI_hit 5 .int ({ frames := 4, cells := 0, slots := 0, locals := 120 } : Room) D K [.ref x0, .int (nI k), .int (nI 2)] ([(x0, .inr (6, [.ref s0, .ref l0, .ref p0, .ref k0, .int (nI bf)])), (p0, .inr (2, [.ref p1, .int (nI ht)])), (p1, .inl (K 3, 9, .inr (.inr (.inr (.inr pf))))), (a_s, .inr (0, [.ref b_s, .int (nI z_s)])), (b_s, .inl (K 0, 512, .inl (nA g_s)))] : va_W) (q_SI_hit_2 K x0 s0 l0 p0 k0 bf p1 ht pf a_s b_s z_s g_s k) := by
  refine CI_of (by decide) (Nat.le_of_ble_eq_true rfl) ?_
  intro p e s m below meth c A b0 ls hF hA hP hD hl
  have hF2 := hF
  obtain ⟨hx, hb, hr, hml, hown, htw, hK, hlocks, hname⟩ := hF
  have hS : va_S A s.heap s.heap [] := va_S.rf
  have hl : lv_has ls 5 [(0, .ref x0), (1, .int (nI k)), (2, .int (nI 2))] := hl
  refine lv_aload_n hx hb d_SI_hit_0 rfl (lv_at hl 0 rfl) ?_
  refine xg hx hb hown htw hK hP 0 2 rfl k_SI (by decide) fl_SI_26 rfl d_SI_hit_1 ?_
  refine xcV_r (As := []) (rest := []) (wr := ([(x0, .inr (6, [.ref s0, .ref l0, .ref p0, .ref k0, .int (nI bf)])), (a_s, .inr (0, [.ref b_s, .int (nI z_s)])), (b_s, .inl (K 0, 512, .inl (nA g_s)))] : va_W)) hx hb hml hown htw hK hA hl.1 hP hD hS (c_Pl_uppermost_1 l D K p0 p1 ht pf a_s (by first | assumption | omega) (by first | assumption | omega) (by first | assumption | omega)) [1, 2] [0, 3, 4] rfl rfl (by decide) (by decide) (by decide) 0 rfl k_Pl ml_SI_151 w_Pl_uppermost rfl ⟨by decide, by decide⟩ rfl (Nat.le_of_ble_eq_true rfl) ⟨by decide, by decide⟩ d_SI_hit_4 (fun r_4 u H locs hpost hP hD hS => ?_)
  obtain ⟨rfl, hr_4⟩ := hpost
  replace hr_4 := hr_4.symm
  subst hr_4
  have hP : va_P D classes ([(x0, .inr (6, [.ref s0, .ref l0, .ref p0, .ref k0, .int (nI bf)])), (a_s, .inr (0, [.ref b_s, .int (nI z_s)])), (b_s, .inl (K 0, 512, .inl (nA g_s))), (p0, .inr (2, [.ref p1, .int (nI ht)])), (p1, .inl (K 3, 9, .inr (.inr (.inr (.inr pf)))))] : va_W) H := hP
  have hD : va_D A ([(x0, .inr (6, [.ref s0, .ref l0, .ref p0, .ref k0, .int (nI bf)])), (a_s, .inr (0, [.ref b_s, .int (nI z_s)])), (b_s, .inl (K 0, 512, .inl (nA g_s))), (p0, .inr (2, [.ref p1, .int (nI ht)])), (p1, .inl (K 3, 9, .inr (.inr (.inr (.inr pf)))))] : va_W) := hD
  refine lv_astore_n (lv' := [(3, .ref a_s), (0, .ref x0), (1, .int (nI k)), (2, .int (nI 2))]) hx hb d_SI_hit_7 rfl hl (by decide) rfl (fun ls hl => ?_)
  refine lv_iload_n hx hb d_SI_hit_8 rfl (lv_at hl 2 rfl) ?_
  refine xz_lt (a := k) hx hb (by omega) d_SI_hit_9 20 (by decide) ?_
  refine lv_iload_n hx hb d_SI_hit_12 rfl (lv_at hl 2 rfl) ?_
  refine lv_aload_n hx hb d_SI_hit_13 rfl (lv_at hl 0 rfl) ?_
  refine xg hx hb hown htw hK hP 1 1 rfl k_HS (by decide) fl_SI_172 rfl d_SI_hit_14 ?_
  refine xc_lt (tgt := 22) (a := k) (b := z_s) hx hb (by omega) (by omega) d_SI_hit_17 (by decide) (fun c_17 => ?_) (fun c_17 => ?_)
  · refine lv_aload_n hx hb d_SI_hit_22 rfl (lv_at hl 0 rfl) ?_
    refine xg hx hb hown htw hK hP 1 0 rfl k_HS (by decide) fl_SI_174 rfl d_SI_hit_23 ?_
    refine lv_iload_n hx hb d_SI_hit_26 rfl (lv_at hl 2 rfl) ?_
    refine xald_i hx hb hK hP 2 rfl (by omega) (by omega) d_SI_hit_27 ?_
    refine xi (y := nI (g_s k)) rfl ?_
    refine lv_istore (lv' := [(4, .int (nI (g_s k))), (3, .ref a_s), (0, .ref x0), (1, .int (nI k)), (2, .int (nI 2))]) hx hb d_SI_hit_28 hl (by decide) rfl (fun ls hl => ?_)
    refine lv_iload_n hx hb d_SI_hit_30 rfl (lv_at hl 4 rfl) ?_
    refine lv_tableIn (off := 37) (tgt := 68) hx hb d_SI_hit_31 (by decide) (by decide) rfl (by decide) ?_
    refine lv_iload hx hb d_SI_hit_68 (lv_at hl 0 rfl) ?_
    refine xcS_i (As := [.int (nI (g_s k))]) (rest := []) (wr := ([(x0, .inr (6, [.ref s0, .ref l0, .ref p0, .ref k0, .int (nI bf)])), (a_s, .inr (0, [.ref b_s, .int (nI z_s)])), (b_s, .inl (K 0, 512, .inl (nA g_s))), (p0, .inr (2, [.ref p1, .int (nI ht)])), (p1, .inl (K 3, 9, .inr (.inr (.inr (.inr pf)))))] : va_W)) hx hb hml hown htw hK hA hl.1 hP hD hS (c_SI_placeOf l D K (g_s k) (by have := hb_s k hk; omega)) [] [0, 1, 2, 3, 4] rfl rfl (by decide) (by decide) (by decide) ml_SI_183 w_SI_placeOf rfl ⟨by decide, by decide⟩ rfl (Nat.le_of_ble_eq_true rfl) ⟨by decide, by decide⟩ d_SI_hit_70 (fun r u H locs hpost hP hD hS => ?_)
    obtain ⟨rfl, rfl⟩ := hpost
    have hP : va_P D classes ([(x0, .inr (6, [.ref s0, .ref l0, .ref p0, .ref k0, .int (nI bf)])), (a_s, .inr (0, [.ref b_s, .int (nI z_s)])), (b_s, .inl (K 0, 512, .inl (nA g_s))), (p0, .inr (2, [.ref p1, .int (nI ht)])), (p1, .inl (K 3, 9, .inr (.inr (.inr (.inr pf)))))] : va_W) H := hP
    have hD : va_D A ([(x0, .inr (6, [.ref s0, .ref l0, .ref p0, .ref k0, .int (nI bf)])), (a_s, .inr (0, [.ref b_s, .int (nI z_s)])), (b_s, .inl (K 0, 512, .inl (nA g_s))), (p0, .inr (2, [.ref p1, .int (nI ht)])), (p1, .inl (K 3, 9, .inr (.inr (.inr (.inr pf)))))] : va_W) := hD
    obtain ⟨hP, hD⟩ := xp (ws' := [(x0, .inr (6, [.ref s0, .ref l0, .ref p0, .ref k0, .int (nI bf)])), (p0, .inr (2, [.ref p1, .int (nI ht)])), (p1, .inl (K 3, 9, .inr (.inr (.inr (.inr pf))))), (a_s, .inr (0, [.ref b_s, .int (nI z_s)])), (b_s, .inl (K 0, 512, .inl (nA g_s)))]) hP hD [0, 3, 4, 1, 2] (by decide) rfl
    exact xr_iret hx hb hr hlocks hP hD hS (Nat.le_of_ble_eq_true rfl) (Nat.le_of_ble_eq_true rfl) (⟨rfl, rfl⟩) d_SI_hit_73
  · omega

abbrev q_SI_hit_other (K : Nat → ClassId) (x0 : Nat) (s0 : Nat) (l0 : Nat) (p0 : Nat) (k0 : Nat) (bf : Nat) (p1 : Nat) (ht : Nat) (pf : Nat → Option Nat) (a_s : Nat) (b_s : Nat) (z_s : Nat) (g_s : Nat → Nat) (k : Nat) (y : Int32) : Int32 → va_W → Prop := fun r u => u = ([(x0, .inr (6, [.ref s0, .ref l0, .ref p0, .ref k0, .int (nI bf)])), (p0, .inr (2, [.ref p1, .int (nI ht)])), (p1, .inl (K 3, 9, .inr (.inr (.inr (.inr pf))))), (a_s, .inr (0, [.ref b_s, .int (nI z_s)])), (b_s, .inl (K 0, 512, .inl (nA g_s)))] : va_W) ∧ r = zI (-1)
set_option maxHeartbeats 4000000 in
set_option maxRecDepth 100000 in
theorem c_SI_hit_other (l : Launch) (D : va_G) (K : Nat → ClassId) (x0 : Nat) (s0 : Nat) (l0 : Nat) (p0 : Nat) (k0 : Nat) (bf : Nat) (p1 : Nat) (ht : Nat) (pf : Nat → Option Nat) (a_s : Nat) (b_s : Nat) (z_s : Nat) (g_s : Nat → Nat) (k : Nat) (y : Int32) (h0 : 0 < ht) (hht : ht < 9) (hf : pf (ht - 1) = some a_s) (hz_s : z_s ≤ 512) (hb_s : ∀ k, k < z_s → g_s k < 2 ^ 24) (hi_s : st_inc z_s g_s) (hk : k < z_s) (hy : ¬ y = 0 ∧ ¬ y = nI 1 ∧ ¬ y = nI 2) : CI l y_SI_hit b_SI_hit 5 .int ({ frames := 4, cells := 0, slots := 0, locals := 120 } : Room) D K [.ref x0, .int (nI k), .int y] ([(x0, .inr (6, [.ref s0, .ref l0, .ref p0, .ref k0, .int (nI bf)])), (p0, .inr (2, [.ref p1, .int (nI ht)])), (p1, .inl (K 3, 9, .inr (.inr (.inr (.inr pf))))), (a_s, .inr (0, [.ref b_s, .int (nI z_s)])), (b_s, .inl (K 0, 512, .inl (nA g_s)))] : va_W) (q_SI_hit_other K x0 s0 l0 p0 k0 bf p1 ht pf a_s b_s z_s g_s k y) := by
  refine CI_of (by decide) (Nat.le_of_ble_eq_true rfl) ?_
  intro p e s m below meth c A b0 ls hF hA hP hD hl
  have hF2 := hF
  obtain ⟨hx, hb, hr, hml, hown, htw, hK, hlocks, hname⟩ := hF
  have hS : va_S A s.heap s.heap [] := va_S.rf
  have hl : lv_has ls 5 [(0, .ref x0), (1, .int (nI k)), (2, .int y)] := hl
  refine lv_aload_n hx hb d_SI_hit_0 rfl (lv_at hl 0 rfl) ?_
  refine xg hx hb hown htw hK hP 0 2 rfl k_SI (by decide) fl_SI_26 rfl d_SI_hit_1 ?_
  refine xcV_r (As := []) (rest := []) (wr := ([(x0, .inr (6, [.ref s0, .ref l0, .ref p0, .ref k0, .int (nI bf)])), (a_s, .inr (0, [.ref b_s, .int (nI z_s)])), (b_s, .inl (K 0, 512, .inl (nA g_s)))] : va_W)) hx hb hml hown htw hK hA hl.1 hP hD hS (c_Pl_uppermost_1 l D K p0 p1 ht pf a_s (by first | assumption | omega) (by first | assumption | omega) (by first | assumption | omega)) [1, 2] [0, 3, 4] rfl rfl (by decide) (by decide) (by decide) 0 rfl k_Pl ml_SI_151 w_Pl_uppermost rfl ⟨by decide, by decide⟩ rfl (Nat.le_of_ble_eq_true rfl) ⟨by decide, by decide⟩ d_SI_hit_4 (fun r_4 u H locs hpost hP hD hS => ?_)
  obtain ⟨rfl, hr_4⟩ := hpost
  replace hr_4 := hr_4.symm
  subst hr_4
  have hP : va_P D classes ([(x0, .inr (6, [.ref s0, .ref l0, .ref p0, .ref k0, .int (nI bf)])), (a_s, .inr (0, [.ref b_s, .int (nI z_s)])), (b_s, .inl (K 0, 512, .inl (nA g_s))), (p0, .inr (2, [.ref p1, .int (nI ht)])), (p1, .inl (K 3, 9, .inr (.inr (.inr (.inr pf)))))] : va_W) H := hP
  have hD : va_D A ([(x0, .inr (6, [.ref s0, .ref l0, .ref p0, .ref k0, .int (nI bf)])), (a_s, .inr (0, [.ref b_s, .int (nI z_s)])), (b_s, .inl (K 0, 512, .inl (nA g_s))), (p0, .inr (2, [.ref p1, .int (nI ht)])), (p1, .inl (K 3, 9, .inr (.inr (.inr (.inr pf)))))] : va_W) := hD
  refine lv_astore_n (lv' := [(3, .ref a_s), (0, .ref x0), (1, .int (nI k)), (2, .int y)]) hx hb d_SI_hit_7 rfl hl (by decide) rfl (fun ls hl => ?_)
  refine lv_iload_n hx hb d_SI_hit_8 rfl (lv_at hl 2 rfl) ?_
  refine xz_lt (a := k) hx hb (by omega) d_SI_hit_9 20 (by decide) ?_
  refine lv_iload_n hx hb d_SI_hit_12 rfl (lv_at hl 2 rfl) ?_
  refine lv_aload_n hx hb d_SI_hit_13 rfl (lv_at hl 0 rfl) ?_
  refine xg hx hb hown htw hK hP 1 1 rfl k_HS (by decide) fl_SI_172 rfl d_SI_hit_14 ?_
  refine xc_lt (tgt := 22) (a := k) (b := z_s) hx hb (by omega) (by omega) d_SI_hit_17 (by decide) (fun c_17 => ?_) (fun c_17 => ?_)
  · refine lv_aload_n hx hb d_SI_hit_22 rfl (lv_at hl 0 rfl) ?_
    refine xg hx hb hown htw hK hP 1 0 rfl k_HS (by decide) fl_SI_174 rfl d_SI_hit_23 ?_
    refine lv_iload_n hx hb d_SI_hit_26 rfl (lv_at hl 2 rfl) ?_
    refine xald_i hx hb hK hP 2 rfl (by omega) (by omega) d_SI_hit_27 ?_
    refine xi (y := nI (g_s k)) rfl ?_
    refine lv_istore (lv' := [(4, .int (nI (g_s k))), (3, .ref a_s), (0, .ref x0), (1, .int (nI k)), (2, .int y)]) hx hb d_SI_hit_28 hl (by decide) rfl (fun ls hl => ?_)
    refine lv_iload_n hx hb d_SI_hit_30 rfl (lv_at hl 4 rfl) ?_
    refine lv_tableOut (tgt := 74) hx hb d_SI_hit_31 (by exact tb_out2 hy) (by decide) ?_
    refine lv_iconst (v := zI (-1)) hx hb d_SI_hit_74 (by decide) ?_
    obtain ⟨hP, hD⟩ := xp (ws' := [(x0, .inr (6, [.ref s0, .ref l0, .ref p0, .ref k0, .int (nI bf)])), (p0, .inr (2, [.ref p1, .int (nI ht)])), (p1, .inl (K 3, 9, .inr (.inr (.inr (.inr pf))))), (a_s, .inr (0, [.ref b_s, .int (nI z_s)])), (b_s, .inl (K 0, 512, .inl (nA g_s)))]) hP hD [0, 3, 4, 1, 2] (by decide) rfl
    exact xr_iret hx hb hr hlocks hP hD hS (Nat.le_of_ble_eq_true rfl) (Nat.le_of_ble_eq_true rfl) (⟨rfl, rfl⟩) d_SI_hit_75
  · omega

abbrev q_SI_documents_0 (K : Nat → ClassId) (x0 : Nat) (s0 : Nat) (l0 : Nat) (p0 : Nat) (k0 : Nat) (bf : Nat) (p1 : Nat) (pf : Nat → Option Nat) (a_s : Nat) (b_s : Nat) (z_s : Nat) : Int32 → va_W → Prop := fun r u => u = ([(x0, .inr (6, [.ref s0, .ref l0, .ref p0, .ref k0, .int (nI bf)])), (p0, .inr (2, [.ref p1, .int (nI 0)])), (p1, .inl (K 3, 9, .inr (.inr (.inr (.inr pf))))), (a_s, .inr (0, [.ref b_s, .int (nI 0)]))] : va_W) ∧ r = nI 0
set_option maxHeartbeats 4000000 in
set_option maxRecDepth 100000 in
theorem c_SI_documents_0 (l : Launch) (D : va_G) (K : Nat → ClassId) (x0 : Nat) (s0 : Nat) (l0 : Nat) (p0 : Nat) (k0 : Nat) (bf : Nat) (p1 : Nat) (pf : Nat → Option Nat) (a_s : Nat) (b_s : Nat) (z_s : Nat) (hf : pf 0 = some a_s) : CI l y_SI_documents b_SI_documents 4 .int ({ frames := 4, cells := 0, slots := 0, locals := 120 } : Room) D K [.ref x0] ([(x0, .inr (6, [.ref s0, .ref l0, .ref p0, .ref k0, .int (nI bf)])), (p0, .inr (2, [.ref p1, .int (nI 0)])), (p1, .inl (K 3, 9, .inr (.inr (.inr (.inr pf))))), (a_s, .inr (0, [.ref b_s, .int (nI z_s)]))] : va_W) (q_SI_documents_0 K x0 s0 l0 p0 k0 bf p1 pf a_s b_s z_s) := by
  refine CI_of (by decide) (Nat.le_of_ble_eq_true rfl) ?_
  intro p e s m below meth c A b0 ls hF hA hP hD hl
  have hF2 := hF
  obtain ⟨hx, hb, hr, hml, hown, htw, hK, hlocks, hname⟩ := hF
  have hS : va_S A s.heap s.heap [] := va_S.rf
  have hl : lv_has ls 4 [(0, .ref x0)] := hl
  refine lv_aload_n hx hb d_SI_documents_0 rfl (lv_at hl 0 rfl) ?_
  refine xg hx hb hown htw hK hP 0 2 rfl k_SI (by decide) fl_SI_26 rfl d_SI_documents_1 ?_
  refine xcV_r (As := []) (rest := []) (wr := ([(x0, .inr (6, [.ref s0, .ref l0, .ref p0, .ref k0, .int (nI bf)]))] : va_W)) hx hb hml hown htw hK hA hl.1 hP hD hS (c_Pl_uppermost_0 l D K p0 p1 pf a_s b_s z_s (by first | assumption | omega)) [1, 2, 3] [0] rfl rfl (by decide) (by decide) (by decide) 0 rfl k_Pl ml_SI_151 w_Pl_uppermost rfl ⟨by decide, by decide⟩ rfl (Nat.le_of_ble_eq_true rfl) ⟨by decide, by decide⟩ d_SI_documents_4 (fun r_4 u H locs hpost hP hD hS => ?_)
  obtain ⟨rfl, hr_4⟩ := hpost
  replace hr_4 := hr_4.symm
  subst hr_4
  have hP : va_P D classes ([(x0, .inr (6, [.ref s0, .ref l0, .ref p0, .ref k0, .int (nI bf)])), (p0, .inr (2, [.ref p1, .int (nI 0)])), (p1, .inl (K 3, 9, .inr (.inr (.inr (.inr pf))))), (a_s, .inr (0, [.ref b_s, .int (nI 0)]))] : va_W) H := hP
  have hD : va_D A ([(x0, .inr (6, [.ref s0, .ref l0, .ref p0, .ref k0, .int (nI bf)])), (p0, .inr (2, [.ref p1, .int (nI 0)])), (p1, .inl (K 3, 9, .inr (.inr (.inr (.inr pf))))), (a_s, .inr (0, [.ref b_s, .int (nI 0)]))] : va_W) := hD
  refine lv_astore_n (lv' := [(1, .ref a_s), (0, .ref x0)]) hx hb d_SI_documents_7 rfl hl (by decide) rfl (fun ls hl => ?_)
  refine lv_iconst (v := nI 0) hx hb d_SI_documents_8 (by decide) ?_
  refine lv_istore_n (lv' := [(2, .int (nI 0)), (1, .ref a_s), (0, .ref x0)]) hx hb d_SI_documents_9 rfl hl (by decide) rfl (fun ls hl => ?_)
  refine lv_iconst (v := nI 0) hx hb d_SI_documents_10 (by decide) ?_
  refine lv_istore_n (lv' := [(3, .int (nI 0)), (2, .int (nI 0)), (1, .ref a_s), (0, .ref x0)]) hx hb d_SI_documents_11 rfl hl (by decide) rfl (fun ls hl => ?_)
  refine lv_iload_n hx hb d_SI_documents_12 rfl (lv_at hl 0 rfl) ?_
  refine lv_aload_n hx hb d_SI_documents_13 rfl (lv_at hl 2 rfl) ?_
  refine xg hx hb hown htw hK hP 3 1 rfl k_HS (by decide) fl_SI_172 rfl d_SI_documents_14 ?_
  refine xc_ge (tgt := 37) (a := 0) (b := 0) hx hb (by omega) (by omega) d_SI_documents_17 (by decide) (fun c_17 => ?_) (fun c_17 => ?_)
  · refine lv_iload_n hx hb d_SI_documents_37 rfl (lv_at hl 1 rfl) ?_
    exact xr_iret hx hb hr hlocks hP hD hS (Nat.le_of_ble_eq_true rfl) (Nat.le_of_ble_eq_true rfl) (⟨rfl, rfl⟩) d_SI_documents_38
  · omega

abbrev q_SI_documents_1 (K : Nat → ClassId) (x0 : Nat) (s0 : Nat) (l0 : Nat) (p0 : Nat) (k0 : Nat) (bf : Nat) (p1 : Nat) (ht : Nat) (pf : Nat → Option Nat) (a_s : Nat) (b_s : Nat) (z_s : Nat) (g_s : Nat → Nat) : Int32 → va_W → Prop := fun r u => u = ([(x0, .inr (6, [.ref s0, .ref l0, .ref p0, .ref k0, .int (nI bf)])), (p0, .inr (2, [.ref p1, .int (nI ht)])), (p1, .inl (K 3, 9, .inr (.inr (.inr (.inr pf))))), (a_s, .inr (0, [.ref b_s, .int (nI z_s)])), (b_s, .inl (K 0, 512, .inl (nA g_s)))] : va_W) ∧ r = nI (cnP (rkE z_s g_s) z_s)
set_option maxHeartbeats 4000000 in
set_option maxRecDepth 100000 in
theorem lp_SI_documents_1_12 {p : Program} {l : Launch} {e : Env} {s : State} {m : MethodId} {below : List Frame} {meth : Method} {c : Code} {A : Nat → Prop} {D : va_G} {K : Nat → ClassId} (x0 : Nat) (s0 : Nat) (l0 : Nat) (p0 : Nat) (k0 : Nat) (bf : Nat) (p1 : Nat) (ht : Nat) (pf : Nat → Option Nat) (a_s : Nat) (b_s : Nat) (z_s : Nat) (g_s : Nat → Nat) (h0 : 0 < ht) (hht : ht < 9) (hf : pf (ht - 1) = some a_s) (hz_s : z_s ≤ 512) (hb_s : ∀ k, k < z_s → g_s k < 2 ^ 24) (hi_s : st_inc z_s g_s) (hF : Fx p s m meth c y_SI_documents b_SI_documents 4 (some .int) D K) {b0 : Nat} (hA : AS K s A b0) : ∀ fuel : Nat, ∀ i : Nat, (i ≤ z_s) → z_s - i < fuel → ∀ (H : Heap) (locs : List Loc), va_P D classes ([(x0, .inr (6, [.ref s0, .ref l0, .ref p0, .ref k0, .int (nI bf)])), (p0, .inr (2, [.ref p1, .int (nI ht)])), (p1, .inl (K 3, 9, .inr (.inr (.inr (.inr pf))))), (a_s, .inr (0, [.ref b_s, .int (nI z_s)])), (b_s, .inl (K 0, 512, .inl (nA g_s)))] : va_W) H → va_D A ([(x0, .inr (6, [.ref s0, .ref l0, .ref p0, .ref k0, .int (nI bf)])), (p0, .inr (2, [.ref p1, .int (nI ht)])), (p1, .inl (K 3, 9, .inr (.inr (.inr (.inr pf))))), (a_s, .inr (0, [.ref b_s, .int (nI z_s)])), (b_s, .inl (K 0, 512, .inl (nA g_s)))] : va_W) → va_S A s.heap H locs → ∀ ls : Array Slot, lv_has ls 4 [(1, .ref a_s), (2, .int (nI (cnP (rkE z_s g_s) i))), (3, .int (nI i))] → W p l e ({ frames := 4, cells := 0, slots := 0, locals := 120 } : Room) s m ([.ref x0] : List Value).toArray below meth c H locs 0 0 (MQ below (va_Qi (q_SI_documents_1 K x0 s0 l0 p0 k0 bf p1 ht pf a_s b_s z_s g_s) (fun u t => va_P D classes u t.heap ∧ va_D A u) A) ([.ref x0] : List Value).toArray s 0 0 A) (F0 m 12 ls []) := by
  have hF2 := hF
  obtain ⟨hx, hb, hr, hml, hown, htw, hK, hlocks, hname⟩ := hF
  intro fuel
  induction fuel with
  | zero => intros; omega
  | succ fuel ih =>
    have jn_31 : ∀ i : Nat, ∀ cc2 : Nat, (i < z_s) → (z_s - i < fuel + 1) → (cc2 = cnP (rkE z_s g_s) (i + 1)) → ∀ (H : Heap) (locs : List Loc), va_P D classes ([(x0, .inr (6, [.ref s0, .ref l0, .ref p0, .ref k0, .int (nI bf)])), (p0, .inr (2, [.ref p1, .int (nI ht)])), (p1, .inl (K 3, 9, .inr (.inr (.inr (.inr pf))))), (a_s, .inr (0, [.ref b_s, .int (nI z_s)])), (b_s, .inl (K 0, 512, .inl (nA g_s)))] : va_W) H → va_D A ([(x0, .inr (6, [.ref s0, .ref l0, .ref p0, .ref k0, .int (nI bf)])), (p0, .inr (2, [.ref p1, .int (nI ht)])), (p1, .inl (K 3, 9, .inr (.inr (.inr (.inr pf))))), (a_s, .inr (0, [.ref b_s, .int (nI z_s)])), (b_s, .inl (K 0, 512, .inl (nA g_s)))] : va_W) → va_S A s.heap H locs → ∀ ls : Array Slot, lv_has ls 4 [(1, .ref a_s), (2, .int (nI cc2)), (3, .int (nI i))] → W p l e ({ frames := 4, cells := 0, slots := 0, locals := 120 } : Room) s m ([.ref x0] : List Value).toArray below meth c H locs 0 0 (MQ below (va_Qi (q_SI_documents_1 K x0 s0 l0 p0 k0 bf p1 ht pf a_s b_s z_s g_s) (fun u t => va_P D classes u t.heap ∧ va_D A u) A) ([.ref x0] : List Value).toArray s 0 0 A) (F0 m 31 ls []) := by
      intro i cc2 hi hfu hcc H locs hP hD hS ls hl
      subst hcc
      refine lv_iinc (v := nI (i + 1)) (lv' := [(3, .int (nI (i + 1))), (1, .ref a_s), (2, .int (nI (cnP (rkE z_s g_s) (i + 1))))]) hx hb d_SI_documents_31 hl (k := 2) rfl (inc_nI _ _) (by decide) rfl (fun ls hl => ?_)
      refine lv_goto (tgt := 12) hx hb d_SI_documents_34 (by decide) ?_
      exact ih (i + 1) (by first | assumption | omega) (by omega) _ _ hP hD hS _ (lv_sub hl [1, 2, 0] rfl)
    intro i hi hfu H locs hP hD hS ls hl
    refine lv_iload_n hx hb d_SI_documents_12 rfl (lv_at hl 2 rfl) ?_
    refine lv_aload_n hx hb d_SI_documents_13 rfl (lv_at hl 0 rfl) ?_
    refine xg hx hb hown htw hK hP 3 1 rfl k_HS (by decide) fl_SI_172 rfl d_SI_documents_14 ?_
    refine xc_ge (tgt := 37) (a := i) (b := z_s) hx hb (by omega) (by omega) d_SI_documents_17 (by decide) (fun c_17 => ?_) (fun c_17 => ?_)
    · have hk2 : z_s = i := by omega
      subst hk2
      refine lv_iload_n hx hb d_SI_documents_37 rfl (lv_at hl 1 rfl) ?_
      exact xr_iret hx hb hr hlocks hP hD hS (Nat.le_of_ble_eq_true rfl) (Nat.le_of_ble_eq_true rfl) (⟨rfl, rfl⟩) d_SI_documents_38
    · refine lv_aload_n hx hb d_SI_documents_20 rfl (lv_at hl 0 rfl) ?_
      refine lv_iload_n hx hb d_SI_documents_21 rfl (lv_at hl 2 rfl) ?_
      refine xcV_i (As := [.int (nI i)]) (rest := []) (wr := ([(x0, .inr (6, [.ref s0, .ref l0, .ref p0, .ref k0, .int (nI bf)])), (p0, .inr (2, [.ref p1, .int (nI ht)])), (p1, .inl (K 3, 9, .inr (.inr (.inr (.inr pf)))))] : va_W)) hx hb hml hown htw hK hA hl.1 hP hD hS (c_HS_endsDocument l D K a_s b_s z_s 512 g_s i (by first | assumption | omega) (by first | assumption | omega) (by first | assumption | omega) (by exact fun k hk => Nat.lt_trans (hb_s k hk) (by decide))) [3, 4] [0, 1, 2] rfl rfl (by decide) (by decide) (by decide) 0 rfl k_HS ml_SI_186 w_HS_endsDocument rfl ⟨by decide, by decide⟩ rfl (Nat.le_of_ble_eq_true rfl) ⟨by decide, by decide⟩ d_SI_documents_22 (fun r u H locs hpost hP hD hS => ?_)
      obtain ⟨rfl, rfl⟩ := hpost
      have hP : va_P D classes ([(x0, .inr (6, [.ref s0, .ref l0, .ref p0, .ref k0, .int (nI bf)])), (p0, .inr (2, [.ref p1, .int (nI ht)])), (p1, .inl (K 3, 9, .inr (.inr (.inr (.inr pf))))), (a_s, .inr (0, [.ref b_s, .int (nI z_s)])), (b_s, .inl (K 0, 512, .inl (nA g_s)))] : va_W) H := hP
      have hD : va_D A ([(x0, .inr (6, [.ref s0, .ref l0, .ref p0, .ref k0, .int (nI bf)])), (p0, .inr (2, [.ref p1, .int (nI ht)])), (p1, .inl (K 3, 9, .inr (.inr (.inr (.inr pf))))), (a_s, .inr (0, [.ref b_s, .int (nI z_s)])), (b_s, .inl (K 0, 512, .inl (nA g_s)))] : va_W) := hD
      refine xz_eq (tgt := 31) (a := bN (z_s ≤ i + 1 ∨ ¬ g_s (i + 1) / 2 ^ 14 = g_s i / 2 ^ 14)) hx hb (by exact bN_31 _) d_SI_documents_25 (by decide) (fun c_25 => ?_) (fun c_25 => ?_)
      · exact jn_31 i (cnP (rkE z_s g_s) i) (by first | assumption | omega) (by first | assumption | omega) (by exact (cnP_n (P := rkE z_s g_s) (bN_0.mp c_25)).symm) _ _ hP hD hS _ (lv_sub hl [0, 1, 2] rfl)
      · refine lv_iinc (v := nI ((cnP (rkE z_s g_s) i) + 1)) (lv' := [(2, .int (nI ((cnP (rkE z_s g_s) i) + 1))), (1, .ref a_s), (3, .int (nI i))]) hx hb d_SI_documents_28 hl (k := 1) rfl (inc_nI _ _) (by decide) rfl (fun ls hl => ?_)
        exact jn_31 i ((cnP (rkE z_s g_s) i) + 1) (by first | assumption | omega) (by first | assumption | omega) (by exact (cnP_y (P := rkE z_s g_s) (bN_pos.mp c_25)).symm) _ _ hP hD hS _ (lv_sub hl [1, 0, 2] rfl)
set_option maxHeartbeats 4000000 in
set_option maxRecDepth 100000 in
theorem c_SI_documents_1 (l : Launch) (D : va_G) (K : Nat → ClassId) (x0 : Nat) (s0 : Nat) (l0 : Nat) (p0 : Nat) (k0 : Nat) (bf : Nat) (p1 : Nat) (ht : Nat) (pf : Nat → Option Nat) (a_s : Nat) (b_s : Nat) (z_s : Nat) (g_s : Nat → Nat) (h0 : 0 < ht) (hht : ht < 9) (hf : pf (ht - 1) = some a_s) (hz_s : z_s ≤ 512) (hb_s : ∀ k, k < z_s → g_s k < 2 ^ 24) (hi_s : st_inc z_s g_s) : CI l y_SI_documents b_SI_documents 4 .int ({ frames := 4, cells := 0, slots := 0, locals := 120 } : Room) D K [.ref x0] ([(x0, .inr (6, [.ref s0, .ref l0, .ref p0, .ref k0, .int (nI bf)])), (p0, .inr (2, [.ref p1, .int (nI ht)])), (p1, .inl (K 3, 9, .inr (.inr (.inr (.inr pf))))), (a_s, .inr (0, [.ref b_s, .int (nI z_s)])), (b_s, .inl (K 0, 512, .inl (nA g_s)))] : va_W) (q_SI_documents_1 K x0 s0 l0 p0 k0 bf p1 ht pf a_s b_s z_s g_s) := by
  refine CI_of (by decide) (Nat.le_of_ble_eq_true rfl) ?_
  intro p e s m below meth c A b0 ls hF hA hP hD hl
  have hF2 := hF
  obtain ⟨hx, hb, hr, hml, hown, htw, hK, hlocks, hname⟩ := hF
  have hS : va_S A s.heap s.heap [] := va_S.rf
  have hl : lv_has ls 4 [(0, .ref x0)] := hl
  refine lv_aload_n hx hb d_SI_documents_0 rfl (lv_at hl 0 rfl) ?_
  refine xg hx hb hown htw hK hP 0 2 rfl k_SI (by decide) fl_SI_26 rfl d_SI_documents_1 ?_
  refine xcV_r (As := []) (rest := []) (wr := ([(x0, .inr (6, [.ref s0, .ref l0, .ref p0, .ref k0, .int (nI bf)])), (a_s, .inr (0, [.ref b_s, .int (nI z_s)])), (b_s, .inl (K 0, 512, .inl (nA g_s)))] : va_W)) hx hb hml hown htw hK hA hl.1 hP hD hS (c_Pl_uppermost_1 l D K p0 p1 ht pf a_s (by first | assumption | omega) (by first | assumption | omega) (by first | assumption | omega)) [1, 2] [0, 3, 4] rfl rfl (by decide) (by decide) (by decide) 0 rfl k_Pl ml_SI_151 w_Pl_uppermost rfl ⟨by decide, by decide⟩ rfl (Nat.le_of_ble_eq_true rfl) ⟨by decide, by decide⟩ d_SI_documents_4 (fun r_4 u H locs hpost hP hD hS => ?_)
  obtain ⟨rfl, hr_4⟩ := hpost
  replace hr_4 := hr_4.symm
  subst hr_4
  have hP : va_P D classes ([(x0, .inr (6, [.ref s0, .ref l0, .ref p0, .ref k0, .int (nI bf)])), (a_s, .inr (0, [.ref b_s, .int (nI z_s)])), (b_s, .inl (K 0, 512, .inl (nA g_s))), (p0, .inr (2, [.ref p1, .int (nI ht)])), (p1, .inl (K 3, 9, .inr (.inr (.inr (.inr pf)))))] : va_W) H := hP
  have hD : va_D A ([(x0, .inr (6, [.ref s0, .ref l0, .ref p0, .ref k0, .int (nI bf)])), (a_s, .inr (0, [.ref b_s, .int (nI z_s)])), (b_s, .inl (K 0, 512, .inl (nA g_s))), (p0, .inr (2, [.ref p1, .int (nI ht)])), (p1, .inl (K 3, 9, .inr (.inr (.inr (.inr pf)))))] : va_W) := hD
  refine lv_astore_n (lv' := [(1, .ref a_s), (0, .ref x0)]) hx hb d_SI_documents_7 rfl hl (by decide) rfl (fun ls hl => ?_)
  refine lv_iconst (v := nI 0) hx hb d_SI_documents_8 (by decide) ?_
  refine lv_istore_n (lv' := [(2, .int (nI 0)), (1, .ref a_s), (0, .ref x0)]) hx hb d_SI_documents_9 rfl hl (by decide) rfl (fun ls hl => ?_)
  rw [show nI 0 = nI (cnP (rkE z_s g_s) 0) from rfl] at hl
  refine lv_iconst (v := nI 0) hx hb d_SI_documents_10 (by decide) ?_
  refine lv_istore_n (lv' := [(3, .int (nI 0)), (2, .int (nI (cnP (rkE z_s g_s) 0))), (1, .ref a_s), (0, .ref x0)]) hx hb d_SI_documents_11 rfl hl (by decide) rfl (fun ls hl => ?_)
  obtain ⟨hP9, hD9⟩ := xp (ws' := [(x0, .inr (6, [.ref s0, .ref l0, .ref p0, .ref k0, .int (nI bf)])), (p0, .inr (2, [.ref p1, .int (nI ht)])), (p1, .inl (K 3, 9, .inr (.inr (.inr (.inr pf))))), (a_s, .inr (0, [.ref b_s, .int (nI z_s)])), (b_s, .inl (K 0, 512, .inl (nA g_s)))]) hP hD [0, 3, 4, 1, 2] (by decide) rfl
  exact lp_SI_documents_1_12 (l := l) x0 s0 l0 p0 k0 bf p1 ht pf a_s b_s z_s g_s h0 hht hf hz_s hb_s hi_s hF2 hA _ 0 (by first | assumption | omega) (Nat.lt_succ_self _) _ _ hP9 hD9 hS _ (lv_sub hl [2, 1, 0] rfl)

abbrev q_SI_best_0 (K : Nat → ClassId) (x0 : Nat) (s0 : Nat) (l0 : Nat) (p0 : Nat) (k0 : Nat) (bf : Nat) (p1 : Nat) (pf : Nat → Option Nat) (a_s : Nat) (b_s : Nat) (z_s : Nat) (g_s : Nat → Nat) (k1 : Nat) (zk : Nat) (f : Nat → Int64) (x : Int32) : Int32 → va_W → Prop := fun r u => ∃ f' : Nat → Int64, u = ([(x0, .inr (6, [.ref s0, .ref l0, .ref p0, .ref k0, .int (nI bf)])), (p0, .inr (2, [.ref p1, .int (nI 0)])), (p1, .inl (K 3, 9, .inr (.inr (.inr (.inr pf))))), (a_s, .inr (0, [.ref b_s, .int (nI 0)])), (b_s, .inl (K 0, 512, .inl (nA g_s))), (k0, .inr (1, [.ref k1, .int (nI 0)])), (k1, .inl (K 1, 512, .inr (.inl f')))] : va_W) ∧ r = zI (-1)
set_option maxHeartbeats 4000000 in
set_option maxRecDepth 100000 in
theorem c_SI_best_0 (l : Launch) (D : va_G) (K : Nat → ClassId) (x0 : Nat) (s0 : Nat) (l0 : Nat) (p0 : Nat) (k0 : Nat) (bf : Nat) (p1 : Nat) (pf : Nat → Option Nat) (a_s : Nat) (b_s : Nat) (z_s : Nat) (g_s : Nat → Nat) (k1 : Nat) (zk : Nat) (f : Nat → Int64) (x : Int32) (hf : pf 0 = some a_s) : CI l y_SI_best b_SI_best 2 .int ({ frames := 4, cells := 0, slots := 0, locals := 160 } : Room) D K [.ref x0, .int x] ([(x0, .inr (6, [.ref s0, .ref l0, .ref p0, .ref k0, .int (nI bf)])), (p0, .inr (2, [.ref p1, .int (nI 0)])), (p1, .inl (K 3, 9, .inr (.inr (.inr (.inr pf))))), (a_s, .inr (0, [.ref b_s, .int (nI z_s)])), (b_s, .inl (K 0, 512, .inl (nA g_s))), (k0, .inr (1, [.ref k1, .int (nI zk)])), (k1, .inl (K 1, 512, .inr (.inl f)))] : va_W) (q_SI_best_0 K x0 s0 l0 p0 k0 bf p1 pf a_s b_s z_s g_s k1 zk f x) := by
  refine CI_of (by decide) (Nat.le_of_ble_eq_true rfl) ?_
  intro p e s m below meth c A b0 ls hF hA hP hD hl
  have hF2 := hF
  obtain ⟨hx, hb, hr, hml, hown, htw, hK, hlocks, hname⟩ := hF
  have hS : va_S A s.heap s.heap [] := va_S.rf
  have hl : lv_has ls 2 [(0, .ref x0), (1, .int x)] := hl
  refine lv_aload_n hx hb d_SI_best_0 rfl (lv_at hl 0 rfl) ?_
  refine lv_aload_n hx hb d_SI_best_1 rfl (lv_at hl 0 rfl) ?_
  refine xg hx hb hown htw hK hP 0 2 rfl k_SI (by decide) fl_SI_26 rfl d_SI_best_2 ?_
  refine xcV_r (As := []) (rest := [.ref x0]) (wr := ([(x0, .inr (6, [.ref s0, .ref l0, .ref p0, .ref k0, .int (nI bf)])), (b_s, .inl (K 0, 512, .inl (nA g_s))), (k0, .inr (1, [.ref k1, .int (nI zk)])), (k1, .inl (K 1, 512, .inr (.inl f)))] : va_W)) hx hb hml hown htw hK hA hl.1 hP hD hS (c_Pl_uppermost_0 l D K p0 p1 pf a_s b_s z_s (by first | assumption | omega)) [1, 2, 3] [0, 4, 5, 6] rfl rfl (by decide) (by decide) (by decide) 0 rfl k_Pl ml_SI_151 w_Pl_uppermost rfl ⟨by decide, by decide⟩ rfl (Nat.le_of_ble_eq_true rfl) ⟨by decide, by decide⟩ d_SI_best_5 (fun r_5 u H locs hpost hP hD hS => ?_)
  obtain ⟨rfl, hr_5⟩ := hpost
  replace hr_5 := hr_5.symm
  subst hr_5
  have hP : va_P D classes ([(x0, .inr (6, [.ref s0, .ref l0, .ref p0, .ref k0, .int (nI bf)])), (b_s, .inl (K 0, 512, .inl (nA g_s))), (k0, .inr (1, [.ref k1, .int (nI zk)])), (k1, .inl (K 1, 512, .inr (.inl f))), (p0, .inr (2, [.ref p1, .int (nI 0)])), (p1, .inl (K 3, 9, .inr (.inr (.inr (.inr pf))))), (a_s, .inr (0, [.ref b_s, .int (nI 0)]))] : va_W) H := hP
  have hD : va_D A ([(x0, .inr (6, [.ref s0, .ref l0, .ref p0, .ref k0, .int (nI bf)])), (b_s, .inl (K 0, 512, .inl (nA g_s))), (k0, .inr (1, [.ref k1, .int (nI zk)])), (k1, .inl (K 1, 512, .inr (.inl f))), (p0, .inr (2, [.ref p1, .int (nI 0)])), (p1, .inl (K 3, 9, .inr (.inr (.inr (.inr pf))))), (a_s, .inr (0, [.ref b_s, .int (nI 0)]))] : va_W) := hD
  refine xcV_v (As := [.ref a_s]) (rest := []) (wr := ([(p0, .inr (2, [.ref p1, .int (nI 0)])), (p1, .inl (K 3, 9, .inr (.inr (.inr (.inr pf)))))] : va_W)) hx hb hml hown htw hK hA hl.1 hP hD hS (c_SI_rankDocuments l D K x0 s0 l0 p0 k0 bf k1 zk f a_s b_s 0 g_s (by first | assumption | omega) (by exact fun k hk => by omega) (by exact fun i j a b => by omega)) [0, 2, 3, 6, 1] [4, 5] rfl rfl (by decide) (by decide) (by decide) 0 rfl k_SI ml_SI_189 w_SI_rankDocuments rfl ⟨by decide, by decide⟩ rfl (Nat.le_of_ble_eq_true rfl) ⟨by decide, by decide⟩ d_SI_best_8 (fun u H locs hpost hP hD hS => ?_)
  obtain ⟨f'_8, rfl, hcnt_8, hsrt_8⟩ := hpost
  have hP : va_P D classes ([(p0, .inr (2, [.ref p1, .int (nI 0)])), (p1, .inl (K 3, 9, .inr (.inr (.inr (.inr pf))))), (x0, .inr (6, [.ref s0, .ref l0, .ref p0, .ref k0, .int (nI bf)])), (k0, .inr (1, [.ref k1, .int (nI ((rkS f 0 g_s 0).2.1))])), (k1, .inl (K 1, 512, .inr (.inl f'_8))), (a_s, .inr (0, [.ref b_s, .int (nI 0)])), (b_s, .inl (K 0, 512, .inl (nA g_s)))] : va_W) H := hP
  have hD : va_D A ([(p0, .inr (2, [.ref p1, .int (nI 0)])), (p1, .inl (K 3, 9, .inr (.inr (.inr (.inr pf))))), (x0, .inr (6, [.ref s0, .ref l0, .ref p0, .ref k0, .int (nI bf)])), (k0, .inr (1, [.ref k1, .int (nI ((rkS f 0 g_s 0).2.1))])), (k1, .inl (K 1, 512, .inr (.inl f'_8))), (a_s, .inr (0, [.ref b_s, .int (nI 0)])), (b_s, .inl (K 0, 512, .inl (nA g_s)))] : va_W) := hD
  have hP : va_P D classes ([(p0, .inr (2, [.ref p1, .int (nI 0)])), (p1, .inl (K 3, 9, .inr (.inr (.inr (.inr pf))))), (x0, .inr (6, [.ref s0, .ref l0, .ref p0, .ref k0, .int (nI bf)])), (k0, .inr (1, [.ref k1, .int (nI 0)])), (k1, .inl (K 1, 512, .inr (.inl f'_8))), (a_s, .inr (0, [.ref b_s, .int (nI 0)])), (b_s, .inl (K 0, 512, .inl (nA g_s)))] : va_W) H := by rw [← show (rkS f 0 g_s 0).2.1 = 0 from rfl]; exact hP
  have hD : va_D A ([(p0, .inr (2, [.ref p1, .int (nI 0)])), (p1, .inl (K 3, 9, .inr (.inr (.inr (.inr pf))))), (x0, .inr (6, [.ref s0, .ref l0, .ref p0, .ref k0, .int (nI bf)])), (k0, .inr (1, [.ref k1, .int (nI 0)])), (k1, .inl (K 1, 512, .inr (.inl f'_8))), (a_s, .inr (0, [.ref b_s, .int (nI 0)])), (b_s, .inl (K 0, 512, .inl (nA g_s)))] : va_W) := by rw [← show (rkS f 0 g_s 0).2.1 = 0 from rfl]; exact hD
  refine lv_iload_n hx hb d_SI_best_11 rfl (lv_at hl 1 rfl) ?_
  refine lv_if_lt (tgt := 26) hx hb d_SI_best_12 (by decide) (fun c_12 => ?_) (fun c_12 => ?_)
  · refine lv_iconst (v := zI (-1)) hx hb d_SI_best_26 (by decide) ?_
    obtain ⟨hP, hD⟩ := xp (ws' := [(x0, .inr (6, [.ref s0, .ref l0, .ref p0, .ref k0, .int (nI bf)])), (p0, .inr (2, [.ref p1, .int (nI 0)])), (p1, .inl (K 3, 9, .inr (.inr (.inr (.inr pf))))), (a_s, .inr (0, [.ref b_s, .int (nI 0)])), (b_s, .inl (K 0, 512, .inl (nA g_s))), (k0, .inr (1, [.ref k1, .int (nI 0)])), (k1, .inl (K 1, 512, .inr (.inl f'_8)))]) hP hD [2, 0, 1, 5, 6, 3, 4] (by decide) rfl
    exact xr_iret hx hb hr hlocks hP hD hS (Nat.le_of_ble_eq_true rfl) (Nat.le_of_ble_eq_true rfl) (⟨f'_8, rfl, rfl⟩) d_SI_best_27
  · refine lv_iload_n hx hb d_SI_best_15 rfl (lv_at hl 1 rfl) ?_
    refine lv_aload_n hx hb d_SI_best_16 rfl (lv_at hl 0 rfl) ?_
    refine xg hx hb hown htw hK hP 2 3 rfl k_SI (by decide) fl_SI_33 rfl d_SI_best_17 ?_
    refine xg hx hb hown htw hK hP 3 1 rfl k_Ks (by decide) fl_SI_193 rfl d_SI_best_20 ?_
    refine lv_icmp_lt (tgt := 28) hx hb d_SI_best_23 (by decide) (fun c_23 => ?_) (fun c_23 => ?_)
    · exact absurd c_23 c_12
    · refine lv_iconst (v := zI (-1)) hx hb d_SI_best_26 (by decide) ?_
      obtain ⟨hP, hD⟩ := xp (ws' := [(x0, .inr (6, [.ref s0, .ref l0, .ref p0, .ref k0, .int (nI bf)])), (p0, .inr (2, [.ref p1, .int (nI 0)])), (p1, .inl (K 3, 9, .inr (.inr (.inr (.inr pf))))), (a_s, .inr (0, [.ref b_s, .int (nI 0)])), (b_s, .inl (K 0, 512, .inl (nA g_s))), (k0, .inr (1, [.ref k1, .int (nI 0)])), (k1, .inl (K 1, 512, .inr (.inl f'_8)))]) hP hD [2, 0, 1, 5, 6, 3, 4] (by decide) rfl
      exact xr_iret hx hb hr hlocks hP hD hS (Nat.le_of_ble_eq_true rfl) (Nat.le_of_ble_eq_true rfl) (⟨f'_8, rfl, rfl⟩) d_SI_best_27

abbrev q_SI_best_no (K : Nat → ClassId) (x0 : Nat) (s0 : Nat) (l0 : Nat) (p0 : Nat) (k0 : Nat) (bf : Nat) (p1 : Nat) (ht : Nat) (pf : Nat → Option Nat) (a_s : Nat) (b_s : Nat) (z_s : Nat) (g_s : Nat → Nat) (k1 : Nat) (zk : Nat) (f : Nat → Int64) (x : Int32) : Int32 → va_W → Prop := fun r u => ∃ f' : Nat → Int64, u = ([(x0, .inr (6, [.ref s0, .ref l0, .ref p0, .ref k0, .int (nI bf)])), (p0, .inr (2, [.ref p1, .int (nI ht)])), (p1, .inl (K 3, 9, .inr (.inr (.inr (.inr pf))))), (a_s, .inr (0, [.ref b_s, .int (nI z_s)])), (b_s, .inl (K 0, 512, .inl (nA g_s))), (k0, .inr (1, [.ref k1, .int (nI ((rkS f z_s g_s z_s).2.1))])), (k1, .inl (K 1, 512, .inr (.inl f')))] : va_W) ∧ r = zI (-1)
set_option maxHeartbeats 4000000 in
set_option maxRecDepth 100000 in
theorem c_SI_best_no (l : Launch) (D : va_G) (K : Nat → ClassId) (x0 : Nat) (s0 : Nat) (l0 : Nat) (p0 : Nat) (k0 : Nat) (bf : Nat) (p1 : Nat) (ht : Nat) (pf : Nat → Option Nat) (a_s : Nat) (b_s : Nat) (z_s : Nat) (g_s : Nat → Nat) (k1 : Nat) (zk : Nat) (f : Nat → Int64) (x : Int32) (h0 : 0 < ht) (hht : ht < 9) (hf : pf (ht - 1) = some a_s) (hz_s : z_s ≤ 512) (hb_s : ∀ k, k < z_s → g_s k < 2 ^ 24) (hi_s : st_inc z_s g_s) (hout : x < 0 ∨ nI (rkS f z_s g_s z_s).2.1 ≤ x) : CI l y_SI_best b_SI_best 2 .int ({ frames := 4, cells := 0, slots := 0, locals := 160 } : Room) D K [.ref x0, .int x] ([(x0, .inr (6, [.ref s0, .ref l0, .ref p0, .ref k0, .int (nI bf)])), (p0, .inr (2, [.ref p1, .int (nI ht)])), (p1, .inl (K 3, 9, .inr (.inr (.inr (.inr pf))))), (a_s, .inr (0, [.ref b_s, .int (nI z_s)])), (b_s, .inl (K 0, 512, .inl (nA g_s))), (k0, .inr (1, [.ref k1, .int (nI zk)])), (k1, .inl (K 1, 512, .inr (.inl f)))] : va_W) (q_SI_best_no K x0 s0 l0 p0 k0 bf p1 ht pf a_s b_s z_s g_s k1 zk f x) := by
  refine CI_of (by decide) (Nat.le_of_ble_eq_true rfl) ?_
  intro p e s m below meth c A b0 ls hF hA hP hD hl
  have hF2 := hF
  obtain ⟨hx, hb, hr, hml, hown, htw, hK, hlocks, hname⟩ := hF
  have hS : va_S A s.heap s.heap [] := va_S.rf
  have hl : lv_has ls 2 [(0, .ref x0), (1, .int x)] := hl
  refine lv_aload_n hx hb d_SI_best_0 rfl (lv_at hl 0 rfl) ?_
  refine lv_aload_n hx hb d_SI_best_1 rfl (lv_at hl 0 rfl) ?_
  refine xg hx hb hown htw hK hP 0 2 rfl k_SI (by decide) fl_SI_26 rfl d_SI_best_2 ?_
  refine xcV_r (As := []) (rest := [.ref x0]) (wr := ([(x0, .inr (6, [.ref s0, .ref l0, .ref p0, .ref k0, .int (nI bf)])), (a_s, .inr (0, [.ref b_s, .int (nI z_s)])), (b_s, .inl (K 0, 512, .inl (nA g_s))), (k0, .inr (1, [.ref k1, .int (nI zk)])), (k1, .inl (K 1, 512, .inr (.inl f)))] : va_W)) hx hb hml hown htw hK hA hl.1 hP hD hS (c_Pl_uppermost_1 l D K p0 p1 ht pf a_s (by first | assumption | omega) (by first | assumption | omega) (by first | assumption | omega)) [1, 2] [0, 3, 4, 5, 6] rfl rfl (by decide) (by decide) (by decide) 0 rfl k_Pl ml_SI_151 w_Pl_uppermost rfl ⟨by decide, by decide⟩ rfl (Nat.le_of_ble_eq_true rfl) ⟨by decide, by decide⟩ d_SI_best_5 (fun r_5 u H locs hpost hP hD hS => ?_)
  obtain ⟨rfl, hr_5⟩ := hpost
  replace hr_5 := hr_5.symm
  subst hr_5
  have hP : va_P D classes ([(x0, .inr (6, [.ref s0, .ref l0, .ref p0, .ref k0, .int (nI bf)])), (a_s, .inr (0, [.ref b_s, .int (nI z_s)])), (b_s, .inl (K 0, 512, .inl (nA g_s))), (k0, .inr (1, [.ref k1, .int (nI zk)])), (k1, .inl (K 1, 512, .inr (.inl f))), (p0, .inr (2, [.ref p1, .int (nI ht)])), (p1, .inl (K 3, 9, .inr (.inr (.inr (.inr pf)))))] : va_W) H := hP
  have hD : va_D A ([(x0, .inr (6, [.ref s0, .ref l0, .ref p0, .ref k0, .int (nI bf)])), (a_s, .inr (0, [.ref b_s, .int (nI z_s)])), (b_s, .inl (K 0, 512, .inl (nA g_s))), (k0, .inr (1, [.ref k1, .int (nI zk)])), (k1, .inl (K 1, 512, .inr (.inl f))), (p0, .inr (2, [.ref p1, .int (nI ht)])), (p1, .inl (K 3, 9, .inr (.inr (.inr (.inr pf)))))] : va_W) := hD
  refine xcV_v (As := [.ref a_s]) (rest := []) (wr := ([(p0, .inr (2, [.ref p1, .int (nI ht)])), (p1, .inl (K 3, 9, .inr (.inr (.inr (.inr pf)))))] : va_W)) hx hb hml hown htw hK hA hl.1 hP hD hS (c_SI_rankDocuments l D K x0 s0 l0 p0 k0 bf k1 zk f a_s b_s z_s g_s (by first | assumption | omega) (by first | assumption | omega) (by first | assumption | omega)) [0, 3, 4, 1, 2] [5, 6] rfl rfl (by decide) (by decide) (by decide) 0 rfl k_SI ml_SI_189 w_SI_rankDocuments rfl ⟨by decide, by decide⟩ rfl (Nat.le_of_ble_eq_true rfl) ⟨by decide, by decide⟩ d_SI_best_8 (fun u H locs hpost hP hD hS => ?_)
  obtain ⟨f'_8, rfl, hcnt_8, hsrt_8⟩ := hpost
  have hP : va_P D classes ([(p0, .inr (2, [.ref p1, .int (nI ht)])), (p1, .inl (K 3, 9, .inr (.inr (.inr (.inr pf))))), (x0, .inr (6, [.ref s0, .ref l0, .ref p0, .ref k0, .int (nI bf)])), (k0, .inr (1, [.ref k1, .int (nI ((rkS f z_s g_s z_s).2.1))])), (k1, .inl (K 1, 512, .inr (.inl f'_8))), (a_s, .inr (0, [.ref b_s, .int (nI z_s)])), (b_s, .inl (K 0, 512, .inl (nA g_s)))] : va_W) H := hP
  have hD : va_D A ([(p0, .inr (2, [.ref p1, .int (nI ht)])), (p1, .inl (K 3, 9, .inr (.inr (.inr (.inr pf))))), (x0, .inr (6, [.ref s0, .ref l0, .ref p0, .ref k0, .int (nI bf)])), (k0, .inr (1, [.ref k1, .int (nI ((rkS f z_s g_s z_s).2.1))])), (k1, .inl (K 1, 512, .inr (.inl f'_8))), (a_s, .inr (0, [.ref b_s, .int (nI z_s)])), (b_s, .inl (K 0, 512, .inl (nA g_s)))] : va_W) := hD
  refine lv_iload_n hx hb d_SI_best_11 rfl (lv_at hl 1 rfl) ?_
  refine lv_if_lt (tgt := 26) hx hb d_SI_best_12 (by decide) (fun c_12 => ?_) (fun c_12 => ?_)
  · refine lv_iconst (v := zI (-1)) hx hb d_SI_best_26 (by decide) ?_
    obtain ⟨hP, hD⟩ := xp (ws' := [(x0, .inr (6, [.ref s0, .ref l0, .ref p0, .ref k0, .int (nI bf)])), (p0, .inr (2, [.ref p1, .int (nI ht)])), (p1, .inl (K 3, 9, .inr (.inr (.inr (.inr pf))))), (a_s, .inr (0, [.ref b_s, .int (nI z_s)])), (b_s, .inl (K 0, 512, .inl (nA g_s))), (k0, .inr (1, [.ref k1, .int (nI ((rkS f z_s g_s z_s).2.1))])), (k1, .inl (K 1, 512, .inr (.inl f'_8)))]) hP hD [2, 0, 1, 5, 6, 3, 4] (by decide) rfl
    exact xr_iret hx hb hr hlocks hP hD hS (Nat.le_of_ble_eq_true rfl) (Nat.le_of_ble_eq_true rfl) (⟨f'_8, rfl, rfl⟩) d_SI_best_27
  · refine lv_iload_n hx hb d_SI_best_15 rfl (lv_at hl 1 rfl) ?_
    refine lv_aload_n hx hb d_SI_best_16 rfl (lv_at hl 0 rfl) ?_
    refine xg hx hb hown htw hK hP 2 3 rfl k_SI (by decide) fl_SI_33 rfl d_SI_best_17 ?_
    refine xg hx hb hown htw hK hP 3 1 rfl k_Ks (by decide) fl_SI_193 rfl d_SI_best_20 ?_
    refine lv_icmp_lt (tgt := 28) hx hb d_SI_best_23 (by decide) (fun c_23 => ?_) (fun c_23 => ?_)
    · exact absurd hout (fun q => q.elim c_12 (fun q => absurd c_23 (Int32.not_lt.mpr q)))
    · refine lv_iconst (v := zI (-1)) hx hb d_SI_best_26 (by decide) ?_
      obtain ⟨hP, hD⟩ := xp (ws' := [(x0, .inr (6, [.ref s0, .ref l0, .ref p0, .ref k0, .int (nI bf)])), (p0, .inr (2, [.ref p1, .int (nI ht)])), (p1, .inl (K 3, 9, .inr (.inr (.inr (.inr pf))))), (a_s, .inr (0, [.ref b_s, .int (nI z_s)])), (b_s, .inl (K 0, 512, .inl (nA g_s))), (k0, .inr (1, [.ref k1, .int (nI ((rkS f z_s g_s z_s).2.1))])), (k1, .inl (K 1, 512, .inr (.inl f'_8)))]) hP hD [2, 0, 1, 5, 6, 3, 4] (by decide) rfl
      exact xr_iret hx hb hr hlocks hP hD hS (Nat.le_of_ble_eq_true rfl) (Nat.le_of_ble_eq_true rfl) (⟨f'_8, rfl, rfl⟩) d_SI_best_27

abbrev q_SI_best_ok (K : Nat → ClassId) (x0 : Nat) (s0 : Nat) (l0 : Nat) (p0 : Nat) (k0 : Nat) (bf : Nat) (p1 : Nat) (ht : Nat) (pf : Nat → Option Nat) (a_s : Nat) (b_s : Nat) (z_s : Nat) (g_s : Nat → Nat) (k1 : Nat) (zk : Nat) (f : Nat → Int64) (k : Nat) : Int32 → va_W → Prop := fun r u => ∃ f' : Nat → Int64, u = ([(x0, .inr (6, [.ref s0, .ref l0, .ref p0, .ref k0, .int (nI bf)])), (p0, .inr (2, [.ref p1, .int (nI ht)])), (p1, .inl (K 3, 9, .inr (.inr (.inr (.inr pf))))), (a_s, .inr (0, [.ref b_s, .int (nI z_s)])), (b_s, .inl (K 0, 512, .inl (nA g_s))), (k0, .inr (1, [.ref k1, .int (nI ((rkS f z_s g_s z_s).2.1))])), (k1, .inl (K 1, 512, .inr (.inl f')))] : va_W) ∧ r = (f' k &&& 1023).toInt32 ∧ (∀ v, hp_cnt f' v (rkS f z_s g_s z_s).2.1 = hp_cnt (rkS f z_s g_s z_s).2.2 v (rkS f z_s g_s z_s).2.1) ∧ (∀ i j, i ≤ j → j < (rkS f z_s g_s z_s).2.1 → f' i ≤ f' j)
set_option maxHeartbeats 4000000 in
set_option maxRecDepth 100000 in
theorem c_SI_best_ok (l : Launch) (D : va_G) (K : Nat → ClassId) (x0 : Nat) (s0 : Nat) (l0 : Nat) (p0 : Nat) (k0 : Nat) (bf : Nat) (p1 : Nat) (ht : Nat) (pf : Nat → Option Nat) (a_s : Nat) (b_s : Nat) (z_s : Nat) (g_s : Nat → Nat) (k1 : Nat) (zk : Nat) (f : Nat → Int64) (k : Nat) (h0 : 0 < ht) (hht : ht < 9) (hf : pf (ht - 1) = some a_s) (hz_s : z_s ≤ 512) (hb_s : ∀ k, k < z_s → g_s k < 2 ^ 24) (hi_s : st_inc z_s g_s) (hk : k < (rkS f z_s g_s z_s).2.1) : CI l y_SI_best b_SI_best 2 .int ({ frames := 4, cells := 0, slots := 0, locals := 160 } : Room) D K [.ref x0, .int (nI k)] ([(x0, .inr (6, [.ref s0, .ref l0, .ref p0, .ref k0, .int (nI bf)])), (p0, .inr (2, [.ref p1, .int (nI ht)])), (p1, .inl (K 3, 9, .inr (.inr (.inr (.inr pf))))), (a_s, .inr (0, [.ref b_s, .int (nI z_s)])), (b_s, .inl (K 0, 512, .inl (nA g_s))), (k0, .inr (1, [.ref k1, .int (nI zk)])), (k1, .inl (K 1, 512, .inr (.inl f)))] : va_W) (q_SI_best_ok K x0 s0 l0 p0 k0 bf p1 ht pf a_s b_s z_s g_s k1 zk f k) := by
  refine CI_of (by decide) (Nat.le_of_ble_eq_true rfl) ?_
  intro p e s m below meth c A b0 ls hF hA hP hD hl
  have hF2 := hF
  obtain ⟨hx, hb, hr, hml, hown, htw, hK, hlocks, hname⟩ := hF
  have hS : va_S A s.heap s.heap [] := va_S.rf
  have hl : lv_has ls 2 [(0, .ref x0), (1, .int (nI k))] := hl
  refine lv_aload_n hx hb d_SI_best_0 rfl (lv_at hl 0 rfl) ?_
  refine lv_aload_n hx hb d_SI_best_1 rfl (lv_at hl 0 rfl) ?_
  refine xg hx hb hown htw hK hP 0 2 rfl k_SI (by decide) fl_SI_26 rfl d_SI_best_2 ?_
  refine xcV_r (As := []) (rest := [.ref x0]) (wr := ([(x0, .inr (6, [.ref s0, .ref l0, .ref p0, .ref k0, .int (nI bf)])), (a_s, .inr (0, [.ref b_s, .int (nI z_s)])), (b_s, .inl (K 0, 512, .inl (nA g_s))), (k0, .inr (1, [.ref k1, .int (nI zk)])), (k1, .inl (K 1, 512, .inr (.inl f)))] : va_W)) hx hb hml hown htw hK hA hl.1 hP hD hS (c_Pl_uppermost_1 l D K p0 p1 ht pf a_s (by first | assumption | omega) (by first | assumption | omega) (by first | assumption | omega)) [1, 2] [0, 3, 4, 5, 6] rfl rfl (by decide) (by decide) (by decide) 0 rfl k_Pl ml_SI_151 w_Pl_uppermost rfl ⟨by decide, by decide⟩ rfl (Nat.le_of_ble_eq_true rfl) ⟨by decide, by decide⟩ d_SI_best_5 (fun r_5 u H locs hpost hP hD hS => ?_)
  obtain ⟨rfl, hr_5⟩ := hpost
  replace hr_5 := hr_5.symm
  subst hr_5
  have hP : va_P D classes ([(x0, .inr (6, [.ref s0, .ref l0, .ref p0, .ref k0, .int (nI bf)])), (a_s, .inr (0, [.ref b_s, .int (nI z_s)])), (b_s, .inl (K 0, 512, .inl (nA g_s))), (k0, .inr (1, [.ref k1, .int (nI zk)])), (k1, .inl (K 1, 512, .inr (.inl f))), (p0, .inr (2, [.ref p1, .int (nI ht)])), (p1, .inl (K 3, 9, .inr (.inr (.inr (.inr pf)))))] : va_W) H := hP
  have hD : va_D A ([(x0, .inr (6, [.ref s0, .ref l0, .ref p0, .ref k0, .int (nI bf)])), (a_s, .inr (0, [.ref b_s, .int (nI z_s)])), (b_s, .inl (K 0, 512, .inl (nA g_s))), (k0, .inr (1, [.ref k1, .int (nI zk)])), (k1, .inl (K 1, 512, .inr (.inl f))), (p0, .inr (2, [.ref p1, .int (nI ht)])), (p1, .inl (K 3, 9, .inr (.inr (.inr (.inr pf)))))] : va_W) := hD
  refine xcV_v (As := [.ref a_s]) (rest := []) (wr := ([(p0, .inr (2, [.ref p1, .int (nI ht)])), (p1, .inl (K 3, 9, .inr (.inr (.inr (.inr pf)))))] : va_W)) hx hb hml hown htw hK hA hl.1 hP hD hS (c_SI_rankDocuments l D K x0 s0 l0 p0 k0 bf k1 zk f a_s b_s z_s g_s (by first | assumption | omega) (by first | assumption | omega) (by first | assumption | omega)) [0, 3, 4, 1, 2] [5, 6] rfl rfl (by decide) (by decide) (by decide) 0 rfl k_SI ml_SI_189 w_SI_rankDocuments rfl ⟨by decide, by decide⟩ rfl (Nat.le_of_ble_eq_true rfl) ⟨by decide, by decide⟩ d_SI_best_8 (fun u H locs hpost hP hD hS => ?_)
  obtain ⟨f'_8, rfl, hcnt_8, hsrt_8⟩ := hpost
  have hP : va_P D classes ([(p0, .inr (2, [.ref p1, .int (nI ht)])), (p1, .inl (K 3, 9, .inr (.inr (.inr (.inr pf))))), (x0, .inr (6, [.ref s0, .ref l0, .ref p0, .ref k0, .int (nI bf)])), (k0, .inr (1, [.ref k1, .int (nI ((rkS f z_s g_s z_s).2.1))])), (k1, .inl (K 1, 512, .inr (.inl f'_8))), (a_s, .inr (0, [.ref b_s, .int (nI z_s)])), (b_s, .inl (K 0, 512, .inl (nA g_s)))] : va_W) H := hP
  have hD : va_D A ([(p0, .inr (2, [.ref p1, .int (nI ht)])), (p1, .inl (K 3, 9, .inr (.inr (.inr (.inr pf))))), (x0, .inr (6, [.ref s0, .ref l0, .ref p0, .ref k0, .int (nI bf)])), (k0, .inr (1, [.ref k1, .int (nI ((rkS f z_s g_s z_s).2.1))])), (k1, .inl (K 1, 512, .inr (.inl f'_8))), (a_s, .inr (0, [.ref b_s, .int (nI z_s)])), (b_s, .inl (K 0, 512, .inl (nA g_s)))] : va_W) := hD
  have hrl := rkS_le f z_s g_s z_s
  refine lv_iload_n hx hb d_SI_best_11 rfl (lv_at hl 1 rfl) ?_
  refine xz_lt (a := k) hx hb (by omega) d_SI_best_12 26 (by decide) ?_
  refine lv_iload_n hx hb d_SI_best_15 rfl (lv_at hl 1 rfl) ?_
  refine lv_aload_n hx hb d_SI_best_16 rfl (lv_at hl 0 rfl) ?_
  refine xg hx hb hown htw hK hP 2 3 rfl k_SI (by decide) fl_SI_33 rfl d_SI_best_17 ?_
  refine xg hx hb hown htw hK hP 3 1 rfl k_Ks (by decide) fl_SI_193 rfl d_SI_best_20 ?_
  refine xc_lt (tgt := 28) (a := k) (b := (rkS f z_s g_s z_s).2.1) hx hb (by omega) (by omega) d_SI_best_23 (by decide) (fun c_23 => ?_) (fun c_23 => ?_)
  · refine lv_aload_n hx hb d_SI_best_28 rfl (lv_at hl 0 rfl) ?_
    refine xg hx hb hown htw hK hP 2 3 rfl k_SI (by decide) fl_SI_33 rfl d_SI_best_29 ?_
    refine xg hx hb hown htw hK hP 3 0 rfl k_Ks (by decide) fl_SI_194 rfl d_SI_best_32 ?_
    refine lv_iload_n hx hb d_SI_best_35 rfl (lv_at hl 1 rfl) ?_
    refine xald_l hx hb hK hP 4 rfl (by omega) (by omega) d_SI_best_36 ?_
    refine lv_ldc2 (v := 1023) hx hb hown (htw _ cn_SI_198 _) d_SI_best_37 ?_
    refine lv_land hx hb d_SI_best_40 ?_
    refine lv_l2i hx hb d_SI_best_41 rfl ?_
    obtain ⟨hP, hD⟩ := xp (ws' := [(x0, .inr (6, [.ref s0, .ref l0, .ref p0, .ref k0, .int (nI bf)])), (p0, .inr (2, [.ref p1, .int (nI ht)])), (p1, .inl (K 3, 9, .inr (.inr (.inr (.inr pf))))), (a_s, .inr (0, [.ref b_s, .int (nI z_s)])), (b_s, .inl (K 0, 512, .inl (nA g_s))), (k0, .inr (1, [.ref k1, .int (nI ((rkS f z_s g_s z_s).2.1))])), (k1, .inl (K 1, 512, .inr (.inl f'_8)))]) hP hD [2, 0, 1, 5, 6, 3, 4] (by decide) rfl
    exact xr_iret hx hb hr hlocks hP hD hS (Nat.le_of_ble_eq_true rfl) (Nat.le_of_ble_eq_true rfl) (⟨f'_8, rfl, rfl, hcnt_8, hsrt_8⟩) d_SI_best_42
  · omega

abbrev q_SI_segment_out (K : Nat → ClassId) (x0 : Nat) (s0 : Nat) (l0 : Nat) (p0 : Nat) (k0 : Nat) (bf : Nat) (mc : Int32) (el : Nat) (n : Nat) (x : Int32) (y : Int32) : Int32 → va_W → Prop := fun r u => u = ([(x0, .inr (6, [.ref s0, .ref l0, .ref p0, .ref k0, .int (nI bf)])), (l0, .inr (7, [.int mc, .ref el, .int (nI n)]))] : va_W) ∧ r = zI (-1)
set_option maxHeartbeats 4000000 in
set_option maxRecDepth 100000 in
theorem c_SI_segment_out (l : Launch) (D : va_G) (K : Nat → ClassId) (x0 : Nat) (s0 : Nat) (l0 : Nat) (p0 : Nat) (k0 : Nat) (bf : Nat) (mc : Int32) (el : Nat) (n : Nat) (x : Int32) (y : Int32) (hn : n < 2 ^ 20) (hout : x < 0 ∨ nI n ≤ x) : CI l y_SI_segment b_SI_segment 4 .int ({ frames := 4, cells := 0, slots := 0, locals := 120 } : Room) D K [.ref x0, .int x, .int y] ([(x0, .inr (6, [.ref s0, .ref l0, .ref p0, .ref k0, .int (nI bf)])), (l0, .inr (7, [.int mc, .ref el, .int (nI n)]))] : va_W) (q_SI_segment_out K x0 s0 l0 p0 k0 bf mc el n x y) := by
  refine CI_of (by decide) (Nat.le_of_ble_eq_true rfl) ?_
  intro p e s m below meth c A b0 ls hF hA hP hD hl
  have hF2 := hF
  obtain ⟨hx, hb, hr, hml, hown, htw, hK, hlocks, hname⟩ := hF
  have hS : va_S A s.heap s.heap [] := va_S.rf
  have hl : lv_has ls 4 [(0, .ref x0), (1, .int x), (2, .int y)] := hl
  refine lv_iload_n hx hb d_SI_segment_0 rfl (lv_at hl 1 rfl) ?_
  refine lv_if_lt (tgt := 15) hx hb d_SI_segment_1 (by decide) (fun c_1 => ?_) (fun c_1 => ?_)
  · refine lv_iconst (v := zI (-1)) hx hb d_SI_segment_15 (by decide) ?_
    exact xr_iret hx hb hr hlocks hP hD hS (Nat.le_of_ble_eq_true rfl) (Nat.le_of_ble_eq_true rfl) (⟨rfl, rfl⟩) d_SI_segment_16
  · refine lv_iload_n hx hb d_SI_segment_4 rfl (lv_at hl 1 rfl) ?_
    refine lv_aload_n hx hb d_SI_segment_5 rfl (lv_at hl 0 rfl) ?_
    refine xg hx hb hown htw hK hP 0 1 rfl k_SI (by decide) fl_SI_19 rfl d_SI_segment_6 ?_
    refine xcV_i (As := []) (rest := [.int x]) (wr := ([(x0, .inr (6, [.ref s0, .ref l0, .ref p0, .ref k0, .int (nI bf)]))] : va_W)) hx hb hml hown htw hK hA hl.1 hP hD hS (c_AL_size l D K l0 mc el n ) [1] [0] rfl rfl (by decide) (by decide) (by decide) 0 rfl k_AL ml_SI_115 w_AL_size rfl ⟨by decide, by decide⟩ rfl (Nat.le_of_ble_eq_true rfl) ⟨by decide, by decide⟩ d_SI_segment_9 (fun r u H locs hpost hP hD hS => ?_)
    obtain ⟨rfl, rfl⟩ := hpost
    have hP : va_P D classes ([(x0, .inr (6, [.ref s0, .ref l0, .ref p0, .ref k0, .int (nI bf)])), (l0, .inr (7, [.int mc, .ref el, .int (nI n)]))] : va_W) H := hP
    have hD : va_D A ([(x0, .inr (6, [.ref s0, .ref l0, .ref p0, .ref k0, .int (nI bf)])), (l0, .inr (7, [.int mc, .ref el, .int (nI n)]))] : va_W) := hD
    refine lv_icmp_lt (tgt := 17) hx hb d_SI_segment_12 (by decide) (fun c_12 => ?_) (fun c_12 => ?_)
    · exact absurd hout (fun q => q.elim c_1 (fun q => absurd c_12 (Int32.not_lt.mpr q)))
    · refine lv_iconst (v := zI (-1)) hx hb d_SI_segment_15 (by decide) ?_
      exact xr_iret hx hb hr hlocks hP hD hS (Nat.le_of_ble_eq_true rfl) (Nat.le_of_ble_eq_true rfl) (⟨rfl, rfl⟩) d_SI_segment_16

abbrev q_SI_segment_0 (K : Nat → ClassId) (x0 : Nat) (s0 : Nat) (l0 : Nat) (p0 : Nat) (k0 : Nat) (bf : Nat) (mc : Int32) (el : Nat) (n : Nat) (ne : Nat) (ef : Nat → Option Nat) (q1 : Nat) (f1 : Nat) (v1 : Nat) (w1 : Nat) (x1 : Nat) (y1 : Nat) (q : Nat) : Int32 → va_W → Prop := fun r u => u = ([(x0, .inr (6, [.ref s0, .ref l0, .ref p0, .ref k0, .int (nI bf)])), (l0, .inr (7, [.int mc, .ref el, .int (nI n)])), (el, .inl (K 4, ne, .inr (.inr (.inr (.inr ef))))), (q1, .inr (3, [.int (nI f1), .int (nI v1), .int (nI w1), .int (nI x1), .int (nI y1)]))] : va_W) ∧ r = nI v1
set_option maxHeartbeats 4000000 in
set_option maxRecDepth 100000 in
theorem c_SI_segment_0 (l : Launch) (D : va_G) (K : Nat → ClassId) (x0 : Nat) (s0 : Nat) (l0 : Nat) (p0 : Nat) (k0 : Nat) (bf : Nat) (mc : Int32) (el : Nat) (n : Nat) (ne : Nat) (ef : Nat → Option Nat) (q1 : Nat) (f1 : Nat) (v1 : Nat) (w1 : Nat) (x1 : Nat) (y1 : Nat) (q : Nat) (hne : ne < 2 ^ 20) (hnn : n ≤ ne) (hq : q < n) (he : ef q = some q1) : CI l y_SI_segment b_SI_segment 4 .int ({ frames := 4, cells := 0, slots := 0, locals := 120 } : Room) D K [.ref x0, .int (nI q), .int (nI 0)] ([(x0, .inr (6, [.ref s0, .ref l0, .ref p0, .ref k0, .int (nI bf)])), (l0, .inr (7, [.int mc, .ref el, .int (nI n)])), (el, .inl (K 4, ne, .inr (.inr (.inr (.inr ef))))), (q1, .inr (3, [.int (nI f1), .int (nI v1), .int (nI w1), .int (nI x1), .int (nI y1)]))] : va_W) (q_SI_segment_0 K x0 s0 l0 p0 k0 bf mc el n ne ef q1 f1 v1 w1 x1 y1 q) := by
  refine CI_of (by decide) (Nat.le_of_ble_eq_true rfl) ?_
  intro p e s m below meth c A b0 ls hF hA hP hD hl
  have hF2 := hF
  obtain ⟨hx, hb, hr, hml, hown, htw, hK, hlocks, hname⟩ := hF
  have hS : va_S A s.heap s.heap [] := va_S.rf
  have hl : lv_has ls 4 [(0, .ref x0), (1, .int (nI q)), (2, .int (nI 0))] := hl
  refine lv_iload_n hx hb d_SI_segment_0 rfl (lv_at hl 1 rfl) ?_
  refine xz_lt (a := q) hx hb (by omega) d_SI_segment_1 15 (by decide) ?_
  refine lv_iload_n hx hb d_SI_segment_4 rfl (lv_at hl 1 rfl) ?_
  refine lv_aload_n hx hb d_SI_segment_5 rfl (lv_at hl 0 rfl) ?_
  refine xg hx hb hown htw hK hP 0 1 rfl k_SI (by decide) fl_SI_19 rfl d_SI_segment_6 ?_
  refine xcV_i (As := []) (rest := [.int (nI q)]) (wr := ([(x0, .inr (6, [.ref s0, .ref l0, .ref p0, .ref k0, .int (nI bf)])), (el, .inl (K 4, ne, .inr (.inr (.inr (.inr ef))))), (q1, .inr (3, [.int (nI f1), .int (nI v1), .int (nI w1), .int (nI x1), .int (nI y1)]))] : va_W)) hx hb hml hown htw hK hA hl.1 hP hD hS (c_AL_size l D K l0 mc el n ) [1] [0, 2, 3] rfl rfl (by decide) (by decide) (by decide) 0 rfl k_AL ml_SI_115 w_AL_size rfl ⟨by decide, by decide⟩ rfl (Nat.le_of_ble_eq_true rfl) ⟨by decide, by decide⟩ d_SI_segment_9 (fun r u H locs hpost hP hD hS => ?_)
  obtain ⟨rfl, rfl⟩ := hpost
  have hP : va_P D classes ([(x0, .inr (6, [.ref s0, .ref l0, .ref p0, .ref k0, .int (nI bf)])), (el, .inl (K 4, ne, .inr (.inr (.inr (.inr ef))))), (q1, .inr (3, [.int (nI f1), .int (nI v1), .int (nI w1), .int (nI x1), .int (nI y1)])), (l0, .inr (7, [.int mc, .ref el, .int (nI n)]))] : va_W) H := hP
  have hD : va_D A ([(x0, .inr (6, [.ref s0, .ref l0, .ref p0, .ref k0, .int (nI bf)])), (el, .inl (K 4, ne, .inr (.inr (.inr (.inr ef))))), (q1, .inr (3, [.int (nI f1), .int (nI v1), .int (nI w1), .int (nI x1), .int (nI y1)])), (l0, .inr (7, [.int mc, .ref el, .int (nI n)]))] : va_W) := hD
  refine xc_lt (tgt := 17) (a := q) (b := n) hx hb (by omega) (by omega) d_SI_segment_12 (by decide) (fun c_12 => ?_) (fun c_12 => ?_)
  · refine lv_aload_n hx hb d_SI_segment_17 rfl (lv_at hl 0 rfl) ?_
    refine xg hx hb hown htw hK hP 0 1 rfl k_SI (by decide) fl_SI_19 rfl d_SI_segment_18 ?_
    refine lv_iload_n hx hb d_SI_segment_21 rfl (lv_at hl 1 rfl) ?_
    refine xcV_r (As := [.int (nI q)]) (rest := []) (wr := ([(x0, .inr (6, [.ref s0, .ref l0, .ref p0, .ref k0, .int (nI bf)])), (q1, .inr (3, [.int (nI f1), .int (nI v1), .int (nI w1), .int (nI x1), .int (nI y1)]))] : va_W)) hx hb hml hown htw hK hA hl.1 hP hD hS (c_AL_get l D K l0 mc el n ne ef q q1 (by first | assumption | omega) (by first | assumption | omega) (by first | assumption | omega) (by exact he)) [3, 1] [0, 2] rfl rfl (by decide) (by decide) (by decide) 0 rfl k_AL ml_SI_200 w_AL_get rfl ⟨by decide, by decide⟩ rfl (Nat.le_of_ble_eq_true rfl) ⟨by decide, by decide⟩ d_SI_segment_22 (fun r_22 u H locs hpost hP hD hS => ?_)
    obtain ⟨rfl, hr_22⟩ := hpost
    replace hr_22 := hr_22.symm
    subst hr_22
    have hP : va_P D classes ([(x0, .inr (6, [.ref s0, .ref l0, .ref p0, .ref k0, .int (nI bf)])), (q1, .inr (3, [.int (nI f1), .int (nI v1), .int (nI w1), .int (nI x1), .int (nI y1)])), (l0, .inr (7, [.int mc, .ref el, .int (nI n)])), (el, .inl (K 4, ne, .inr (.inr (.inr (.inr ef)))))] : va_W) H := hP
    have hD : va_D A ([(x0, .inr (6, [.ref s0, .ref l0, .ref p0, .ref k0, .int (nI bf)])), (q1, .inr (3, [.int (nI f1), .int (nI v1), .int (nI w1), .int (nI x1), .int (nI y1)])), (l0, .inr (7, [.int mc, .ref el, .int (nI n)])), (el, .inl (K 4, ne, .inr (.inr (.inr (.inr ef)))))] : va_W) := hD
    refine xcast (q0 := 1) hx hb hown htw hK hP rfl k_Sg cl_SI_204 d_SI_segment_25 ?_
    refine lv_astore_n (lv' := [(3, .ref q1), (0, .ref x0), (1, .int (nI q)), (2, .int (nI 0))]) hx hb d_SI_segment_28 rfl hl (by decide) rfl (fun ls hl => ?_)
    refine lv_iload_n hx hb d_SI_segment_29 rfl (lv_at hl 3 rfl) ?_
    refine lv_tableIn (off := 30) (tgt := 60) hx hb d_SI_segment_30 (by decide) (by decide) rfl (by decide) ?_
    refine lv_aload_n hx hb d_SI_segment_60 rfl (lv_at hl 0 rfl) ?_
    refine xg hx hb hown htw hK hP 1 1 rfl k_Sg (by decide) fl_SI_206 rfl d_SI_segment_61 ?_
    obtain ⟨hP, hD⟩ := xp (ws' := [(x0, .inr (6, [.ref s0, .ref l0, .ref p0, .ref k0, .int (nI bf)])), (l0, .inr (7, [.int mc, .ref el, .int (nI n)])), (el, .inl (K 4, ne, .inr (.inr (.inr (.inr ef))))), (q1, .inr (3, [.int (nI f1), .int (nI v1), .int (nI w1), .int (nI x1), .int (nI y1)]))]) hP hD [0, 2, 3, 1] (by decide) rfl
    exact xr_iret hx hb hr hlocks hP hD hS (Nat.le_of_ble_eq_true rfl) (Nat.le_of_ble_eq_true rfl) (⟨rfl, rfl⟩) d_SI_segment_64
  · omega

abbrev q_SI_segment_1 (K : Nat → ClassId) (x0 : Nat) (s0 : Nat) (l0 : Nat) (p0 : Nat) (k0 : Nat) (bf : Nat) (mc : Int32) (el : Nat) (n : Nat) (ne : Nat) (ef : Nat → Option Nat) (q1 : Nat) (f1 : Nat) (v1 : Nat) (w1 : Nat) (x1 : Nat) (y1 : Nat) (q : Nat) : Int32 → va_W → Prop := fun r u => u = ([(x0, .inr (6, [.ref s0, .ref l0, .ref p0, .ref k0, .int (nI bf)])), (l0, .inr (7, [.int mc, .ref el, .int (nI n)])), (el, .inl (K 4, ne, .inr (.inr (.inr (.inr ef))))), (q1, .inr (3, [.int (nI f1), .int (nI v1), .int (nI w1), .int (nI x1), .int (nI y1)]))] : va_W) ∧ r = nI w1
set_option maxHeartbeats 4000000 in
set_option maxRecDepth 100000 in
theorem c_SI_segment_1 (l : Launch) (D : va_G) (K : Nat → ClassId) (x0 : Nat) (s0 : Nat) (l0 : Nat) (p0 : Nat) (k0 : Nat) (bf : Nat) (mc : Int32) (el : Nat) (n : Nat) (ne : Nat) (ef : Nat → Option Nat) (q1 : Nat) (f1 : Nat) (v1 : Nat) (w1 : Nat) (x1 : Nat) (y1 : Nat) (q : Nat) (hne : ne < 2 ^ 20) (hnn : n ≤ ne) (hq : q < n) (he : ef q = some q1) : CI l y_SI_segment b_SI_segment 4 .int ({ frames := 4, cells := 0, slots := 0, locals := 120 } : Room) D K [.ref x0, .int (nI q), .int (nI 1)] ([(x0, .inr (6, [.ref s0, .ref l0, .ref p0, .ref k0, .int (nI bf)])), (l0, .inr (7, [.int mc, .ref el, .int (nI n)])), (el, .inl (K 4, ne, .inr (.inr (.inr (.inr ef))))), (q1, .inr (3, [.int (nI f1), .int (nI v1), .int (nI w1), .int (nI x1), .int (nI y1)]))] : va_W) (q_SI_segment_1 K x0 s0 l0 p0 k0 bf mc el n ne ef q1 f1 v1 w1 x1 y1 q) := by
  refine CI_of (by decide) (Nat.le_of_ble_eq_true rfl) ?_
  intro p e s m below meth c A b0 ls hF hA hP hD hl
  have hF2 := hF
  obtain ⟨hx, hb, hr, hml, hown, htw, hK, hlocks, hname⟩ := hF
  have hS : va_S A s.heap s.heap [] := va_S.rf
  have hl : lv_has ls 4 [(0, .ref x0), (1, .int (nI q)), (2, .int (nI 1))] := hl
  refine lv_iload_n hx hb d_SI_segment_0 rfl (lv_at hl 1 rfl) ?_
  refine xz_lt (a := q) hx hb (by omega) d_SI_segment_1 15 (by decide) ?_
  refine lv_iload_n hx hb d_SI_segment_4 rfl (lv_at hl 1 rfl) ?_
  refine lv_aload_n hx hb d_SI_segment_5 rfl (lv_at hl 0 rfl) ?_
  refine xg hx hb hown htw hK hP 0 1 rfl k_SI (by decide) fl_SI_19 rfl d_SI_segment_6 ?_
  refine xcV_i (As := []) (rest := [.int (nI q)]) (wr := ([(x0, .inr (6, [.ref s0, .ref l0, .ref p0, .ref k0, .int (nI bf)])), (el, .inl (K 4, ne, .inr (.inr (.inr (.inr ef))))), (q1, .inr (3, [.int (nI f1), .int (nI v1), .int (nI w1), .int (nI x1), .int (nI y1)]))] : va_W)) hx hb hml hown htw hK hA hl.1 hP hD hS (c_AL_size l D K l0 mc el n ) [1] [0, 2, 3] rfl rfl (by decide) (by decide) (by decide) 0 rfl k_AL ml_SI_115 w_AL_size rfl ⟨by decide, by decide⟩ rfl (Nat.le_of_ble_eq_true rfl) ⟨by decide, by decide⟩ d_SI_segment_9 (fun r u H locs hpost hP hD hS => ?_)
  obtain ⟨rfl, rfl⟩ := hpost
  have hP : va_P D classes ([(x0, .inr (6, [.ref s0, .ref l0, .ref p0, .ref k0, .int (nI bf)])), (el, .inl (K 4, ne, .inr (.inr (.inr (.inr ef))))), (q1, .inr (3, [.int (nI f1), .int (nI v1), .int (nI w1), .int (nI x1), .int (nI y1)])), (l0, .inr (7, [.int mc, .ref el, .int (nI n)]))] : va_W) H := hP
  have hD : va_D A ([(x0, .inr (6, [.ref s0, .ref l0, .ref p0, .ref k0, .int (nI bf)])), (el, .inl (K 4, ne, .inr (.inr (.inr (.inr ef))))), (q1, .inr (3, [.int (nI f1), .int (nI v1), .int (nI w1), .int (nI x1), .int (nI y1)])), (l0, .inr (7, [.int mc, .ref el, .int (nI n)]))] : va_W) := hD
  refine xc_lt (tgt := 17) (a := q) (b := n) hx hb (by omega) (by omega) d_SI_segment_12 (by decide) (fun c_12 => ?_) (fun c_12 => ?_)
  · refine lv_aload_n hx hb d_SI_segment_17 rfl (lv_at hl 0 rfl) ?_
    refine xg hx hb hown htw hK hP 0 1 rfl k_SI (by decide) fl_SI_19 rfl d_SI_segment_18 ?_
    refine lv_iload_n hx hb d_SI_segment_21 rfl (lv_at hl 1 rfl) ?_
    refine xcV_r (As := [.int (nI q)]) (rest := []) (wr := ([(x0, .inr (6, [.ref s0, .ref l0, .ref p0, .ref k0, .int (nI bf)])), (q1, .inr (3, [.int (nI f1), .int (nI v1), .int (nI w1), .int (nI x1), .int (nI y1)]))] : va_W)) hx hb hml hown htw hK hA hl.1 hP hD hS (c_AL_get l D K l0 mc el n ne ef q q1 (by first | assumption | omega) (by first | assumption | omega) (by first | assumption | omega) (by exact he)) [3, 1] [0, 2] rfl rfl (by decide) (by decide) (by decide) 0 rfl k_AL ml_SI_200 w_AL_get rfl ⟨by decide, by decide⟩ rfl (Nat.le_of_ble_eq_true rfl) ⟨by decide, by decide⟩ d_SI_segment_22 (fun r_22 u H locs hpost hP hD hS => ?_)
    obtain ⟨rfl, hr_22⟩ := hpost
    replace hr_22 := hr_22.symm
    subst hr_22
    have hP : va_P D classes ([(x0, .inr (6, [.ref s0, .ref l0, .ref p0, .ref k0, .int (nI bf)])), (q1, .inr (3, [.int (nI f1), .int (nI v1), .int (nI w1), .int (nI x1), .int (nI y1)])), (l0, .inr (7, [.int mc, .ref el, .int (nI n)])), (el, .inl (K 4, ne, .inr (.inr (.inr (.inr ef)))))] : va_W) H := hP
    have hD : va_D A ([(x0, .inr (6, [.ref s0, .ref l0, .ref p0, .ref k0, .int (nI bf)])), (q1, .inr (3, [.int (nI f1), .int (nI v1), .int (nI w1), .int (nI x1), .int (nI y1)])), (l0, .inr (7, [.int mc, .ref el, .int (nI n)])), (el, .inl (K 4, ne, .inr (.inr (.inr (.inr ef)))))] : va_W) := hD
    refine xcast (q0 := 1) hx hb hown htw hK hP rfl k_Sg cl_SI_204 d_SI_segment_25 ?_
    refine lv_astore_n (lv' := [(3, .ref q1), (0, .ref x0), (1, .int (nI q)), (2, .int (nI 1))]) hx hb d_SI_segment_28 rfl hl (by decide) rfl (fun ls hl => ?_)
    refine lv_iload_n hx hb d_SI_segment_29 rfl (lv_at hl 3 rfl) ?_
    refine lv_tableIn (off := 35) (tgt := 65) hx hb d_SI_segment_30 (by decide) (by decide) rfl (by decide) ?_
    refine lv_aload_n hx hb d_SI_segment_65 rfl (lv_at hl 0 rfl) ?_
    refine xg hx hb hown htw hK hP 1 2 rfl k_Sg (by decide) fl_SI_209 rfl d_SI_segment_66 ?_
    obtain ⟨hP, hD⟩ := xp (ws' := [(x0, .inr (6, [.ref s0, .ref l0, .ref p0, .ref k0, .int (nI bf)])), (l0, .inr (7, [.int mc, .ref el, .int (nI n)])), (el, .inl (K 4, ne, .inr (.inr (.inr (.inr ef))))), (q1, .inr (3, [.int (nI f1), .int (nI v1), .int (nI w1), .int (nI x1), .int (nI y1)]))]) hP hD [0, 2, 3, 1] (by decide) rfl
    exact xr_iret hx hb hr hlocks hP hD hS (Nat.le_of_ble_eq_true rfl) (Nat.le_of_ble_eq_true rfl) (⟨rfl, rfl⟩) d_SI_segment_69
  · omega

abbrev q_SI_segment_2 (K : Nat → ClassId) (x0 : Nat) (s0 : Nat) (l0 : Nat) (p0 : Nat) (k0 : Nat) (bf : Nat) (mc : Int32) (el : Nat) (n : Nat) (ne : Nat) (ef : Nat → Option Nat) (q1 : Nat) (f1 : Nat) (v1 : Nat) (w1 : Nat) (x1 : Nat) (y1 : Nat) (q : Nat) : Int32 → va_W → Prop := fun r u => u = ([(x0, .inr (6, [.ref s0, .ref l0, .ref p0, .ref k0, .int (nI bf)])), (l0, .inr (7, [.int mc, .ref el, .int (nI n)])), (el, .inl (K 4, ne, .inr (.inr (.inr (.inr ef))))), (q1, .inr (3, [.int (nI f1), .int (nI v1), .int (nI w1), .int (nI x1), .int (nI y1)]))] : va_W) ∧ r = nI x1
set_option maxHeartbeats 4000000 in
set_option maxRecDepth 100000 in
theorem c_SI_segment_2 (l : Launch) (D : va_G) (K : Nat → ClassId) (x0 : Nat) (s0 : Nat) (l0 : Nat) (p0 : Nat) (k0 : Nat) (bf : Nat) (mc : Int32) (el : Nat) (n : Nat) (ne : Nat) (ef : Nat → Option Nat) (q1 : Nat) (f1 : Nat) (v1 : Nat) (w1 : Nat) (x1 : Nat) (y1 : Nat) (q : Nat) (hne : ne < 2 ^ 20) (hnn : n ≤ ne) (hq : q < n) (he : ef q = some q1) : CI l y_SI_segment b_SI_segment 4 .int ({ frames := 4, cells := 0, slots := 0, locals := 120 } : Room) D K [.ref x0, .int (nI q), .int (nI 2)] ([(x0, .inr (6, [.ref s0, .ref l0, .ref p0, .ref k0, .int (nI bf)])), (l0, .inr (7, [.int mc, .ref el, .int (nI n)])), (el, .inl (K 4, ne, .inr (.inr (.inr (.inr ef))))), (q1, .inr (3, [.int (nI f1), .int (nI v1), .int (nI w1), .int (nI x1), .int (nI y1)]))] : va_W) (q_SI_segment_2 K x0 s0 l0 p0 k0 bf mc el n ne ef q1 f1 v1 w1 x1 y1 q) := by
  refine CI_of (by decide) (Nat.le_of_ble_eq_true rfl) ?_
  intro p e s m below meth c A b0 ls hF hA hP hD hl
  have hF2 := hF
  obtain ⟨hx, hb, hr, hml, hown, htw, hK, hlocks, hname⟩ := hF
  have hS : va_S A s.heap s.heap [] := va_S.rf
  have hl : lv_has ls 4 [(0, .ref x0), (1, .int (nI q)), (2, .int (nI 2))] := hl
  refine lv_iload_n hx hb d_SI_segment_0 rfl (lv_at hl 1 rfl) ?_
  refine xz_lt (a := q) hx hb (by omega) d_SI_segment_1 15 (by decide) ?_
  refine lv_iload_n hx hb d_SI_segment_4 rfl (lv_at hl 1 rfl) ?_
  refine lv_aload_n hx hb d_SI_segment_5 rfl (lv_at hl 0 rfl) ?_
  refine xg hx hb hown htw hK hP 0 1 rfl k_SI (by decide) fl_SI_19 rfl d_SI_segment_6 ?_
  refine xcV_i (As := []) (rest := [.int (nI q)]) (wr := ([(x0, .inr (6, [.ref s0, .ref l0, .ref p0, .ref k0, .int (nI bf)])), (el, .inl (K 4, ne, .inr (.inr (.inr (.inr ef))))), (q1, .inr (3, [.int (nI f1), .int (nI v1), .int (nI w1), .int (nI x1), .int (nI y1)]))] : va_W)) hx hb hml hown htw hK hA hl.1 hP hD hS (c_AL_size l D K l0 mc el n ) [1] [0, 2, 3] rfl rfl (by decide) (by decide) (by decide) 0 rfl k_AL ml_SI_115 w_AL_size rfl ⟨by decide, by decide⟩ rfl (Nat.le_of_ble_eq_true rfl) ⟨by decide, by decide⟩ d_SI_segment_9 (fun r u H locs hpost hP hD hS => ?_)
  obtain ⟨rfl, rfl⟩ := hpost
  have hP : va_P D classes ([(x0, .inr (6, [.ref s0, .ref l0, .ref p0, .ref k0, .int (nI bf)])), (el, .inl (K 4, ne, .inr (.inr (.inr (.inr ef))))), (q1, .inr (3, [.int (nI f1), .int (nI v1), .int (nI w1), .int (nI x1), .int (nI y1)])), (l0, .inr (7, [.int mc, .ref el, .int (nI n)]))] : va_W) H := hP
  have hD : va_D A ([(x0, .inr (6, [.ref s0, .ref l0, .ref p0, .ref k0, .int (nI bf)])), (el, .inl (K 4, ne, .inr (.inr (.inr (.inr ef))))), (q1, .inr (3, [.int (nI f1), .int (nI v1), .int (nI w1), .int (nI x1), .int (nI y1)])), (l0, .inr (7, [.int mc, .ref el, .int (nI n)]))] : va_W) := hD
  refine xc_lt (tgt := 17) (a := q) (b := n) hx hb (by omega) (by omega) d_SI_segment_12 (by decide) (fun c_12 => ?_) (fun c_12 => ?_)
  · refine lv_aload_n hx hb d_SI_segment_17 rfl (lv_at hl 0 rfl) ?_
    refine xg hx hb hown htw hK hP 0 1 rfl k_SI (by decide) fl_SI_19 rfl d_SI_segment_18 ?_
    refine lv_iload_n hx hb d_SI_segment_21 rfl (lv_at hl 1 rfl) ?_
    refine xcV_r (As := [.int (nI q)]) (rest := []) (wr := ([(x0, .inr (6, [.ref s0, .ref l0, .ref p0, .ref k0, .int (nI bf)])), (q1, .inr (3, [.int (nI f1), .int (nI v1), .int (nI w1), .int (nI x1), .int (nI y1)]))] : va_W)) hx hb hml hown htw hK hA hl.1 hP hD hS (c_AL_get l D K l0 mc el n ne ef q q1 (by first | assumption | omega) (by first | assumption | omega) (by first | assumption | omega) (by exact he)) [3, 1] [0, 2] rfl rfl (by decide) (by decide) (by decide) 0 rfl k_AL ml_SI_200 w_AL_get rfl ⟨by decide, by decide⟩ rfl (Nat.le_of_ble_eq_true rfl) ⟨by decide, by decide⟩ d_SI_segment_22 (fun r_22 u H locs hpost hP hD hS => ?_)
    obtain ⟨rfl, hr_22⟩ := hpost
    replace hr_22 := hr_22.symm
    subst hr_22
    have hP : va_P D classes ([(x0, .inr (6, [.ref s0, .ref l0, .ref p0, .ref k0, .int (nI bf)])), (q1, .inr (3, [.int (nI f1), .int (nI v1), .int (nI w1), .int (nI x1), .int (nI y1)])), (l0, .inr (7, [.int mc, .ref el, .int (nI n)])), (el, .inl (K 4, ne, .inr (.inr (.inr (.inr ef)))))] : va_W) H := hP
    have hD : va_D A ([(x0, .inr (6, [.ref s0, .ref l0, .ref p0, .ref k0, .int (nI bf)])), (q1, .inr (3, [.int (nI f1), .int (nI v1), .int (nI w1), .int (nI x1), .int (nI y1)])), (l0, .inr (7, [.int mc, .ref el, .int (nI n)])), (el, .inl (K 4, ne, .inr (.inr (.inr (.inr ef)))))] : va_W) := hD
    refine xcast (q0 := 1) hx hb hown htw hK hP rfl k_Sg cl_SI_204 d_SI_segment_25 ?_
    refine lv_astore_n (lv' := [(3, .ref q1), (0, .ref x0), (1, .int (nI q)), (2, .int (nI 2))]) hx hb d_SI_segment_28 rfl hl (by decide) rfl (fun ls hl => ?_)
    refine lv_iload_n hx hb d_SI_segment_29 rfl (lv_at hl 3 rfl) ?_
    refine lv_tableIn (off := 40) (tgt := 70) hx hb d_SI_segment_30 (by decide) (by decide) rfl (by decide) ?_
    refine lv_aload_n hx hb d_SI_segment_70 rfl (lv_at hl 0 rfl) ?_
    refine xg hx hb hown htw hK hP 1 3 rfl k_Sg (by decide) fl_SI_212 rfl d_SI_segment_71 ?_
    obtain ⟨hP, hD⟩ := xp (ws' := [(x0, .inr (6, [.ref s0, .ref l0, .ref p0, .ref k0, .int (nI bf)])), (l0, .inr (7, [.int mc, .ref el, .int (nI n)])), (el, .inl (K 4, ne, .inr (.inr (.inr (.inr ef))))), (q1, .inr (3, [.int (nI f1), .int (nI v1), .int (nI w1), .int (nI x1), .int (nI y1)]))]) hP hD [0, 2, 3, 1] (by decide) rfl
    exact xr_iret hx hb hr hlocks hP hD hS (Nat.le_of_ble_eq_true rfl) (Nat.le_of_ble_eq_true rfl) (⟨rfl, rfl⟩) d_SI_segment_74
  · omega

abbrev q_SI_segment_3 (K : Nat → ClassId) (x0 : Nat) (s0 : Nat) (l0 : Nat) (p0 : Nat) (k0 : Nat) (bf : Nat) (mc : Int32) (el : Nat) (n : Nat) (ne : Nat) (ef : Nat → Option Nat) (q1 : Nat) (f1 : Nat) (v1 : Nat) (w1 : Nat) (x1 : Nat) (y1 : Nat) (q : Nat) : Int32 → va_W → Prop := fun r u => u = ([(x0, .inr (6, [.ref s0, .ref l0, .ref p0, .ref k0, .int (nI bf)])), (l0, .inr (7, [.int mc, .ref el, .int (nI n)])), (el, .inl (K 4, ne, .inr (.inr (.inr (.inr ef))))), (q1, .inr (3, [.int (nI f1), .int (nI v1), .int (nI w1), .int (nI x1), .int (nI y1)]))] : va_W) ∧ r = nI y1
set_option maxHeartbeats 4000000 in
set_option maxRecDepth 100000 in
theorem c_SI_segment_3 (l : Launch) (D : va_G) (K : Nat → ClassId) (x0 : Nat) (s0 : Nat) (l0 : Nat) (p0 : Nat) (k0 : Nat) (bf : Nat) (mc : Int32) (el : Nat) (n : Nat) (ne : Nat) (ef : Nat → Option Nat) (q1 : Nat) (f1 : Nat) (v1 : Nat) (w1 : Nat) (x1 : Nat) (y1 : Nat) (q : Nat) (hne : ne < 2 ^ 20) (hnn : n ≤ ne) (hq : q < n) (he : ef q = some q1) : CI l y_SI_segment b_SI_segment 4 .int ({ frames := 4, cells := 0, slots := 0, locals := 120 } : Room) D K [.ref x0, .int (nI q), .int (nI 3)] ([(x0, .inr (6, [.ref s0, .ref l0, .ref p0, .ref k0, .int (nI bf)])), (l0, .inr (7, [.int mc, .ref el, .int (nI n)])), (el, .inl (K 4, ne, .inr (.inr (.inr (.inr ef))))), (q1, .inr (3, [.int (nI f1), .int (nI v1), .int (nI w1), .int (nI x1), .int (nI y1)]))] : va_W) (q_SI_segment_3 K x0 s0 l0 p0 k0 bf mc el n ne ef q1 f1 v1 w1 x1 y1 q) := by
  refine CI_of (by decide) (Nat.le_of_ble_eq_true rfl) ?_
  intro p e s m below meth c A b0 ls hF hA hP hD hl
  have hF2 := hF
  obtain ⟨hx, hb, hr, hml, hown, htw, hK, hlocks, hname⟩ := hF
  have hS : va_S A s.heap s.heap [] := va_S.rf
  have hl : lv_has ls 4 [(0, .ref x0), (1, .int (nI q)), (2, .int (nI 3))] := hl
  refine lv_iload_n hx hb d_SI_segment_0 rfl (lv_at hl 1 rfl) ?_
  refine xz_lt (a := q) hx hb (by omega) d_SI_segment_1 15 (by decide) ?_
  refine lv_iload_n hx hb d_SI_segment_4 rfl (lv_at hl 1 rfl) ?_
  refine lv_aload_n hx hb d_SI_segment_5 rfl (lv_at hl 0 rfl) ?_
  refine xg hx hb hown htw hK hP 0 1 rfl k_SI (by decide) fl_SI_19 rfl d_SI_segment_6 ?_
  refine xcV_i (As := []) (rest := [.int (nI q)]) (wr := ([(x0, .inr (6, [.ref s0, .ref l0, .ref p0, .ref k0, .int (nI bf)])), (el, .inl (K 4, ne, .inr (.inr (.inr (.inr ef))))), (q1, .inr (3, [.int (nI f1), .int (nI v1), .int (nI w1), .int (nI x1), .int (nI y1)]))] : va_W)) hx hb hml hown htw hK hA hl.1 hP hD hS (c_AL_size l D K l0 mc el n ) [1] [0, 2, 3] rfl rfl (by decide) (by decide) (by decide) 0 rfl k_AL ml_SI_115 w_AL_size rfl ⟨by decide, by decide⟩ rfl (Nat.le_of_ble_eq_true rfl) ⟨by decide, by decide⟩ d_SI_segment_9 (fun r u H locs hpost hP hD hS => ?_)
  obtain ⟨rfl, rfl⟩ := hpost
  have hP : va_P D classes ([(x0, .inr (6, [.ref s0, .ref l0, .ref p0, .ref k0, .int (nI bf)])), (el, .inl (K 4, ne, .inr (.inr (.inr (.inr ef))))), (q1, .inr (3, [.int (nI f1), .int (nI v1), .int (nI w1), .int (nI x1), .int (nI y1)])), (l0, .inr (7, [.int mc, .ref el, .int (nI n)]))] : va_W) H := hP
  have hD : va_D A ([(x0, .inr (6, [.ref s0, .ref l0, .ref p0, .ref k0, .int (nI bf)])), (el, .inl (K 4, ne, .inr (.inr (.inr (.inr ef))))), (q1, .inr (3, [.int (nI f1), .int (nI v1), .int (nI w1), .int (nI x1), .int (nI y1)])), (l0, .inr (7, [.int mc, .ref el, .int (nI n)]))] : va_W) := hD
  refine xc_lt (tgt := 17) (a := q) (b := n) hx hb (by omega) (by omega) d_SI_segment_12 (by decide) (fun c_12 => ?_) (fun c_12 => ?_)
  · refine lv_aload_n hx hb d_SI_segment_17 rfl (lv_at hl 0 rfl) ?_
    refine xg hx hb hown htw hK hP 0 1 rfl k_SI (by decide) fl_SI_19 rfl d_SI_segment_18 ?_
    refine lv_iload_n hx hb d_SI_segment_21 rfl (lv_at hl 1 rfl) ?_
    refine xcV_r (As := [.int (nI q)]) (rest := []) (wr := ([(x0, .inr (6, [.ref s0, .ref l0, .ref p0, .ref k0, .int (nI bf)])), (q1, .inr (3, [.int (nI f1), .int (nI v1), .int (nI w1), .int (nI x1), .int (nI y1)]))] : va_W)) hx hb hml hown htw hK hA hl.1 hP hD hS (c_AL_get l D K l0 mc el n ne ef q q1 (by first | assumption | omega) (by first | assumption | omega) (by first | assumption | omega) (by exact he)) [3, 1] [0, 2] rfl rfl (by decide) (by decide) (by decide) 0 rfl k_AL ml_SI_200 w_AL_get rfl ⟨by decide, by decide⟩ rfl (Nat.le_of_ble_eq_true rfl) ⟨by decide, by decide⟩ d_SI_segment_22 (fun r_22 u H locs hpost hP hD hS => ?_)
    obtain ⟨rfl, hr_22⟩ := hpost
    replace hr_22 := hr_22.symm
    subst hr_22
    have hP : va_P D classes ([(x0, .inr (6, [.ref s0, .ref l0, .ref p0, .ref k0, .int (nI bf)])), (q1, .inr (3, [.int (nI f1), .int (nI v1), .int (nI w1), .int (nI x1), .int (nI y1)])), (l0, .inr (7, [.int mc, .ref el, .int (nI n)])), (el, .inl (K 4, ne, .inr (.inr (.inr (.inr ef)))))] : va_W) H := hP
    have hD : va_D A ([(x0, .inr (6, [.ref s0, .ref l0, .ref p0, .ref k0, .int (nI bf)])), (q1, .inr (3, [.int (nI f1), .int (nI v1), .int (nI w1), .int (nI x1), .int (nI y1)])), (l0, .inr (7, [.int mc, .ref el, .int (nI n)])), (el, .inl (K 4, ne, .inr (.inr (.inr (.inr ef)))))] : va_W) := hD
    refine xcast (q0 := 1) hx hb hown htw hK hP rfl k_Sg cl_SI_204 d_SI_segment_25 ?_
    refine lv_astore_n (lv' := [(3, .ref q1), (0, .ref x0), (1, .int (nI q)), (2, .int (nI 3))]) hx hb d_SI_segment_28 rfl hl (by decide) rfl (fun ls hl => ?_)
    refine lv_iload_n hx hb d_SI_segment_29 rfl (lv_at hl 3 rfl) ?_
    refine lv_tableIn (off := 45) (tgt := 75) hx hb d_SI_segment_30 (by decide) (by decide) rfl (by decide) ?_
    refine lv_aload_n hx hb d_SI_segment_75 rfl (lv_at hl 0 rfl) ?_
    refine xg hx hb hown htw hK hP 1 4 rfl k_Sg (by decide) fl_SI_215 rfl d_SI_segment_76 ?_
    obtain ⟨hP, hD⟩ := xp (ws' := [(x0, .inr (6, [.ref s0, .ref l0, .ref p0, .ref k0, .int (nI bf)])), (l0, .inr (7, [.int mc, .ref el, .int (nI n)])), (el, .inl (K 4, ne, .inr (.inr (.inr (.inr ef))))), (q1, .inr (3, [.int (nI f1), .int (nI v1), .int (nI w1), .int (nI x1), .int (nI y1)]))]) hP hD [0, 2, 3, 1] (by decide) rfl
    exact xr_iret hx hb hr hlocks hP hD hS (Nat.le_of_ble_eq_true rfl) (Nat.le_of_ble_eq_true rfl) (⟨rfl, rfl⟩) d_SI_segment_79
  · omega

abbrev q_SI_segment_other (K : Nat → ClassId) (x0 : Nat) (s0 : Nat) (l0 : Nat) (p0 : Nat) (k0 : Nat) (bf : Nat) (mc : Int32) (el : Nat) (n : Nat) (ne : Nat) (ef : Nat → Option Nat) (q1 : Nat) (f1 : Nat) (v1 : Nat) (w1 : Nat) (x1 : Nat) (y1 : Nat) (q : Nat) (y : Int32) : Int32 → va_W → Prop := fun r u => u = ([(x0, .inr (6, [.ref s0, .ref l0, .ref p0, .ref k0, .int (nI bf)])), (l0, .inr (7, [.int mc, .ref el, .int (nI n)])), (el, .inl (K 4, ne, .inr (.inr (.inr (.inr ef))))), (q1, .inr (3, [.int (nI f1), .int (nI v1), .int (nI w1), .int (nI x1), .int (nI y1)]))] : va_W) ∧ r = zI (-1)
set_option maxHeartbeats 4000000 in
set_option maxRecDepth 100000 in
theorem c_SI_segment_other (l : Launch) (D : va_G) (K : Nat → ClassId) (x0 : Nat) (s0 : Nat) (l0 : Nat) (p0 : Nat) (k0 : Nat) (bf : Nat) (mc : Int32) (el : Nat) (n : Nat) (ne : Nat) (ef : Nat → Option Nat) (q1 : Nat) (f1 : Nat) (v1 : Nat) (w1 : Nat) (x1 : Nat) (y1 : Nat) (q : Nat) (y : Int32) (hne : ne < 2 ^ 20) (hnn : n ≤ ne) (hq : q < n) (he : ef q = some q1) (hy : y < 0 ∨ nI 3 < y) : CI l y_SI_segment b_SI_segment 4 .int ({ frames := 4, cells := 0, slots := 0, locals := 120 } : Room) D K [.ref x0, .int (nI q), .int y] ([(x0, .inr (6, [.ref s0, .ref l0, .ref p0, .ref k0, .int (nI bf)])), (l0, .inr (7, [.int mc, .ref el, .int (nI n)])), (el, .inl (K 4, ne, .inr (.inr (.inr (.inr ef))))), (q1, .inr (3, [.int (nI f1), .int (nI v1), .int (nI w1), .int (nI x1), .int (nI y1)]))] : va_W) (q_SI_segment_other K x0 s0 l0 p0 k0 bf mc el n ne ef q1 f1 v1 w1 x1 y1 q y) := by
  refine CI_of (by decide) (Nat.le_of_ble_eq_true rfl) ?_
  intro p e s m below meth c A b0 ls hF hA hP hD hl
  have hF2 := hF
  obtain ⟨hx, hb, hr, hml, hown, htw, hK, hlocks, hname⟩ := hF
  have hS : va_S A s.heap s.heap [] := va_S.rf
  have hl : lv_has ls 4 [(0, .ref x0), (1, .int (nI q)), (2, .int y)] := hl
  refine lv_iload_n hx hb d_SI_segment_0 rfl (lv_at hl 1 rfl) ?_
  refine xz_lt (a := q) hx hb (by omega) d_SI_segment_1 15 (by decide) ?_
  refine lv_iload_n hx hb d_SI_segment_4 rfl (lv_at hl 1 rfl) ?_
  refine lv_aload_n hx hb d_SI_segment_5 rfl (lv_at hl 0 rfl) ?_
  refine xg hx hb hown htw hK hP 0 1 rfl k_SI (by decide) fl_SI_19 rfl d_SI_segment_6 ?_
  refine xcV_i (As := []) (rest := [.int (nI q)]) (wr := ([(x0, .inr (6, [.ref s0, .ref l0, .ref p0, .ref k0, .int (nI bf)])), (el, .inl (K 4, ne, .inr (.inr (.inr (.inr ef))))), (q1, .inr (3, [.int (nI f1), .int (nI v1), .int (nI w1), .int (nI x1), .int (nI y1)]))] : va_W)) hx hb hml hown htw hK hA hl.1 hP hD hS (c_AL_size l D K l0 mc el n ) [1] [0, 2, 3] rfl rfl (by decide) (by decide) (by decide) 0 rfl k_AL ml_SI_115 w_AL_size rfl ⟨by decide, by decide⟩ rfl (Nat.le_of_ble_eq_true rfl) ⟨by decide, by decide⟩ d_SI_segment_9 (fun r u H locs hpost hP hD hS => ?_)
  obtain ⟨rfl, rfl⟩ := hpost
  have hP : va_P D classes ([(x0, .inr (6, [.ref s0, .ref l0, .ref p0, .ref k0, .int (nI bf)])), (el, .inl (K 4, ne, .inr (.inr (.inr (.inr ef))))), (q1, .inr (3, [.int (nI f1), .int (nI v1), .int (nI w1), .int (nI x1), .int (nI y1)])), (l0, .inr (7, [.int mc, .ref el, .int (nI n)]))] : va_W) H := hP
  have hD : va_D A ([(x0, .inr (6, [.ref s0, .ref l0, .ref p0, .ref k0, .int (nI bf)])), (el, .inl (K 4, ne, .inr (.inr (.inr (.inr ef))))), (q1, .inr (3, [.int (nI f1), .int (nI v1), .int (nI w1), .int (nI x1), .int (nI y1)])), (l0, .inr (7, [.int mc, .ref el, .int (nI n)]))] : va_W) := hD
  refine xc_lt (tgt := 17) (a := q) (b := n) hx hb (by omega) (by omega) d_SI_segment_12 (by decide) (fun c_12 => ?_) (fun c_12 => ?_)
  · refine lv_aload_n hx hb d_SI_segment_17 rfl (lv_at hl 0 rfl) ?_
    refine xg hx hb hown htw hK hP 0 1 rfl k_SI (by decide) fl_SI_19 rfl d_SI_segment_18 ?_
    refine lv_iload_n hx hb d_SI_segment_21 rfl (lv_at hl 1 rfl) ?_
    refine xcV_r (As := [.int (nI q)]) (rest := []) (wr := ([(x0, .inr (6, [.ref s0, .ref l0, .ref p0, .ref k0, .int (nI bf)])), (q1, .inr (3, [.int (nI f1), .int (nI v1), .int (nI w1), .int (nI x1), .int (nI y1)]))] : va_W)) hx hb hml hown htw hK hA hl.1 hP hD hS (c_AL_get l D K l0 mc el n ne ef q q1 (by first | assumption | omega) (by first | assumption | omega) (by first | assumption | omega) (by exact he)) [3, 1] [0, 2] rfl rfl (by decide) (by decide) (by decide) 0 rfl k_AL ml_SI_200 w_AL_get rfl ⟨by decide, by decide⟩ rfl (Nat.le_of_ble_eq_true rfl) ⟨by decide, by decide⟩ d_SI_segment_22 (fun r_22 u H locs hpost hP hD hS => ?_)
    obtain ⟨rfl, hr_22⟩ := hpost
    replace hr_22 := hr_22.symm
    subst hr_22
    have hP : va_P D classes ([(x0, .inr (6, [.ref s0, .ref l0, .ref p0, .ref k0, .int (nI bf)])), (q1, .inr (3, [.int (nI f1), .int (nI v1), .int (nI w1), .int (nI x1), .int (nI y1)])), (l0, .inr (7, [.int mc, .ref el, .int (nI n)])), (el, .inl (K 4, ne, .inr (.inr (.inr (.inr ef)))))] : va_W) H := hP
    have hD : va_D A ([(x0, .inr (6, [.ref s0, .ref l0, .ref p0, .ref k0, .int (nI bf)])), (q1, .inr (3, [.int (nI f1), .int (nI v1), .int (nI w1), .int (nI x1), .int (nI y1)])), (l0, .inr (7, [.int mc, .ref el, .int (nI n)])), (el, .inl (K 4, ne, .inr (.inr (.inr (.inr ef)))))] : va_W) := hD
    refine xcast (q0 := 1) hx hb hown htw hK hP rfl k_Sg cl_SI_204 d_SI_segment_25 ?_
    refine lv_astore_n (lv' := [(3, .ref q1), (0, .ref x0), (1, .int (nI q)), (2, .int y)]) hx hb d_SI_segment_28 rfl hl (by decide) rfl (fun ls hl => ?_)
    refine lv_iload_n hx hb d_SI_segment_29 rfl (lv_at hl 3 rfl) ?_
    refine lv_tableOut (tgt := 80) hx hb d_SI_segment_30 (by exact tb_out3 hy) (by decide) ?_
    refine lv_iconst (v := zI (-1)) hx hb d_SI_segment_80 (by decide) ?_
    obtain ⟨hP, hD⟩ := xp (ws' := [(x0, .inr (6, [.ref s0, .ref l0, .ref p0, .ref k0, .int (nI bf)])), (l0, .inr (7, [.int mc, .ref el, .int (nI n)])), (el, .inl (K 4, ne, .inr (.inr (.inr (.inr ef))))), (q1, .inr (3, [.int (nI f1), .int (nI v1), .int (nI w1), .int (nI x1), .int (nI y1)]))]) hP hD [0, 2, 3, 1] (by decide) rfl
    exact xr_iret hx hb hr hlocks hP hD hS (Nat.le_of_ble_eq_true rfl) (Nat.le_of_ble_eq_true rfl) (⟨rfl, rfl⟩) d_SI_segment_81
  · omega

abbrev q_SI_count_0 (K : Nat → ClassId) (x0 : Nat) (s0 : Nat) (l0 : Nat) (p0 : Nat) (k0 : Nat) (bf : Nat) (t0 : Nat) (a1 : Nat) (a2 : Nat) (a3 : Nat) (cm : Nat) (is : Nat → Nat) : Int32 → va_W → Prop := fun r u => u = ([(x0, .inr (6, [.ref s0, .ref l0, .ref p0, .ref k0, .int (nI bf)])), (s0, .inr (4, [.ref t0, .ref a1, .ref a2, .ref a3, .int (nI cm)])), (a3, .inl (K 0, 4, .inl (nA is)))] : va_W) ∧ r = nI (is 0 + is 1)
set_option maxHeartbeats 4000000 in
set_option maxRecDepth 100000 in
theorem c_SI_count_0 (l : Launch) (D : va_G) (K : Nat → ClassId) (x0 : Nat) (s0 : Nat) (l0 : Nat) (p0 : Nat) (k0 : Nat) (bf : Nat) (t0 : Nat) (a1 : Nat) (a2 : Nat) (a3 : Nat) (cm : Nat) (is : Nat → Nat)  : CI l y_SI_count b_SI_count 2 .int ({ frames := 4, cells := 0, slots := 0, locals := 120 } : Room) D K [.ref x0, .int (nI 0)] ([(x0, .inr (6, [.ref s0, .ref l0, .ref p0, .ref k0, .int (nI bf)])), (s0, .inr (4, [.ref t0, .ref a1, .ref a2, .ref a3, .int (nI cm)])), (a3, .inl (K 0, 4, .inl (nA is)))] : va_W) (q_SI_count_0 K x0 s0 l0 p0 k0 bf t0 a1 a2 a3 cm is) := by
  refine CI_of (by decide) (Nat.le_of_ble_eq_true rfl) ?_
  intro p e s m below meth c A b0 ls hF hA hP hD hl
  have hF2 := hF
  obtain ⟨hx, hb, hr, hml, hown, htw, hK, hlocks, hname⟩ := hF
  have hS : va_S A s.heap s.heap [] := va_S.rf
  have hl : lv_has ls 2 [(0, .ref x0), (1, .int (nI 0))] := hl
  refine lv_iload_n hx hb d_SI_count_0 rfl (lv_at hl 1 rfl) ?_
  refine lv_tableIn (off := 47) (tgt := 48) hx hb d_SI_count_1 (by decide) (by decide) rfl (by decide) ?_
  refine lv_aload_n hx hb d_SI_count_48 rfl (lv_at hl 0 rfl) ?_
  refine xg hx hb hown htw hK hP 0 0 rfl k_SI (by decide) fl_SI_10 rfl d_SI_count_49 ?_
  refine xg hx hb hown htw hK hP 1 3 rfl k_Sh (by decide) fl_SI_91 rfl d_SI_count_52 ?_
  refine lv_iconst (v := nI 0) hx hb d_SI_count_55 (by decide) ?_
  refine xald_i hx hb hK hP 2 rfl (by omega) (by omega) d_SI_count_56 ?_
  refine xi (y := nI (is 0)) rfl ?_
  refine lv_aload_n hx hb d_SI_count_57 rfl (lv_at hl 0 rfl) ?_
  refine xg hx hb hown htw hK hP 0 0 rfl k_SI (by decide) fl_SI_10 rfl d_SI_count_58 ?_
  refine xg hx hb hown htw hK hP 1 3 rfl k_Sh (by decide) fl_SI_91 rfl d_SI_count_61 ?_
  refine lv_iconst (v := nI 1) hx hb d_SI_count_64 (by decide) ?_
  refine xald_i hx hb hK hP 2 rfl (by omega) (by omega) d_SI_count_65 ?_
  refine xi (y := nI (is 1)) rfl ?_
  refine lv_iadd hx hb d_SI_count_66 ?_
  refine xi (nI_add (is 0) (is 1)) ?_
  exact xr_iret hx hb hr hlocks hP hD hS (Nat.le_of_ble_eq_true rfl) (Nat.le_of_ble_eq_true rfl) (⟨rfl, rfl⟩) d_SI_count_67

abbrev q_SI_count_1 (K : Nat → ClassId) (x0 : Nat) (s0 : Nat) (l0 : Nat) (p0 : Nat) (k0 : Nat) (bf : Nat) (t0 : Nat) (a1 : Nat) (a2 : Nat) (a3 : Nat) (cm : Nat) : Int32 → va_W → Prop := fun r u => u = ([(x0, .inr (6, [.ref s0, .ref l0, .ref p0, .ref k0, .int (nI bf)])), (s0, .inr (4, [.ref t0, .ref a1, .ref a2, .ref a3, .int (nI cm)]))] : va_W) ∧ r = nI cm
set_option maxHeartbeats 4000000 in
set_option maxRecDepth 100000 in
theorem c_SI_count_1 (l : Launch) (D : va_G) (K : Nat → ClassId) (x0 : Nat) (s0 : Nat) (l0 : Nat) (p0 : Nat) (k0 : Nat) (bf : Nat) (t0 : Nat) (a1 : Nat) (a2 : Nat) (a3 : Nat) (cm : Nat)  : CI l y_SI_count b_SI_count 2 .int ({ frames := 4, cells := 0, slots := 0, locals := 120 } : Room) D K [.ref x0, .int (nI 1)] ([(x0, .inr (6, [.ref s0, .ref l0, .ref p0, .ref k0, .int (nI bf)])), (s0, .inr (4, [.ref t0, .ref a1, .ref a2, .ref a3, .int (nI cm)]))] : va_W) (q_SI_count_1 K x0 s0 l0 p0 k0 bf t0 a1 a2 a3 cm) := by
  refine CI_of (by decide) (Nat.le_of_ble_eq_true rfl) ?_
  intro p e s m below meth c A b0 ls hF hA hP hD hl
  have hF2 := hF
  obtain ⟨hx, hb, hr, hml, hown, htw, hK, hlocks, hname⟩ := hF
  have hS : va_S A s.heap s.heap [] := va_S.rf
  have hl : lv_has ls 2 [(0, .ref x0), (1, .int (nI 1))] := hl
  refine lv_iload_n hx hb d_SI_count_0 rfl (lv_at hl 1 rfl) ?_
  refine lv_tableIn (off := 67) (tgt := 68) hx hb d_SI_count_1 (by decide) (by decide) rfl (by decide) ?_
  refine lv_aload_n hx hb d_SI_count_68 rfl (lv_at hl 0 rfl) ?_
  refine xg hx hb hown htw hK hP 0 0 rfl k_SI (by decide) fl_SI_10 rfl d_SI_count_69 ?_
  refine xg hx hb hown htw hK hP 1 4 rfl k_Sh (by decide) fl_SI_48 rfl d_SI_count_72 ?_
  exact xr_iret hx hb hr hlocks hP hD hS (Nat.le_of_ble_eq_true rfl) (Nat.le_of_ble_eq_true rfl) (⟨rfl, rfl⟩) d_SI_count_75

abbrev q_SI_count_2 (K : Nat → ClassId) (x0 : Nat) (s0 : Nat) (l0 : Nat) (p0 : Nat) (k0 : Nat) (bf : Nat) (t0 : Nat) (a1 : Nat) (a2 : Nat) (a3 : Nat) (cm : Nat) (is : Nat → Nat) : Int32 → va_W → Prop := fun r u => u = ([(x0, .inr (6, [.ref s0, .ref l0, .ref p0, .ref k0, .int (nI bf)])), (s0, .inr (4, [.ref t0, .ref a1, .ref a2, .ref a3, .int (nI cm)])), (a3, .inl (K 0, 4, .inl (nA is)))] : va_W) ∧ r = nI (is 0)
set_option maxHeartbeats 4000000 in
set_option maxRecDepth 100000 in
theorem c_SI_count_2 (l : Launch) (D : va_G) (K : Nat → ClassId) (x0 : Nat) (s0 : Nat) (l0 : Nat) (p0 : Nat) (k0 : Nat) (bf : Nat) (t0 : Nat) (a1 : Nat) (a2 : Nat) (a3 : Nat) (cm : Nat) (is : Nat → Nat)  : CI l y_SI_count b_SI_count 2 .int ({ frames := 4, cells := 0, slots := 0, locals := 120 } : Room) D K [.ref x0, .int (nI 2)] ([(x0, .inr (6, [.ref s0, .ref l0, .ref p0, .ref k0, .int (nI bf)])), (s0, .inr (4, [.ref t0, .ref a1, .ref a2, .ref a3, .int (nI cm)])), (a3, .inl (K 0, 4, .inl (nA is)))] : va_W) (q_SI_count_2 K x0 s0 l0 p0 k0 bf t0 a1 a2 a3 cm is) := by
  refine CI_of (by decide) (Nat.le_of_ble_eq_true rfl) ?_
  intro p e s m below meth c A b0 ls hF hA hP hD hl
  have hF2 := hF
  obtain ⟨hx, hb, hr, hml, hown, htw, hK, hlocks, hname⟩ := hF
  have hS : va_S A s.heap s.heap [] := va_S.rf
  have hl : lv_has ls 2 [(0, .ref x0), (1, .int (nI 2))] := hl
  refine lv_iload_n hx hb d_SI_count_0 rfl (lv_at hl 1 rfl) ?_
  refine lv_tableIn (off := 75) (tgt := 76) hx hb d_SI_count_1 (by decide) (by decide) rfl (by decide) ?_
  refine lv_aload_n hx hb d_SI_count_76 rfl (lv_at hl 0 rfl) ?_
  refine xg hx hb hown htw hK hP 0 0 rfl k_SI (by decide) fl_SI_10 rfl d_SI_count_77 ?_
  refine xg hx hb hown htw hK hP 1 3 rfl k_Sh (by decide) fl_SI_91 rfl d_SI_count_80 ?_
  refine lv_iconst (v := nI 0) hx hb d_SI_count_83 (by decide) ?_
  refine xald_i hx hb hK hP 2 rfl (by omega) (by omega) d_SI_count_84 ?_
  refine xi (y := nI (is 0)) rfl ?_
  exact xr_iret hx hb hr hlocks hP hD hS (Nat.le_of_ble_eq_true rfl) (Nat.le_of_ble_eq_true rfl) (⟨rfl, rfl⟩) d_SI_count_85

abbrev q_SI_count_3 (K : Nat → ClassId) (x0 : Nat) (s0 : Nat) (l0 : Nat) (p0 : Nat) (k0 : Nat) (bf : Nat) (t0 : Nat) (a1 : Nat) (a2 : Nat) (a3 : Nat) (cm : Nat) (b1 : Nat) (b2 : Nat) (T : Nat) (st : Nat → Nat) : Int32 → va_W → Prop := fun r u => u = ([(x0, .inr (6, [.ref s0, .ref l0, .ref p0, .ref k0, .int (nI bf)])), (s0, .inr (4, [.ref t0, .ref a1, .ref a2, .ref a3, .int (nI cm)])), (t0, .inr (5, [.ref b1, .ref b2, .int (nI T)])), (a2, .inl (K 0, 601, .inl (nA st)))] : va_W) ∧ r = nI (T - st cm)
set_option maxHeartbeats 4000000 in
set_option maxRecDepth 100000 in
theorem c_SI_count_3 (l : Launch) (D : va_G) (K : Nat → ClassId) (x0 : Nat) (s0 : Nat) (l0 : Nat) (p0 : Nat) (k0 : Nat) (bf : Nat) (t0 : Nat) (a1 : Nat) (a2 : Nat) (a3 : Nat) (cm : Nat) (b1 : Nat) (b2 : Nat) (T : Nat) (st : Nat → Nat) (hcm : cm ≤ 600) (hst : st cm ≤ T) : CI l y_SI_count b_SI_count 2 .int ({ frames := 4, cells := 0, slots := 0, locals := 120 } : Room) D K [.ref x0, .int (nI 3)] ([(x0, .inr (6, [.ref s0, .ref l0, .ref p0, .ref k0, .int (nI bf)])), (s0, .inr (4, [.ref t0, .ref a1, .ref a2, .ref a3, .int (nI cm)])), (t0, .inr (5, [.ref b1, .ref b2, .int (nI T)])), (a2, .inl (K 0, 601, .inl (nA st)))] : va_W) (q_SI_count_3 K x0 s0 l0 p0 k0 bf t0 a1 a2 a3 cm b1 b2 T st) := by
  refine CI_of (by decide) (Nat.le_of_ble_eq_true rfl) ?_
  intro p e s m below meth c A b0 ls hF hA hP hD hl
  have hF2 := hF
  obtain ⟨hx, hb, hr, hml, hown, htw, hK, hlocks, hname⟩ := hF
  have hS : va_S A s.heap s.heap [] := va_S.rf
  have hl : lv_has ls 2 [(0, .ref x0), (1, .int (nI 3))] := hl
  refine lv_iload_n hx hb d_SI_count_0 rfl (lv_at hl 1 rfl) ?_
  refine lv_tableIn (off := 85) (tgt := 86) hx hb d_SI_count_1 (by decide) (by decide) rfl (by decide) ?_
  refine lv_aload_n hx hb d_SI_count_86 rfl (lv_at hl 0 rfl) ?_
  refine xg hx hb hown htw hK hP 0 0 rfl k_SI (by decide) fl_SI_10 rfl d_SI_count_87 ?_
  refine xcV_i (As := []) (rest := []) (wr := ([(x0, .inr (6, [.ref s0, .ref l0, .ref p0, .ref k0, .int (nI bf)]))] : va_W)) hx hb hml hown htw hK hA hl.1 hP hD hS (c_Sh_inHand l D K s0 t0 a1 a2 a3 cm b1 b2 T st (by first | assumption | omega) (by first | assumption | omega)) [1, 2, 3] [0] rfl rfl (by decide) (by decide) (by decide) 0 rfl k_Sh ml_SI_67 w_Sh_inHand rfl ⟨by decide, by decide⟩ rfl (Nat.le_of_ble_eq_true rfl) ⟨by decide, by decide⟩ d_SI_count_90 (fun r u H locs hpost hP hD hS => ?_)
  obtain ⟨rfl, rfl⟩ := hpost
  have hP : va_P D classes ([(x0, .inr (6, [.ref s0, .ref l0, .ref p0, .ref k0, .int (nI bf)])), (s0, .inr (4, [.ref t0, .ref a1, .ref a2, .ref a3, .int (nI cm)])), (t0, .inr (5, [.ref b1, .ref b2, .int (nI T)])), (a2, .inl (K 0, 601, .inl (nA st)))] : va_W) H := hP
  have hD : va_D A ([(x0, .inr (6, [.ref s0, .ref l0, .ref p0, .ref k0, .int (nI bf)])), (s0, .inr (4, [.ref t0, .ref a1, .ref a2, .ref a3, .int (nI cm)])), (t0, .inr (5, [.ref b1, .ref b2, .int (nI T)])), (a2, .inl (K 0, 601, .inl (nA st)))] : va_W) := hD
  exact xr_iret hx hb hr hlocks hP hD hS (Nat.le_of_ble_eq_true rfl) (Nat.le_of_ble_eq_true rfl) (⟨rfl, rfl⟩) d_SI_count_93

abbrev q_SI_count_4 (K : Nat → ClassId) (x0 : Nat) (s0 : Nat) (l0 : Nat) (p0 : Nat) (k0 : Nat) (bf : Nat) (mc : Int32) (el : Nat) (n : Nat) : Int32 → va_W → Prop := fun r u => u = ([(x0, .inr (6, [.ref s0, .ref l0, .ref p0, .ref k0, .int (nI bf)])), (l0, .inr (7, [.int mc, .ref el, .int (nI n)]))] : va_W) ∧ r = nI n
set_option maxHeartbeats 4000000 in
set_option maxRecDepth 100000 in
theorem c_SI_count_4 (l : Launch) (D : va_G) (K : Nat → ClassId) (x0 : Nat) (s0 : Nat) (l0 : Nat) (p0 : Nat) (k0 : Nat) (bf : Nat) (mc : Int32) (el : Nat) (n : Nat)  : CI l y_SI_count b_SI_count 2 .int ({ frames := 4, cells := 0, slots := 0, locals := 120 } : Room) D K [.ref x0, .int (nI 4)] ([(x0, .inr (6, [.ref s0, .ref l0, .ref p0, .ref k0, .int (nI bf)])), (l0, .inr (7, [.int mc, .ref el, .int (nI n)]))] : va_W) (q_SI_count_4 K x0 s0 l0 p0 k0 bf mc el n) := by
  refine CI_of (by decide) (Nat.le_of_ble_eq_true rfl) ?_
  intro p e s m below meth c A b0 ls hF hA hP hD hl
  have hF2 := hF
  obtain ⟨hx, hb, hr, hml, hown, htw, hK, hlocks, hname⟩ := hF
  have hS : va_S A s.heap s.heap [] := va_S.rf
  have hl : lv_has ls 2 [(0, .ref x0), (1, .int (nI 4))] := hl
  refine lv_iload_n hx hb d_SI_count_0 rfl (lv_at hl 1 rfl) ?_
  refine lv_tableIn (off := 93) (tgt := 94) hx hb d_SI_count_1 (by decide) (by decide) rfl (by decide) ?_
  refine lv_aload_n hx hb d_SI_count_94 rfl (lv_at hl 0 rfl) ?_
  refine xg hx hb hown htw hK hP 0 1 rfl k_SI (by decide) fl_SI_19 rfl d_SI_count_95 ?_
  refine xcV_i (As := []) (rest := []) (wr := ([(x0, .inr (6, [.ref s0, .ref l0, .ref p0, .ref k0, .int (nI bf)]))] : va_W)) hx hb hml hown htw hK hA hl.1 hP hD hS (c_AL_size l D K l0 mc el n ) [1] [0] rfl rfl (by decide) (by decide) (by decide) 0 rfl k_AL ml_SI_115 w_AL_size rfl ⟨by decide, by decide⟩ rfl (Nat.le_of_ble_eq_true rfl) ⟨by decide, by decide⟩ d_SI_count_98 (fun r u H locs hpost hP hD hS => ?_)
  obtain ⟨rfl, rfl⟩ := hpost
  have hP : va_P D classes ([(x0, .inr (6, [.ref s0, .ref l0, .ref p0, .ref k0, .int (nI bf)])), (l0, .inr (7, [.int mc, .ref el, .int (nI n)]))] : va_W) H := hP
  have hD : va_D A ([(x0, .inr (6, [.ref s0, .ref l0, .ref p0, .ref k0, .int (nI bf)])), (l0, .inr (7, [.int mc, .ref el, .int (nI n)]))] : va_W) := hD
  exact xr_iret hx hb hr hlocks hP hD hS (Nat.le_of_ble_eq_true rfl) (Nat.le_of_ble_eq_true rfl) (⟨rfl, rfl⟩) d_SI_count_101

abbrev q_SI_count_5 (K : Nat → ClassId) (x0 : Nat) (s0 : Nat) (l0 : Nat) (p0 : Nat) (k0 : Nat) (bf : Nat) (p1 : Nat) (ht : Nat) : Int32 → va_W → Prop := fun r u => u = ([(x0, .inr (6, [.ref s0, .ref l0, .ref p0, .ref k0, .int (nI bf)])), (p0, .inr (2, [.ref p1, .int (nI ht)]))] : va_W) ∧ r = nI ht
set_option maxHeartbeats 4000000 in
set_option maxRecDepth 100000 in
theorem c_SI_count_5 (l : Launch) (D : va_G) (K : Nat → ClassId) (x0 : Nat) (s0 : Nat) (l0 : Nat) (p0 : Nat) (k0 : Nat) (bf : Nat) (p1 : Nat) (ht : Nat)  : CI l y_SI_count b_SI_count 2 .int ({ frames := 4, cells := 0, slots := 0, locals := 120 } : Room) D K [.ref x0, .int (nI 5)] ([(x0, .inr (6, [.ref s0, .ref l0, .ref p0, .ref k0, .int (nI bf)])), (p0, .inr (2, [.ref p1, .int (nI ht)]))] : va_W) (q_SI_count_5 K x0 s0 l0 p0 k0 bf p1 ht) := by
  refine CI_of (by decide) (Nat.le_of_ble_eq_true rfl) ?_
  intro p e s m below meth c A b0 ls hF hA hP hD hl
  have hF2 := hF
  obtain ⟨hx, hb, hr, hml, hown, htw, hK, hlocks, hname⟩ := hF
  have hS : va_S A s.heap s.heap [] := va_S.rf
  have hl : lv_has ls 2 [(0, .ref x0), (1, .int (nI 5))] := hl
  refine lv_iload_n hx hb d_SI_count_0 rfl (lv_at hl 1 rfl) ?_
  refine lv_tableIn (off := 101) (tgt := 102) hx hb d_SI_count_1 (by decide) (by decide) rfl (by decide) ?_
  refine lv_aload_n hx hb d_SI_count_102 rfl (lv_at hl 0 rfl) ?_
  refine xg hx hb hown htw hK hP 0 2 rfl k_SI (by decide) fl_SI_26 rfl d_SI_count_103 ?_
  refine xg hx hb hown htw hK hP 1 1 rfl k_Pl (by decide) fl_SI_129 rfl d_SI_count_106 ?_
  exact xr_iret hx hb hr hlocks hP hD hS (Nat.le_of_ble_eq_true rfl) (Nat.le_of_ble_eq_true rfl) (⟨rfl, rfl⟩) d_SI_count_109

abbrev q_SI_count_6n (K : Nat → ClassId) (x0 : Nat) (s0 : Nat) (l0 : Nat) (p0 : Nat) (k0 : Nat) (bf : Nat) (p1 : Nat) (pf : Nat → Option Nat) (a_s : Nat) (b_s : Nat) (z_s : Nat) : Int32 → va_W → Prop := fun r u => u = ([(x0, .inr (6, [.ref s0, .ref l0, .ref p0, .ref k0, .int (nI bf)])), (p0, .inr (2, [.ref p1, .int (nI 0)])), (p1, .inl (K 3, 9, .inr (.inr (.inr (.inr pf))))), (a_s, .inr (0, [.ref b_s, .int (nI 0)]))] : va_W) ∧ r = nI 0
set_option maxHeartbeats 4000000 in
set_option maxRecDepth 100000 in
theorem c_SI_count_6n (l : Launch) (D : va_G) (K : Nat → ClassId) (x0 : Nat) (s0 : Nat) (l0 : Nat) (p0 : Nat) (k0 : Nat) (bf : Nat) (p1 : Nat) (pf : Nat → Option Nat) (a_s : Nat) (b_s : Nat) (z_s : Nat) (hf : pf 0 = some a_s) : CI l y_SI_count b_SI_count 2 .int ({ frames := 4, cells := 0, slots := 0, locals := 120 } : Room) D K [.ref x0, .int (nI 6)] ([(x0, .inr (6, [.ref s0, .ref l0, .ref p0, .ref k0, .int (nI bf)])), (p0, .inr (2, [.ref p1, .int (nI 0)])), (p1, .inl (K 3, 9, .inr (.inr (.inr (.inr pf))))), (a_s, .inr (0, [.ref b_s, .int (nI z_s)]))] : va_W) (q_SI_count_6n K x0 s0 l0 p0 k0 bf p1 pf a_s b_s z_s) := by
  refine CI_of (by decide) (Nat.le_of_ble_eq_true rfl) ?_
  intro p e s m below meth c A b0 ls hF hA hP hD hl
  have hF2 := hF
  obtain ⟨hx, hb, hr, hml, hown, htw, hK, hlocks, hname⟩ := hF
  have hS : va_S A s.heap s.heap [] := va_S.rf
  have hl : lv_has ls 2 [(0, .ref x0), (1, .int (nI 6))] := hl
  refine lv_iload_n hx hb d_SI_count_0 rfl (lv_at hl 1 rfl) ?_
  refine lv_tableIn (off := 109) (tgt := 110) hx hb d_SI_count_1 (by decide) (by decide) rfl (by decide) ?_
  refine lv_aload_n hx hb d_SI_count_110 rfl (lv_at hl 0 rfl) ?_
  refine xg hx hb hown htw hK hP 0 2 rfl k_SI (by decide) fl_SI_26 rfl d_SI_count_111 ?_
  refine xcV_r (As := []) (rest := []) (wr := ([(x0, .inr (6, [.ref s0, .ref l0, .ref p0, .ref k0, .int (nI bf)]))] : va_W)) hx hb hml hown htw hK hA hl.1 hP hD hS (c_Pl_uppermost_0 l D K p0 p1 pf a_s b_s z_s (by first | assumption | omega)) [1, 2, 3] [0] rfl rfl (by decide) (by decide) (by decide) 0 rfl k_Pl ml_SI_151 w_Pl_uppermost rfl ⟨by decide, by decide⟩ rfl (Nat.le_of_ble_eq_true rfl) ⟨by decide, by decide⟩ d_SI_count_114 (fun r_114 u H locs hpost hP hD hS => ?_)
  obtain ⟨rfl, hr_114⟩ := hpost
  replace hr_114 := hr_114.symm
  subst hr_114
  have hP : va_P D classes ([(x0, .inr (6, [.ref s0, .ref l0, .ref p0, .ref k0, .int (nI bf)])), (p0, .inr (2, [.ref p1, .int (nI 0)])), (p1, .inl (K 3, 9, .inr (.inr (.inr (.inr pf))))), (a_s, .inr (0, [.ref b_s, .int (nI 0)]))] : va_W) H := hP
  have hD : va_D A ([(x0, .inr (6, [.ref s0, .ref l0, .ref p0, .ref k0, .int (nI bf)])), (p0, .inr (2, [.ref p1, .int (nI 0)])), (p1, .inl (K 3, 9, .inr (.inr (.inr (.inr pf))))), (a_s, .inr (0, [.ref b_s, .int (nI 0)]))] : va_W) := hD
  refine xg hx hb hown htw hK hP 3 1 rfl k_HS (by decide) fl_SI_172 rfl d_SI_count_117 ?_
  exact xr_iret hx hb hr hlocks hP hD hS (Nat.le_of_ble_eq_true rfl) (Nat.le_of_ble_eq_true rfl) (⟨rfl, rfl⟩) d_SI_count_120

abbrev q_SI_count_6y (K : Nat → ClassId) (x0 : Nat) (s0 : Nat) (l0 : Nat) (p0 : Nat) (k0 : Nat) (bf : Nat) (p1 : Nat) (ht : Nat) (pf : Nat → Option Nat) (a_s : Nat) (b_s : Nat) (z_s : Nat) : Int32 → va_W → Prop := fun r u => u = ([(x0, .inr (6, [.ref s0, .ref l0, .ref p0, .ref k0, .int (nI bf)])), (p0, .inr (2, [.ref p1, .int (nI ht)])), (p1, .inl (K 3, 9, .inr (.inr (.inr (.inr pf))))), (a_s, .inr (0, [.ref b_s, .int (nI z_s)]))] : va_W) ∧ r = nI z_s
set_option maxHeartbeats 4000000 in
set_option maxRecDepth 100000 in
theorem c_SI_count_6y (l : Launch) (D : va_G) (K : Nat → ClassId) (x0 : Nat) (s0 : Nat) (l0 : Nat) (p0 : Nat) (k0 : Nat) (bf : Nat) (p1 : Nat) (ht : Nat) (pf : Nat → Option Nat) (a_s : Nat) (b_s : Nat) (z_s : Nat) (h0 : 0 < ht) (hht : ht < 9) (hf : pf (ht - 1) = some a_s) : CI l y_SI_count b_SI_count 2 .int ({ frames := 4, cells := 0, slots := 0, locals := 120 } : Room) D K [.ref x0, .int (nI 6)] ([(x0, .inr (6, [.ref s0, .ref l0, .ref p0, .ref k0, .int (nI bf)])), (p0, .inr (2, [.ref p1, .int (nI ht)])), (p1, .inl (K 3, 9, .inr (.inr (.inr (.inr pf))))), (a_s, .inr (0, [.ref b_s, .int (nI z_s)]))] : va_W) (q_SI_count_6y K x0 s0 l0 p0 k0 bf p1 ht pf a_s b_s z_s) := by
  refine CI_of (by decide) (Nat.le_of_ble_eq_true rfl) ?_
  intro p e s m below meth c A b0 ls hF hA hP hD hl
  have hF2 := hF
  obtain ⟨hx, hb, hr, hml, hown, htw, hK, hlocks, hname⟩ := hF
  have hS : va_S A s.heap s.heap [] := va_S.rf
  have hl : lv_has ls 2 [(0, .ref x0), (1, .int (nI 6))] := hl
  refine lv_iload_n hx hb d_SI_count_0 rfl (lv_at hl 1 rfl) ?_
  refine lv_tableIn (off := 109) (tgt := 110) hx hb d_SI_count_1 (by decide) (by decide) rfl (by decide) ?_
  refine lv_aload_n hx hb d_SI_count_110 rfl (lv_at hl 0 rfl) ?_
  refine xg hx hb hown htw hK hP 0 2 rfl k_SI (by decide) fl_SI_26 rfl d_SI_count_111 ?_
  refine xcV_r (As := []) (rest := []) (wr := ([(x0, .inr (6, [.ref s0, .ref l0, .ref p0, .ref k0, .int (nI bf)])), (a_s, .inr (0, [.ref b_s, .int (nI z_s)]))] : va_W)) hx hb hml hown htw hK hA hl.1 hP hD hS (c_Pl_uppermost_1 l D K p0 p1 ht pf a_s (by first | assumption | omega) (by first | assumption | omega) (by first | assumption | omega)) [1, 2] [0, 3] rfl rfl (by decide) (by decide) (by decide) 0 rfl k_Pl ml_SI_151 w_Pl_uppermost rfl ⟨by decide, by decide⟩ rfl (Nat.le_of_ble_eq_true rfl) ⟨by decide, by decide⟩ d_SI_count_114 (fun r_114 u H locs hpost hP hD hS => ?_)
  obtain ⟨rfl, hr_114⟩ := hpost
  replace hr_114 := hr_114.symm
  subst hr_114
  have hP : va_P D classes ([(x0, .inr (6, [.ref s0, .ref l0, .ref p0, .ref k0, .int (nI bf)])), (a_s, .inr (0, [.ref b_s, .int (nI z_s)])), (p0, .inr (2, [.ref p1, .int (nI ht)])), (p1, .inl (K 3, 9, .inr (.inr (.inr (.inr pf)))))] : va_W) H := hP
  have hD : va_D A ([(x0, .inr (6, [.ref s0, .ref l0, .ref p0, .ref k0, .int (nI bf)])), (a_s, .inr (0, [.ref b_s, .int (nI z_s)])), (p0, .inr (2, [.ref p1, .int (nI ht)])), (p1, .inl (K 3, 9, .inr (.inr (.inr (.inr pf)))))] : va_W) := hD
  refine xg hx hb hown htw hK hP 1 1 rfl k_HS (by decide) fl_SI_172 rfl d_SI_count_117 ?_
  obtain ⟨hP, hD⟩ := xp (ws' := [(x0, .inr (6, [.ref s0, .ref l0, .ref p0, .ref k0, .int (nI bf)])), (p0, .inr (2, [.ref p1, .int (nI ht)])), (p1, .inl (K 3, 9, .inr (.inr (.inr (.inr pf))))), (a_s, .inr (0, [.ref b_s, .int (nI z_s)]))]) hP hD [0, 2, 3, 1] (by decide) rfl
  exact xr_iret hx hb hr hlocks hP hD hS (Nat.le_of_ble_eq_true rfl) (Nat.le_of_ble_eq_true rfl) (⟨rfl, rfl⟩) d_SI_count_120

abbrev q_SI_count_7 (K : Nat → ClassId) (x0 : Nat) (s0 : Nat) (l0 : Nat) (p0 : Nat) (k0 : Nat) (bf : Nat) (t0 : Nat) (a1 : Nat) (a2 : Nat) (a3 : Nat) (cm : Nat) (is : Nat → Nat) : Int32 → va_W → Prop := fun r u => u = ([(x0, .inr (6, [.ref s0, .ref l0, .ref p0, .ref k0, .int (nI bf)])), (s0, .inr (4, [.ref t0, .ref a1, .ref a2, .ref a3, .int (nI cm)])), (a3, .inl (K 0, 4, .inl (nA is)))] : va_W) ∧ r = nI (is 2)
set_option maxHeartbeats 4000000 in
set_option maxRecDepth 100000 in
theorem c_SI_count_7 (l : Launch) (D : va_G) (K : Nat → ClassId) (x0 : Nat) (s0 : Nat) (l0 : Nat) (p0 : Nat) (k0 : Nat) (bf : Nat) (t0 : Nat) (a1 : Nat) (a2 : Nat) (a3 : Nat) (cm : Nat) (is : Nat → Nat)  : CI l y_SI_count b_SI_count 2 .int ({ frames := 4, cells := 0, slots := 0, locals := 120 } : Room) D K [.ref x0, .int (nI 7)] ([(x0, .inr (6, [.ref s0, .ref l0, .ref p0, .ref k0, .int (nI bf)])), (s0, .inr (4, [.ref t0, .ref a1, .ref a2, .ref a3, .int (nI cm)])), (a3, .inl (K 0, 4, .inl (nA is)))] : va_W) (q_SI_count_7 K x0 s0 l0 p0 k0 bf t0 a1 a2 a3 cm is) := by
  refine CI_of (by decide) (Nat.le_of_ble_eq_true rfl) ?_
  intro p e s m below meth c A b0 ls hF hA hP hD hl
  have hF2 := hF
  obtain ⟨hx, hb, hr, hml, hown, htw, hK, hlocks, hname⟩ := hF
  have hS : va_S A s.heap s.heap [] := va_S.rf
  have hl : lv_has ls 2 [(0, .ref x0), (1, .int (nI 7))] := hl
  refine lv_iload_n hx hb d_SI_count_0 rfl (lv_at hl 1 rfl) ?_
  refine lv_tableIn (off := 120) (tgt := 121) hx hb d_SI_count_1 (by decide) (by decide) rfl (by decide) ?_
  refine lv_aload_n hx hb d_SI_count_121 rfl (lv_at hl 0 rfl) ?_
  refine xg hx hb hown htw hK hP 0 0 rfl k_SI (by decide) fl_SI_10 rfl d_SI_count_122 ?_
  refine xg hx hb hown htw hK hP 1 3 rfl k_Sh (by decide) fl_SI_91 rfl d_SI_count_125 ?_
  refine lv_iconst (v := nI 2) hx hb d_SI_count_128 (by decide) ?_
  refine xald_i hx hb hK hP 2 rfl (by omega) (by omega) d_SI_count_129 ?_
  refine xi (y := nI (is 2)) rfl ?_
  exact xr_iret hx hb hr hlocks hP hD hS (Nat.le_of_ble_eq_true rfl) (Nat.le_of_ble_eq_true rfl) (⟨rfl, rfl⟩) d_SI_count_130

abbrev q_SI_count_other (K : Nat → ClassId) (x0 : Nat) (s0 : Nat) (l0 : Nat) (p0 : Nat) (k0 : Nat) (bf : Nat) (x : Int32) : Int32 → va_W → Prop := fun r u => u = ([(x0, .inr (6, [.ref s0, .ref l0, .ref p0, .ref k0, .int (nI bf)]))] : va_W) ∧ r = zI (-1)
set_option maxHeartbeats 4000000 in
set_option maxRecDepth 100000 in
theorem c_SI_count_other (l : Launch) (D : va_G) (K : Nat → ClassId) (x0 : Nat) (s0 : Nat) (l0 : Nat) (p0 : Nat) (k0 : Nat) (bf : Nat) (x : Int32) (hx9 : ¬ x = nI 0 ∧ ¬ x = nI 1 ∧ ¬ x = nI 2 ∧ ¬ x = nI 3 ∧ ¬ x = nI 4 ∧ ¬ x = nI 5 ∧ ¬ x = nI 6 ∧ ¬ x = nI 7) : CI l y_SI_count b_SI_count 2 .int ({ frames := 4, cells := 0, slots := 0, locals := 120 } : Room) D K [.ref x0, .int x] ([(x0, .inr (6, [.ref s0, .ref l0, .ref p0, .ref k0, .int (nI bf)]))] : va_W) (q_SI_count_other K x0 s0 l0 p0 k0 bf x) := by
  refine CI_of (by decide) (Nat.le_of_ble_eq_true rfl) ?_
  intro p e s m below meth c A b0 ls hF hA hP hD hl
  have hF2 := hF
  obtain ⟨hx, hb, hr, hml, hown, htw, hK, hlocks, hname⟩ := hF
  have hS : va_S A s.heap s.heap [] := va_S.rf
  have hl : lv_has ls 2 [(0, .ref x0), (1, .int x)] := hl
  refine lv_iload_n hx hb d_SI_count_0 rfl (lv_at hl 1 rfl) ?_
  refine lv_tableOut (tgt := 131) hx hb d_SI_count_1 (by exact tb_out7 hx9) (by decide) ?_
  refine lv_iconst (v := zI (-1)) hx hb d_SI_count_131 (by decide) ?_
  exact xr_iret hx hb hr hlocks hP hD hS (Nat.le_of_ble_eq_true rfl) (Nat.le_of_ble_eq_true rfl) (⟨rfl, rfl⟩) d_SI_count_132

abbrev q_SI_token_dup (K : Nat → ClassId) (x0 : Nat) (s0 : Nat) (l0 : Nat) (p0 : Nat) (k0 : Nat) (bf : Nat) (t0 : Nat) (a1 : Nat) (a2 : Nat) (a3 : Nat) (cm : Nat) (b1 : Nat) (b2 : Nat) (T : Nat) (st : Nat → Nat) (ch : Nat → Nat) (ct : Nat → Int64) (fi : Nat) (pl_ : Nat) (a : Int32) (b : Int32) : Int32 → va_W → Prop := fun r u => u = ([(x0, .inr (6, [.ref s0, .ref l0, .ref p0, .ref k0, .int (nI bf)])), (s0, .inr (4, [.ref t0, .ref a1, .ref a2, .ref a3, .int (nI cm)])), (t0, .inr (5, [.ref b1, .ref b2, .int (nI T)])), (a2, .inl (K 0, 601, .inl (nA st))), (b1, .inl (K 0, 512, .inl (nA ch))), (b2, .inl (K 1, 512, .inr (.inl ct)))] : va_W) ∧ r = nI (T - st cm)
set_option maxHeartbeats 4000000 in
set_option maxRecDepth 100000 in
theorem c_SI_token_dup (l : Launch) (D : va_G) (K : Nat → ClassId) (x0 : Nat) (s0 : Nat) (l0 : Nat) (p0 : Nat) (k0 : Nat) (bf : Nat) (t0 : Nat) (a1 : Nat) (a2 : Nat) (a3 : Nat) (cm : Nat) (b1 : Nat) (b2 : Nat) (T : Nat) (st : Nat → Nat) (ch : Nat → Nat) (ct : Nat → Int64) (fi : Nat) (pl_ : Nat) (a : Int32) (b : Int32) (hfi : fi ≤ 3) (hpl : pl_ ≤ 4095) (hcm : cm ≤ 600) (hT : T < 512) (hst : st cm ≤ T) (hch : ∀ k, k < T → ch k < 2 ^ 24) (hso : ∀ i j, st cm ≤ i → i < j → j < T → ch i < ch j ∨ (ch i = ch j ∧ ct i < ct j)) (hdup : ∃ i, st cm ≤ i ∧ i < T ∧ ch i = (cm * 2 ^ 2 + fi) * 2 ^ 12 + pl_ ∧ ct i = tmL a b) : CI l y_SI_token b_SI_token 9 .int ({ frames := 4, cells := 0, slots := 0, locals := 160 } : Room) D K [.ref x0, .int (nI fi), .int (nI pl_), .int a, .int b] ([(x0, .inr (6, [.ref s0, .ref l0, .ref p0, .ref k0, .int (nI bf)])), (s0, .inr (4, [.ref t0, .ref a1, .ref a2, .ref a3, .int (nI cm)])), (t0, .inr (5, [.ref b1, .ref b2, .int (nI T)])), (a2, .inl (K 0, 601, .inl (nA st))), (b1, .inl (K 0, 512, .inl (nA ch))), (b2, .inl (K 1, 512, .inr (.inl ct)))] : va_W) (q_SI_token_dup K x0 s0 l0 p0 k0 bf t0 a1 a2 a3 cm b1 b2 T st ch ct fi pl_ a b) := by
  refine CI_of (by decide) (Nat.le_of_ble_eq_true rfl) ?_
  intro p e s m below meth c A b0 ls hF hA hP hD hl
  have hF2 := hF
  obtain ⟨hx, hb, hr, hml, hown, htw, hK, hlocks, hname⟩ := hF
  have hS : va_S A s.heap s.heap [] := va_S.rf
  have hl : lv_has ls 9 [(0, .ref x0), (1, .int (nI fi)), (2, .int (nI pl_)), (3, .int a), (4, .int b)] := hl
  refine lv_iload_n hx hb d_SI_token_0 rfl (lv_at hl 1 rfl) ?_
  refine xz_lt (a := fi) hx hb (by omega) d_SI_token_1 20 (by decide) ?_
  refine lv_iload_n hx hb d_SI_token_4 rfl (lv_at hl 1 rfl) ?_
  refine lv_iconst (v := nI 4) hx hb d_SI_token_5 (by decide) ?_
  refine xc_ge (tgt := 20) (a := fi) (b := 4) hx hb (by omega) (by omega) d_SI_token_6 (by decide) (fun c_6 => ?_) (fun c_6 => ?_)
  · omega
  · refine lv_iload_n hx hb d_SI_token_9 rfl (lv_at hl 2 rfl) ?_
    refine xz_lt (a := pl_) hx hb (by omega) d_SI_token_10 20 (by decide) ?_
    refine lv_iload_n hx hb d_SI_token_13 rfl (lv_at hl 2 rfl) ?_
    refine lv_sipush (v := nI 4096) hx hb d_SI_token_14 (by decide) ?_
    refine xc_lt (tgt := 30) (a := pl_) (b := 4096) hx hb (by omega) (by omega) d_SI_token_17 (by decide) (fun c_17 => ?_) (fun c_17 => ?_)
    · refine lv_aload_n hx hb d_SI_token_30 rfl (lv_at hl 0 rfl) ?_
      refine xg hx hb hown htw hK hP 0 0 rfl k_SI (by decide) fl_SI_10 rfl d_SI_token_31 ?_
      refine xg hx hb hown htw hK hP 1 4 rfl k_Sh (by decide) fl_SI_48 rfl d_SI_token_34 ?_
      refine lv_iload_n hx hb d_SI_token_37 rfl (lv_at hl 1 rfl) ?_
      refine lv_iload_n hx hb d_SI_token_38 rfl (lv_at hl 2 rfl) ?_
      refine xcS_i (As := [.int (nI cm), .int (nI fi), .int (nI pl_)]) (rest := []) (wr := ([(x0, .inr (6, [.ref s0, .ref l0, .ref p0, .ref k0, .int (nI bf)])), (s0, .inr (4, [.ref t0, .ref a1, .ref a2, .ref a3, .int (nI cm)])), (t0, .inr (5, [.ref b1, .ref b2, .int (nI T)])), (a2, .inl (K 0, 601, .inl (nA st))), (b1, .inl (K 0, 512, .inl (nA ch))), (b2, .inl (K 1, 512, .inr (.inl ct)))] : va_W)) hx hb hml hown htw hK hA hl.1 hP hD hS (c_SI_hitOf l D K cm fi pl_ (by first | assumption | omega) (by first | assumption | omega) (by first | assumption | omega)) [] [0, 1, 2, 3, 4, 5] rfl rfl (by decide) (by decide) (by decide) ml_SI_51 w_SI_hitOf rfl ⟨by decide, by decide⟩ rfl (Nat.le_of_ble_eq_true rfl) ⟨by decide, by decide⟩ d_SI_token_39 (fun r u H locs hpost hP hD hS => ?_)
      obtain ⟨rfl, rfl⟩ := hpost
      have hP : va_P D classes ([(x0, .inr (6, [.ref s0, .ref l0, .ref p0, .ref k0, .int (nI bf)])), (s0, .inr (4, [.ref t0, .ref a1, .ref a2, .ref a3, .int (nI cm)])), (t0, .inr (5, [.ref b1, .ref b2, .int (nI T)])), (a2, .inl (K 0, 601, .inl (nA st))), (b1, .inl (K 0, 512, .inl (nA ch))), (b2, .inl (K 1, 512, .inr (.inl ct)))] : va_W) H := hP
      have hD : va_D A ([(x0, .inr (6, [.ref s0, .ref l0, .ref p0, .ref k0, .int (nI bf)])), (s0, .inr (4, [.ref t0, .ref a1, .ref a2, .ref a3, .int (nI cm)])), (t0, .inr (5, [.ref b1, .ref b2, .int (nI T)])), (a2, .inl (K 0, 601, .inl (nA st))), (b1, .inl (K 0, 512, .inl (nA ch))), (b2, .inl (K 1, 512, .inr (.inl ct)))] : va_W) := hD
      refine lv_istore (lv' := [(5, .int (nI ((cm * 2 ^ 2 + fi) * 2 ^ 12 + pl_))), (0, .ref x0), (1, .int (nI fi)), (2, .int (nI pl_)), (3, .int a), (4, .int b)]) hx hb d_SI_token_42 hl (by decide) rfl (fun ls hl => ?_)
      refine lv_iload_n hx hb d_SI_token_44 rfl (lv_at hl 4 rfl) ?_
      refine lv_iload hx hb d_SI_token_45 (lv_at hl 5 rfl) ?_
      refine xcS_l (As := [.int a, .int b]) (rest := []) (wr := ([(x0, .inr (6, [.ref s0, .ref l0, .ref p0, .ref k0, .int (nI bf)])), (s0, .inr (4, [.ref t0, .ref a1, .ref a2, .ref a3, .int (nI cm)])), (t0, .inr (5, [.ref b1, .ref b2, .int (nI T)])), (a2, .inl (K 0, 601, .inl (nA st))), (b1, .inl (K 0, 512, .inl (nA ch))), (b2, .inl (K 1, 512, .inr (.inl ct)))] : va_W)) hx hb hml hown htw hK hA hl.1 hP hD hS (c_SI_termOf l D K a b ) [] [0, 1, 2, 3, 4, 5] rfl rfl (by decide) (by decide) (by decide) ml_SI_55 w_SI_termOf rfl ⟨by decide, by decide⟩ rfl (Nat.le_of_ble_eq_true rfl) ⟨by decide, by decide⟩ d_SI_token_47 (fun r u H locs hpost hP hD hS => ?_)
      obtain ⟨rfl, rfl⟩ := hpost
      have hP : va_P D classes ([(x0, .inr (6, [.ref s0, .ref l0, .ref p0, .ref k0, .int (nI bf)])), (s0, .inr (4, [.ref t0, .ref a1, .ref a2, .ref a3, .int (nI cm)])), (t0, .inr (5, [.ref b1, .ref b2, .int (nI T)])), (a2, .inl (K 0, 601, .inl (nA st))), (b1, .inl (K 0, 512, .inl (nA ch))), (b2, .inl (K 1, 512, .inr (.inl ct)))] : va_W) H := hP
      have hD : va_D A ([(x0, .inr (6, [.ref s0, .ref l0, .ref p0, .ref k0, .int (nI bf)])), (s0, .inr (4, [.ref t0, .ref a1, .ref a2, .ref a3, .int (nI cm)])), (t0, .inr (5, [.ref b1, .ref b2, .int (nI T)])), (a2, .inl (K 0, 601, .inl (nA st))), (b1, .inl (K 0, 512, .inl (nA ch))), (b2, .inl (K 1, 512, .inr (.inl ct)))] : va_W) := hD
      refine lv_lstore (lv' := [(6, .long (tmL a b)), (5, .int (nI ((cm * 2 ^ 2 + fi) * 2 ^ 12 + pl_))), (0, .ref x0), (1, .int (nI fi)), (2, .int (nI pl_)), (3, .int a), (4, .int b)]) hx hb d_SI_token_50 hl (by decide) rfl (fun ls hl => ?_)
      refine lv_aload_n hx hb d_SI_token_52 rfl (lv_at hl 2 rfl) ?_
      refine xg hx hb hown htw hK hP 0 0 rfl k_SI (by decide) fl_SI_10 rfl d_SI_token_53 ?_
      refine lv_iload hx hb d_SI_token_56 (lv_at hl 1 rfl) ?_
      refine lv_lload hx hb d_SI_token_58 (lv_at hl 0 rfl) ?_
      refine xcV_i (As := [.int (nI ((cm * 2 ^ 2 + fi) * 2 ^ 12 + pl_)), .long (tmL a b)]) (rest := []) (wr := ([(x0, .inr (6, [.ref s0, .ref l0, .ref p0, .ref k0, .int (nI bf)]))] : va_W)) hx hb hml hown htw hK hA hl.1 hP hD hS (c_Sh_spotInHand l D K s0 t0 a1 a2 a3 cm b1 b2 T st ch ct ((cm * 2 ^ 2 + fi) * 2 ^ 12 + pl_) (tmL a b) (by first | assumption | omega) (by first | assumption | omega) (by first | assumption | omega) (by first | assumption | omega) (by first | assumption | omega)) [1, 2, 3, 4, 5] [0] rfl rfl (by decide) (by decide) (by decide) 0 rfl k_Sh ml_SI_59 w_Sh_spotInHand rfl ⟨by decide, by decide⟩ rfl (Nat.le_of_ble_eq_true rfl) ⟨by decide, by decide⟩ d_SI_token_60 (fun r u H locs hpost hP hD hS => ?_)
      obtain ⟨pp_60, rfl, rfl, hp1_60, hp2_60, hp3_60, hp4_60⟩ := hpost
      have hP : va_P D classes ([(x0, .inr (6, [.ref s0, .ref l0, .ref p0, .ref k0, .int (nI bf)])), (s0, .inr (4, [.ref t0, .ref a1, .ref a2, .ref a3, .int (nI cm)])), (t0, .inr (5, [.ref b1, .ref b2, .int (nI T)])), (a2, .inl (K 0, 601, .inl (nA st))), (b1, .inl (K 0, 512, .inl (nA ch))), (b2, .inl (K 1, 512, .inr (.inl ct)))] : va_W) H := hP
      have hD : va_D A ([(x0, .inr (6, [.ref s0, .ref l0, .ref p0, .ref k0, .int (nI bf)])), (s0, .inr (4, [.ref t0, .ref a1, .ref a2, .ref a3, .int (nI cm)])), (t0, .inr (5, [.ref b1, .ref b2, .int (nI T)])), (a2, .inl (K 0, 601, .inl (nA st))), (b1, .inl (K 0, 512, .inl (nA ch))), (b2, .inl (K 1, 512, .inr (.inl ct)))] : va_W) := hD
      refine lv_istore (lv' := [(8, .int (nI pp_60)), (6, .long (tmL a b)), (5, .int (nI ((cm * 2 ^ 2 + fi) * 2 ^ 12 + pl_))), (0, .ref x0), (1, .int (nI fi)), (2, .int (nI pl_)), (3, .int a), (4, .int b)]) hx hb d_SI_token_63 hl (by decide) rfl (fun ls hl => ?_)
      refine lv_aload_n hx hb d_SI_token_65 rfl (lv_at hl 3 rfl) ?_
      refine xg hx hb hown htw hK hP 0 0 rfl k_SI (by decide) fl_SI_10 rfl d_SI_token_66 ?_
      refine lv_iload hx hb d_SI_token_69 (lv_at hl 0 rfl) ?_
      refine lv_iload hx hb d_SI_token_71 (lv_at hl 2 rfl) ?_
      refine lv_lload hx hb d_SI_token_73 (lv_at hl 1 rfl) ?_
      refine xcV_i (As := [.int (nI pp_60), .int (nI ((cm * 2 ^ 2 + fi) * 2 ^ 12 + pl_)), .long (tmL a b)]) (rest := []) (wr := ([(x0, .inr (6, [.ref s0, .ref l0, .ref p0, .ref k0, .int (nI bf)]))] : va_W)) hx hb hml hown htw hK hA hl.1 hP hD hS (c_Sh_handHasBefore l D K s0 t0 a1 a2 a3 cm b1 b2 T st ch ct pp_60 ((cm * 2 ^ 2 + fi) * 2 ^ 12 + pl_) (tmL a b) (by first | assumption | omega) (by first | assumption | omega) (by first | assumption | omega) (by first | assumption | omega) (by first | assumption | omega) (by first | assumption | omega)) [1, 2, 3, 4, 5] [0] rfl rfl (by decide) (by decide) (by decide) 0 rfl k_Sh ml_SI_63 w_Sh_handHasBefore rfl ⟨by decide, by decide⟩ rfl (Nat.le_of_ble_eq_true rfl) ⟨by decide, by decide⟩ d_SI_token_75 (fun r u H locs hpost hP hD hS => ?_)
      obtain ⟨rfl, rfl⟩ := hpost
      have hP : va_P D classes ([(x0, .inr (6, [.ref s0, .ref l0, .ref p0, .ref k0, .int (nI bf)])), (s0, .inr (4, [.ref t0, .ref a1, .ref a2, .ref a3, .int (nI cm)])), (t0, .inr (5, [.ref b1, .ref b2, .int (nI T)])), (a2, .inl (K 0, 601, .inl (nA st))), (b1, .inl (K 0, 512, .inl (nA ch))), (b2, .inl (K 1, 512, .inr (.inl ct)))] : va_W) H := hP
      have hD : va_D A ([(x0, .inr (6, [.ref s0, .ref l0, .ref p0, .ref k0, .int (nI bf)])), (s0, .inr (4, [.ref t0, .ref a1, .ref a2, .ref a3, .int (nI cm)])), (t0, .inr (5, [.ref b1, .ref b2, .int (nI T)])), (a2, .inl (K 0, 601, .inl (nA st))), (b1, .inl (K 0, 512, .inl (nA ch))), (b2, .inl (K 1, 512, .inr (.inl ct)))] : va_W) := hD
      refine xz_ne (tgt := 119) (a := bN (st cm < pp_60 ∧ ch (pp_60 - 1) = ((cm * 2 ^ 2 + fi) * 2 ^ 12 + pl_) ∧ ct (pp_60 - 1) = (tmL a b))) hx hb (by exact bN_31 _) d_SI_token_78 (by decide) (fun c_78 => ?_) (fun c_78 => ?_)
      · refine lv_aload_n hx hb d_SI_token_119 rfl (lv_at hl 3 rfl) ?_
        refine xg hx hb hown htw hK hP 0 0 rfl k_SI (by decide) fl_SI_10 rfl d_SI_token_120 ?_
        refine xcV_i (As := []) (rest := []) (wr := ([(x0, .inr (6, [.ref s0, .ref l0, .ref p0, .ref k0, .int (nI bf)])), (b1, .inl (K 0, 512, .inl (nA ch))), (b2, .inl (K 1, 512, .inr (.inl ct)))] : va_W)) hx hb hml hown htw hK hA hl.1 hP hD hS (c_Sh_inHand l D K s0 t0 a1 a2 a3 cm b1 b2 T st (by first | assumption | omega) (by first | assumption | omega)) [1, 2, 3] [0, 4, 5] rfl rfl (by decide) (by decide) (by decide) 0 rfl k_Sh ml_SI_67 w_Sh_inHand rfl ⟨by decide, by decide⟩ rfl (Nat.le_of_ble_eq_true rfl) ⟨by decide, by decide⟩ d_SI_token_123 (fun r u H locs hpost hP hD hS => ?_)
        obtain ⟨rfl, rfl⟩ := hpost
        have hP : va_P D classes ([(x0, .inr (6, [.ref s0, .ref l0, .ref p0, .ref k0, .int (nI bf)])), (b1, .inl (K 0, 512, .inl (nA ch))), (b2, .inl (K 1, 512, .inr (.inl ct))), (s0, .inr (4, [.ref t0, .ref a1, .ref a2, .ref a3, .int (nI cm)])), (t0, .inr (5, [.ref b1, .ref b2, .int (nI T)])), (a2, .inl (K 0, 601, .inl (nA st)))] : va_W) H := hP
        have hD : va_D A ([(x0, .inr (6, [.ref s0, .ref l0, .ref p0, .ref k0, .int (nI bf)])), (b1, .inl (K 0, 512, .inl (nA ch))), (b2, .inl (K 1, 512, .inr (.inl ct))), (s0, .inr (4, [.ref t0, .ref a1, .ref a2, .ref a3, .int (nI cm)])), (t0, .inr (5, [.ref b1, .ref b2, .int (nI T)])), (a2, .inl (K 0, 601, .inl (nA st)))] : va_W) := hD
        obtain ⟨hP, hD⟩ := xp (ws' := [(x0, .inr (6, [.ref s0, .ref l0, .ref p0, .ref k0, .int (nI bf)])), (s0, .inr (4, [.ref t0, .ref a1, .ref a2, .ref a3, .int (nI cm)])), (t0, .inr (5, [.ref b1, .ref b2, .int (nI T)])), (a2, .inl (K 0, 601, .inl (nA st))), (b1, .inl (K 0, 512, .inl (nA ch))), (b2, .inl (K 1, 512, .inr (.inl ct)))]) hP hD [0, 3, 4, 5, 1, 2] (by decide) rfl
        exact xr_iret hx hb hr hlocks hP hD hS (Nat.le_of_ble_eq_true rfl) (Nat.le_of_ble_eq_true rfl) (⟨rfl, rfl⟩) d_SI_token_126
      · exact absurd (hand_dup hso hp1_60 hp2_60 hp3_60 hp4_60 hdup) (bN_0.mp c_78)
    · omega

abbrev q_SI_token_new (K : Nat → ClassId) (x0 : Nat) (s0 : Nat) (l0 : Nat) (p0 : Nat) (k0 : Nat) (bf : Nat) (t0 : Nat) (a1 : Nat) (a2 : Nat) (a3 : Nat) (cm : Nat) (b1 : Nat) (b2 : Nat) (T : Nat) (st : Nat → Nat) (ch : Nat → Nat) (ct : Nat → Int64) (fi : Nat) (pl_ : Nat) (a : Int32) (b : Int32) : Int32 → va_W → Prop := fun r u => ∃ pp : Nat, u = ([(x0, .inr (6, [.ref s0, .ref l0, .ref p0, .ref k0, .int (nI bf)])), (s0, .inr (4, [.ref t0, .ref a1, .ref a2, .ref a3, .int (nI cm)])), (t0, .inr (5, [.ref b1, .ref b2, .int (nI (T + 1))])), (a2, .inl (K 0, 601, .inl (nA st))), (b1, .inl (K 0, 512, .inl (nA (insN ch pp T ((cm * 2 ^ 2 + fi) * 2 ^ 12 + pl_))))), (b2, .inl (K 1, 512, .inr (.inl (insN ct pp T (tmL a b)))))] : va_W) ∧ r = nI ((T + 1) - st cm) ∧ (st cm ≤ pp) ∧ (pp ≤ T) ∧ (∀ k, pp ≤ k → k < T → ((cm * 2 ^ 2 + fi) * 2 ^ 12 + pl_ < ch k ∨ (ch k = (cm * 2 ^ 2 + fi) * 2 ^ 12 + pl_ ∧ tmL a b < ct k))) ∧ (st cm < pp → ¬ ((cm * 2 ^ 2 + fi) * 2 ^ 12 + pl_ < ch (pp - 1) ∨ (ch (pp - 1) = (cm * 2 ^ 2 + fi) * 2 ^ 12 + pl_ ∧ tmL a b < ct (pp - 1))))
set_option maxHeartbeats 4000000 in
set_option maxRecDepth 100000 in
theorem c_SI_token_new (l : Launch) (D : va_G) (K : Nat → ClassId) (x0 : Nat) (s0 : Nat) (l0 : Nat) (p0 : Nat) (k0 : Nat) (bf : Nat) (t0 : Nat) (a1 : Nat) (a2 : Nat) (a3 : Nat) (cm : Nat) (b1 : Nat) (b2 : Nat) (T : Nat) (st : Nat → Nat) (ch : Nat → Nat) (ct : Nat → Int64) (fi : Nat) (pl_ : Nat) (a : Int32) (b : Int32) (hfi : fi ≤ 3) (hpl : pl_ ≤ 4095) (hcm : cm ≤ 600) (hT : T < 512) (hst : st cm ≤ T) (hch : ∀ k, k < T → ch k < 2 ^ 24) (hso : ∀ i j, st cm ≤ i → i < j → j < T → ch i < ch j ∨ (ch i = ch j ∧ ct i < ct j)) (hno : ¬ (∃ i, st cm ≤ i ∧ i < T ∧ ch i = (cm * 2 ^ 2 + fi) * 2 ^ 12 + pl_ ∧ ct i = tmL a b)) (hfew : T - st cm < 120) : CI l y_SI_token b_SI_token 9 .int ({ frames := 4, cells := 0, slots := 0, locals := 160 } : Room) D K [.ref x0, .int (nI fi), .int (nI pl_), .int a, .int b] ([(x0, .inr (6, [.ref s0, .ref l0, .ref p0, .ref k0, .int (nI bf)])), (s0, .inr (4, [.ref t0, .ref a1, .ref a2, .ref a3, .int (nI cm)])), (t0, .inr (5, [.ref b1, .ref b2, .int (nI T)])), (a2, .inl (K 0, 601, .inl (nA st))), (b1, .inl (K 0, 512, .inl (nA ch))), (b2, .inl (K 1, 512, .inr (.inl ct)))] : va_W) (q_SI_token_new K x0 s0 l0 p0 k0 bf t0 a1 a2 a3 cm b1 b2 T st ch ct fi pl_ a b) := by
  refine CI_of (by decide) (Nat.le_of_ble_eq_true rfl) ?_
  intro p e s m below meth c A b0 ls hF hA hP hD hl
  have hF2 := hF
  obtain ⟨hx, hb, hr, hml, hown, htw, hK, hlocks, hname⟩ := hF
  have hS : va_S A s.heap s.heap [] := va_S.rf
  have hl : lv_has ls 9 [(0, .ref x0), (1, .int (nI fi)), (2, .int (nI pl_)), (3, .int a), (4, .int b)] := hl
  refine lv_iload_n hx hb d_SI_token_0 rfl (lv_at hl 1 rfl) ?_
  refine xz_lt (a := fi) hx hb (by omega) d_SI_token_1 20 (by decide) ?_
  refine lv_iload_n hx hb d_SI_token_4 rfl (lv_at hl 1 rfl) ?_
  refine lv_iconst (v := nI 4) hx hb d_SI_token_5 (by decide) ?_
  refine xc_ge (tgt := 20) (a := fi) (b := 4) hx hb (by omega) (by omega) d_SI_token_6 (by decide) (fun c_6 => ?_) (fun c_6 => ?_)
  · omega
  · refine lv_iload_n hx hb d_SI_token_9 rfl (lv_at hl 2 rfl) ?_
    refine xz_lt (a := pl_) hx hb (by omega) d_SI_token_10 20 (by decide) ?_
    refine lv_iload_n hx hb d_SI_token_13 rfl (lv_at hl 2 rfl) ?_
    refine lv_sipush (v := nI 4096) hx hb d_SI_token_14 (by decide) ?_
    refine xc_lt (tgt := 30) (a := pl_) (b := 4096) hx hb (by omega) (by omega) d_SI_token_17 (by decide) (fun c_17 => ?_) (fun c_17 => ?_)
    · refine lv_aload_n hx hb d_SI_token_30 rfl (lv_at hl 0 rfl) ?_
      refine xg hx hb hown htw hK hP 0 0 rfl k_SI (by decide) fl_SI_10 rfl d_SI_token_31 ?_
      refine xg hx hb hown htw hK hP 1 4 rfl k_Sh (by decide) fl_SI_48 rfl d_SI_token_34 ?_
      refine lv_iload_n hx hb d_SI_token_37 rfl (lv_at hl 1 rfl) ?_
      refine lv_iload_n hx hb d_SI_token_38 rfl (lv_at hl 2 rfl) ?_
      refine xcS_i (As := [.int (nI cm), .int (nI fi), .int (nI pl_)]) (rest := []) (wr := ([(x0, .inr (6, [.ref s0, .ref l0, .ref p0, .ref k0, .int (nI bf)])), (s0, .inr (4, [.ref t0, .ref a1, .ref a2, .ref a3, .int (nI cm)])), (t0, .inr (5, [.ref b1, .ref b2, .int (nI T)])), (a2, .inl (K 0, 601, .inl (nA st))), (b1, .inl (K 0, 512, .inl (nA ch))), (b2, .inl (K 1, 512, .inr (.inl ct)))] : va_W)) hx hb hml hown htw hK hA hl.1 hP hD hS (c_SI_hitOf l D K cm fi pl_ (by first | assumption | omega) (by first | assumption | omega) (by first | assumption | omega)) [] [0, 1, 2, 3, 4, 5] rfl rfl (by decide) (by decide) (by decide) ml_SI_51 w_SI_hitOf rfl ⟨by decide, by decide⟩ rfl (Nat.le_of_ble_eq_true rfl) ⟨by decide, by decide⟩ d_SI_token_39 (fun r u H locs hpost hP hD hS => ?_)
      obtain ⟨rfl, rfl⟩ := hpost
      have hP : va_P D classes ([(x0, .inr (6, [.ref s0, .ref l0, .ref p0, .ref k0, .int (nI bf)])), (s0, .inr (4, [.ref t0, .ref a1, .ref a2, .ref a3, .int (nI cm)])), (t0, .inr (5, [.ref b1, .ref b2, .int (nI T)])), (a2, .inl (K 0, 601, .inl (nA st))), (b1, .inl (K 0, 512, .inl (nA ch))), (b2, .inl (K 1, 512, .inr (.inl ct)))] : va_W) H := hP
      have hD : va_D A ([(x0, .inr (6, [.ref s0, .ref l0, .ref p0, .ref k0, .int (nI bf)])), (s0, .inr (4, [.ref t0, .ref a1, .ref a2, .ref a3, .int (nI cm)])), (t0, .inr (5, [.ref b1, .ref b2, .int (nI T)])), (a2, .inl (K 0, 601, .inl (nA st))), (b1, .inl (K 0, 512, .inl (nA ch))), (b2, .inl (K 1, 512, .inr (.inl ct)))] : va_W) := hD
      refine lv_istore (lv' := [(5, .int (nI ((cm * 2 ^ 2 + fi) * 2 ^ 12 + pl_))), (0, .ref x0), (1, .int (nI fi)), (2, .int (nI pl_)), (3, .int a), (4, .int b)]) hx hb d_SI_token_42 hl (by decide) rfl (fun ls hl => ?_)
      refine lv_iload_n hx hb d_SI_token_44 rfl (lv_at hl 4 rfl) ?_
      refine lv_iload hx hb d_SI_token_45 (lv_at hl 5 rfl) ?_
      refine xcS_l (As := [.int a, .int b]) (rest := []) (wr := ([(x0, .inr (6, [.ref s0, .ref l0, .ref p0, .ref k0, .int (nI bf)])), (s0, .inr (4, [.ref t0, .ref a1, .ref a2, .ref a3, .int (nI cm)])), (t0, .inr (5, [.ref b1, .ref b2, .int (nI T)])), (a2, .inl (K 0, 601, .inl (nA st))), (b1, .inl (K 0, 512, .inl (nA ch))), (b2, .inl (K 1, 512, .inr (.inl ct)))] : va_W)) hx hb hml hown htw hK hA hl.1 hP hD hS (c_SI_termOf l D K a b ) [] [0, 1, 2, 3, 4, 5] rfl rfl (by decide) (by decide) (by decide) ml_SI_55 w_SI_termOf rfl ⟨by decide, by decide⟩ rfl (Nat.le_of_ble_eq_true rfl) ⟨by decide, by decide⟩ d_SI_token_47 (fun r u H locs hpost hP hD hS => ?_)
      obtain ⟨rfl, rfl⟩ := hpost
      have hP : va_P D classes ([(x0, .inr (6, [.ref s0, .ref l0, .ref p0, .ref k0, .int (nI bf)])), (s0, .inr (4, [.ref t0, .ref a1, .ref a2, .ref a3, .int (nI cm)])), (t0, .inr (5, [.ref b1, .ref b2, .int (nI T)])), (a2, .inl (K 0, 601, .inl (nA st))), (b1, .inl (K 0, 512, .inl (nA ch))), (b2, .inl (K 1, 512, .inr (.inl ct)))] : va_W) H := hP
      have hD : va_D A ([(x0, .inr (6, [.ref s0, .ref l0, .ref p0, .ref k0, .int (nI bf)])), (s0, .inr (4, [.ref t0, .ref a1, .ref a2, .ref a3, .int (nI cm)])), (t0, .inr (5, [.ref b1, .ref b2, .int (nI T)])), (a2, .inl (K 0, 601, .inl (nA st))), (b1, .inl (K 0, 512, .inl (nA ch))), (b2, .inl (K 1, 512, .inr (.inl ct)))] : va_W) := hD
      refine lv_lstore (lv' := [(6, .long (tmL a b)), (5, .int (nI ((cm * 2 ^ 2 + fi) * 2 ^ 12 + pl_))), (0, .ref x0), (1, .int (nI fi)), (2, .int (nI pl_)), (3, .int a), (4, .int b)]) hx hb d_SI_token_50 hl (by decide) rfl (fun ls hl => ?_)
      refine lv_aload_n hx hb d_SI_token_52 rfl (lv_at hl 2 rfl) ?_
      refine xg hx hb hown htw hK hP 0 0 rfl k_SI (by decide) fl_SI_10 rfl d_SI_token_53 ?_
      refine lv_iload hx hb d_SI_token_56 (lv_at hl 1 rfl) ?_
      refine lv_lload hx hb d_SI_token_58 (lv_at hl 0 rfl) ?_
      refine xcV_i (As := [.int (nI ((cm * 2 ^ 2 + fi) * 2 ^ 12 + pl_)), .long (tmL a b)]) (rest := []) (wr := ([(x0, .inr (6, [.ref s0, .ref l0, .ref p0, .ref k0, .int (nI bf)]))] : va_W)) hx hb hml hown htw hK hA hl.1 hP hD hS (c_Sh_spotInHand l D K s0 t0 a1 a2 a3 cm b1 b2 T st ch ct ((cm * 2 ^ 2 + fi) * 2 ^ 12 + pl_) (tmL a b) (by first | assumption | omega) (by first | assumption | omega) (by first | assumption | omega) (by first | assumption | omega) (by first | assumption | omega)) [1, 2, 3, 4, 5] [0] rfl rfl (by decide) (by decide) (by decide) 0 rfl k_Sh ml_SI_59 w_Sh_spotInHand rfl ⟨by decide, by decide⟩ rfl (Nat.le_of_ble_eq_true rfl) ⟨by decide, by decide⟩ d_SI_token_60 (fun r u H locs hpost hP hD hS => ?_)
      obtain ⟨pp_60, rfl, rfl, hp1_60, hp2_60, hp3_60, hp4_60⟩ := hpost
      have hP : va_P D classes ([(x0, .inr (6, [.ref s0, .ref l0, .ref p0, .ref k0, .int (nI bf)])), (s0, .inr (4, [.ref t0, .ref a1, .ref a2, .ref a3, .int (nI cm)])), (t0, .inr (5, [.ref b1, .ref b2, .int (nI T)])), (a2, .inl (K 0, 601, .inl (nA st))), (b1, .inl (K 0, 512, .inl (nA ch))), (b2, .inl (K 1, 512, .inr (.inl ct)))] : va_W) H := hP
      have hD : va_D A ([(x0, .inr (6, [.ref s0, .ref l0, .ref p0, .ref k0, .int (nI bf)])), (s0, .inr (4, [.ref t0, .ref a1, .ref a2, .ref a3, .int (nI cm)])), (t0, .inr (5, [.ref b1, .ref b2, .int (nI T)])), (a2, .inl (K 0, 601, .inl (nA st))), (b1, .inl (K 0, 512, .inl (nA ch))), (b2, .inl (K 1, 512, .inr (.inl ct)))] : va_W) := hD
      refine lv_istore (lv' := [(8, .int (nI pp_60)), (6, .long (tmL a b)), (5, .int (nI ((cm * 2 ^ 2 + fi) * 2 ^ 12 + pl_))), (0, .ref x0), (1, .int (nI fi)), (2, .int (nI pl_)), (3, .int a), (4, .int b)]) hx hb d_SI_token_63 hl (by decide) rfl (fun ls hl => ?_)
      refine lv_aload_n hx hb d_SI_token_65 rfl (lv_at hl 3 rfl) ?_
      refine xg hx hb hown htw hK hP 0 0 rfl k_SI (by decide) fl_SI_10 rfl d_SI_token_66 ?_
      refine lv_iload hx hb d_SI_token_69 (lv_at hl 0 rfl) ?_
      refine lv_iload hx hb d_SI_token_71 (lv_at hl 2 rfl) ?_
      refine lv_lload hx hb d_SI_token_73 (lv_at hl 1 rfl) ?_
      refine xcV_i (As := [.int (nI pp_60), .int (nI ((cm * 2 ^ 2 + fi) * 2 ^ 12 + pl_)), .long (tmL a b)]) (rest := []) (wr := ([(x0, .inr (6, [.ref s0, .ref l0, .ref p0, .ref k0, .int (nI bf)]))] : va_W)) hx hb hml hown htw hK hA hl.1 hP hD hS (c_Sh_handHasBefore l D K s0 t0 a1 a2 a3 cm b1 b2 T st ch ct pp_60 ((cm * 2 ^ 2 + fi) * 2 ^ 12 + pl_) (tmL a b) (by first | assumption | omega) (by first | assumption | omega) (by first | assumption | omega) (by first | assumption | omega) (by first | assumption | omega) (by first | assumption | omega)) [1, 2, 3, 4, 5] [0] rfl rfl (by decide) (by decide) (by decide) 0 rfl k_Sh ml_SI_63 w_Sh_handHasBefore rfl ⟨by decide, by decide⟩ rfl (Nat.le_of_ble_eq_true rfl) ⟨by decide, by decide⟩ d_SI_token_75 (fun r u H locs hpost hP hD hS => ?_)
      obtain ⟨rfl, rfl⟩ := hpost
      have hP : va_P D classes ([(x0, .inr (6, [.ref s0, .ref l0, .ref p0, .ref k0, .int (nI bf)])), (s0, .inr (4, [.ref t0, .ref a1, .ref a2, .ref a3, .int (nI cm)])), (t0, .inr (5, [.ref b1, .ref b2, .int (nI T)])), (a2, .inl (K 0, 601, .inl (nA st))), (b1, .inl (K 0, 512, .inl (nA ch))), (b2, .inl (K 1, 512, .inr (.inl ct)))] : va_W) H := hP
      have hD : va_D A ([(x0, .inr (6, [.ref s0, .ref l0, .ref p0, .ref k0, .int (nI bf)])), (s0, .inr (4, [.ref t0, .ref a1, .ref a2, .ref a3, .int (nI cm)])), (t0, .inr (5, [.ref b1, .ref b2, .int (nI T)])), (a2, .inl (K 0, 601, .inl (nA st))), (b1, .inl (K 0, 512, .inl (nA ch))), (b2, .inl (K 1, 512, .inr (.inl ct)))] : va_W) := hD
      refine xz_ne (tgt := 119) (a := bN (st cm < pp_60 ∧ ch (pp_60 - 1) = ((cm * 2 ^ 2 + fi) * 2 ^ 12 + pl_) ∧ ct (pp_60 - 1) = (tmL a b))) hx hb (by exact bN_31 _) d_SI_token_78 (by decide) (fun c_78 => ?_) (fun c_78 => ?_)
      · exact absurd ⟨pp_60 - 1, by have := (bN_pos.mp c_78).1; omega, by have := (bN_pos.mp c_78).1; omega, (bN_pos.mp c_78).2.1, (bN_pos.mp c_78).2.2⟩ hno
      · refine lv_aload_n hx hb d_SI_token_81 rfl (lv_at hl 3 rfl) ?_
        refine xg hx hb hown htw hK hP 0 0 rfl k_SI (by decide) fl_SI_10 rfl d_SI_token_82 ?_
        refine xcV_i (As := []) (rest := []) (wr := ([(x0, .inr (6, [.ref s0, .ref l0, .ref p0, .ref k0, .int (nI bf)])), (b1, .inl (K 0, 512, .inl (nA ch))), (b2, .inl (K 1, 512, .inr (.inl ct)))] : va_W)) hx hb hml hown htw hK hA hl.1 hP hD hS (c_Sh_inHand l D K s0 t0 a1 a2 a3 cm b1 b2 T st (by first | assumption | omega) (by first | assumption | omega)) [1, 2, 3] [0, 4, 5] rfl rfl (by decide) (by decide) (by decide) 0 rfl k_Sh ml_SI_67 w_Sh_inHand rfl ⟨by decide, by decide⟩ rfl (Nat.le_of_ble_eq_true rfl) ⟨by decide, by decide⟩ d_SI_token_85 (fun r u H locs hpost hP hD hS => ?_)
        obtain ⟨rfl, rfl⟩ := hpost
        have hP : va_P D classes ([(x0, .inr (6, [.ref s0, .ref l0, .ref p0, .ref k0, .int (nI bf)])), (b1, .inl (K 0, 512, .inl (nA ch))), (b2, .inl (K 1, 512, .inr (.inl ct))), (s0, .inr (4, [.ref t0, .ref a1, .ref a2, .ref a3, .int (nI cm)])), (t0, .inr (5, [.ref b1, .ref b2, .int (nI T)])), (a2, .inl (K 0, 601, .inl (nA st)))] : va_W) H := hP
        have hD : va_D A ([(x0, .inr (6, [.ref s0, .ref l0, .ref p0, .ref k0, .int (nI bf)])), (b1, .inl (K 0, 512, .inl (nA ch))), (b2, .inl (K 1, 512, .inr (.inl ct))), (s0, .inr (4, [.ref t0, .ref a1, .ref a2, .ref a3, .int (nI cm)])), (t0, .inr (5, [.ref b1, .ref b2, .int (nI T)])), (a2, .inl (K 0, 601, .inl (nA st)))] : va_W) := hD
        refine lv_bipush (v := nI 120) hx hb d_SI_token_88 (by decide) ?_
        refine xc_lt (tgt := 103) (a := T - st cm) (b := 120) hx hb (by omega) (by omega) d_SI_token_90 (by decide) (fun c_90 => ?_) (fun c_90 => ?_)
        · refine lv_aload_n hx hb d_SI_token_103 rfl (lv_at hl 3 rfl) ?_
          refine xg hx hb hown htw hK hP 0 0 rfl k_SI (by decide) fl_SI_10 rfl d_SI_token_104 ?_
          refine xg hx hb hown htw hK hP 3 0 rfl k_Sh (by decide) fl_SI_76 rfl d_SI_token_107 ?_
          refine lv_iload hx hb d_SI_token_110 (lv_at hl 0 rfl) ?_
          refine lv_iload hx hb d_SI_token_112 (lv_at hl 2 rfl) ?_
          refine lv_lload hx hb d_SI_token_114 (lv_at hl 1 rfl) ?_
          refine xcV_v (As := [.int (nI pp_60), .int (nI ((cm * 2 ^ 2 + fi) * 2 ^ 12 + pl_)), .long (tmL a b)]) (rest := []) (wr := ([(x0, .inr (6, [.ref s0, .ref l0, .ref p0, .ref k0, .int (nI bf)])), (s0, .inr (4, [.ref t0, .ref a1, .ref a2, .ref a3, .int (nI cm)])), (a2, .inl (K 0, 601, .inl (nA st)))] : va_W)) hx hb hml hown htw hK hA hl.1 hP hD hS (c_Tk_insert l D K t0 b1 b2 T ch ct pp_60 ((cm * 2 ^ 2 + fi) * 2 ^ 12 + pl_) (tmL a b) (by first | assumption | omega) (by first | assumption | omega)) [4, 1, 2] [0, 3, 5] rfl rfl (by decide) (by decide) (by decide) 0 rfl k_Tk ml_SI_80 w_Tk_insert rfl ⟨by decide, by decide⟩ rfl (Nat.le_of_ble_eq_true rfl) ⟨by decide, by decide⟩ d_SI_token_116 (fun u H locs hpost hP hD hS => ?_)
          subst hpost
          have hP : va_P D classes ([(x0, .inr (6, [.ref s0, .ref l0, .ref p0, .ref k0, .int (nI bf)])), (s0, .inr (4, [.ref t0, .ref a1, .ref a2, .ref a3, .int (nI cm)])), (a2, .inl (K 0, 601, .inl (nA st))), (t0, .inr (5, [.ref b1, .ref b2, .int (nI (T + 1))])), (b1, .inl (K 0, 512, .inl (nA (insN ch pp_60 T ((cm * 2 ^ 2 + fi) * 2 ^ 12 + pl_))))), (b2, .inl (K 1, 512, .inr (.inl (insN ct pp_60 T (tmL a b)))))] : va_W) H := hP
          have hD : va_D A ([(x0, .inr (6, [.ref s0, .ref l0, .ref p0, .ref k0, .int (nI bf)])), (s0, .inr (4, [.ref t0, .ref a1, .ref a2, .ref a3, .int (nI cm)])), (a2, .inl (K 0, 601, .inl (nA st))), (t0, .inr (5, [.ref b1, .ref b2, .int (nI (T + 1))])), (b1, .inl (K 0, 512, .inl (nA (insN ch pp_60 T ((cm * 2 ^ 2 + fi) * 2 ^ 12 + pl_))))), (b2, .inl (K 1, 512, .inr (.inl (insN ct pp_60 T (tmL a b)))))] : va_W) := hD
          refine lv_aload_n hx hb d_SI_token_119 rfl (lv_at hl 3 rfl) ?_
          refine xg hx hb hown htw hK hP 0 0 rfl k_SI (by decide) fl_SI_10 rfl d_SI_token_120 ?_
          refine xcV_i (As := []) (rest := []) (wr := ([(x0, .inr (6, [.ref s0, .ref l0, .ref p0, .ref k0, .int (nI bf)])), (b1, .inl (K 0, 512, .inl (nA (insN ch pp_60 T ((cm * 2 ^ 2 + fi) * 2 ^ 12 + pl_))))), (b2, .inl (K 1, 512, .inr (.inl (insN ct pp_60 T (tmL a b)))))] : va_W)) hx hb hml hown htw hK hA hl.1 hP hD hS (c_Sh_inHand l D K s0 t0 a1 a2 a3 cm b1 b2 (T + 1) st (by first | assumption | omega) (by first | assumption | omega)) [1, 3, 2] [0, 4, 5] rfl rfl (by decide) (by decide) (by decide) 0 rfl k_Sh ml_SI_67 w_Sh_inHand rfl ⟨by decide, by decide⟩ rfl (Nat.le_of_ble_eq_true rfl) ⟨by decide, by decide⟩ d_SI_token_123 (fun r u H locs hpost hP hD hS => ?_)
          obtain ⟨rfl, rfl⟩ := hpost
          have hP : va_P D classes ([(x0, .inr (6, [.ref s0, .ref l0, .ref p0, .ref k0, .int (nI bf)])), (b1, .inl (K 0, 512, .inl (nA (insN ch pp_60 T ((cm * 2 ^ 2 + fi) * 2 ^ 12 + pl_))))), (b2, .inl (K 1, 512, .inr (.inl (insN ct pp_60 T (tmL a b))))), (s0, .inr (4, [.ref t0, .ref a1, .ref a2, .ref a3, .int (nI cm)])), (t0, .inr (5, [.ref b1, .ref b2, .int (nI (T + 1))])), (a2, .inl (K 0, 601, .inl (nA st)))] : va_W) H := hP
          have hD : va_D A ([(x0, .inr (6, [.ref s0, .ref l0, .ref p0, .ref k0, .int (nI bf)])), (b1, .inl (K 0, 512, .inl (nA (insN ch pp_60 T ((cm * 2 ^ 2 + fi) * 2 ^ 12 + pl_))))), (b2, .inl (K 1, 512, .inr (.inl (insN ct pp_60 T (tmL a b))))), (s0, .inr (4, [.ref t0, .ref a1, .ref a2, .ref a3, .int (nI cm)])), (t0, .inr (5, [.ref b1, .ref b2, .int (nI (T + 1))])), (a2, .inl (K 0, 601, .inl (nA st)))] : va_W) := hD
          obtain ⟨hP, hD⟩ := xp (ws' := [(x0, .inr (6, [.ref s0, .ref l0, .ref p0, .ref k0, .int (nI bf)])), (s0, .inr (4, [.ref t0, .ref a1, .ref a2, .ref a3, .int (nI cm)])), (t0, .inr (5, [.ref b1, .ref b2, .int (nI (T + 1))])), (a2, .inl (K 0, 601, .inl (nA st))), (b1, .inl (K 0, 512, .inl (nA (insN ch pp_60 T ((cm * 2 ^ 2 + fi) * 2 ^ 12 + pl_))))), (b2, .inl (K 1, 512, .inr (.inl (insN ct pp_60 T (tmL a b)))))]) hP hD [0, 3, 4, 5, 1, 2] (by decide) rfl
          exact xr_iret hx hb hr hlocks hP hD hS (Nat.le_of_ble_eq_true rfl) (Nat.le_of_ble_eq_true rfl) (⟨pp_60, rfl, rfl, hp1_60, hp2_60, hp3_60, hp4_60⟩) d_SI_token_126
        · omega
    · omega

abbrev q_SI_take_0 (K : Nat → ClassId) (x0 : Nat) (s0 : Nat) (l0 : Nat) (p0 : Nat) (k0 : Nat) (bf : Nat) (t0 : Nat) (a1 : Nat) (a2 : Nat) (a3 : Nat) (cm : Nat) (sa : Nat → Nat) (is : Nat → Nat) (d : Nat) : va_W → Prop := fun u => u = ([(x0, .inr (6, [.ref s0, .ref l0, .ref p0, .ref k0, .int (nI bf)])), (s0, .inr (4, [.ref t0, .ref a1, .ref a2, .ref a3, .int (nI cm)])), (a1, .inl (K 0, 600, .inl (nA (va_up sa d 3)))), (a3, .inl (K 0, 4, .inl (nA (mvC is (sa d) 3))))] : va_W)
set_option maxHeartbeats 4000000 in
set_option maxRecDepth 100000 in
theorem c_SI_take_0 (l : Launch) (D : va_G) (K : Nat → ClassId) (x0 : Nat) (s0 : Nat) (l0 : Nat) (p0 : Nat) (k0 : Nat) (bf : Nat) (t0 : Nat) (a1 : Nat) (a2 : Nat) (a3 : Nat) (cm : Nat) (sa : Nat → Nat) (is : Nat → Nat) (d : Nat) (hcm : cm ≤ 600) (hd : d < cm) (hsd : sa d = 0) (hpos : 0 < is (sa d)) : CV l y_SI_take b_SI_take 2 ({ frames := 4, cells := 0, slots := 0, locals := 120 } : Room) D K [.ref x0, .int (nI d)] ([(x0, .inr (6, [.ref s0, .ref l0, .ref p0, .ref k0, .int (nI bf)])), (s0, .inr (4, [.ref t0, .ref a1, .ref a2, .ref a3, .int (nI cm)])), (a1, .inl (K 0, 600, .inl (nA sa))), (a3, .inl (K 0, 4, .inl (nA is)))] : va_W) (q_SI_take_0 K x0 s0 l0 p0 k0 bf t0 a1 a2 a3 cm sa is d) := by
  refine CV_of (by decide) (Nat.le_of_ble_eq_true rfl) ?_
  intro p e s m below meth c A b0 ls hF hA hP hD hl
  have hF2 := hF
  obtain ⟨hx, hb, hr, hml, hown, htw, hK, hlocks, hname⟩ := hF
  have hS : va_S A s.heap s.heap [] := va_S.rf
  have hl : lv_has ls 2 [(0, .ref x0), (1, .int (nI d))] := hl
  refine lv_aload_n hx hb d_SI_take_0 rfl (lv_at hl 0 rfl) ?_
  refine xg hx hb hown htw hK hP 0 0 rfl k_SI (by decide) fl_SI_10 rfl d_SI_take_1 ?_
  refine lv_iload_n hx hb d_SI_take_4 rfl (lv_at hl 1 rfl) ?_
  refine xcV_i (As := [.int (nI d)]) (rest := []) (wr := ([(x0, .inr (6, [.ref s0, .ref l0, .ref p0, .ref k0, .int (nI bf)])), (a3, .inl (K 0, 4, .inl (nA is)))] : va_W)) hx hb hml hown htw hK hA hl.1 hP hD hS (c_Sh_isThere l D K s0 t0 a1 a2 a3 cm sa d (by first | assumption | omega) (by first | assumption | omega) (by first | assumption | omega)) [1, 2] [0, 3] rfl rfl (by decide) (by decide) (by decide) 0 rfl k_Sh ml_SI_98 w_Sh_isThere rfl ⟨by decide, by decide⟩ rfl (Nat.le_of_ble_eq_true rfl) ⟨by decide, by decide⟩ d_SI_take_5 (fun r u H locs hpost hP hD hS => ?_)
  obtain ⟨rfl, rfl⟩ := hpost
  have hP : va_P D classes ([(x0, .inr (6, [.ref s0, .ref l0, .ref p0, .ref k0, .int (nI bf)])), (a3, .inl (K 0, 4, .inl (nA is))), (s0, .inr (4, [.ref t0, .ref a1, .ref a2, .ref a3, .int (nI cm)])), (a1, .inl (K 0, 600, .inl (nA sa)))] : va_W) H := hP
  have hD : va_D A ([(x0, .inr (6, [.ref s0, .ref l0, .ref p0, .ref k0, .int (nI bf)])), (a3, .inl (K 0, 4, .inl (nA is))), (s0, .inr (4, [.ref t0, .ref a1, .ref a2, .ref a3, .int (nI cm)])), (a1, .inl (K 0, 600, .inl (nA sa)))] : va_W) := hD
  refine xz_ne (tgt := 21) (a := bN (sa d ≤ 1)) hx hb (by exact bN_31 _) d_SI_take_8 (by decide) (fun c_8 => ?_) (fun c_8 => ?_)
  · refine lv_aload_n hx hb d_SI_take_21 rfl (lv_at hl 0 rfl) ?_
    refine xg hx hb hown htw hK hP 0 0 rfl k_SI (by decide) fl_SI_10 rfl d_SI_take_22 ?_
    refine lv_iload_n hx hb d_SI_take_25 rfl (lv_at hl 1 rfl) ?_
    refine lv_aload_n hx hb d_SI_take_26 rfl (lv_at hl 0 rfl) ?_
    refine xg hx hb hown htw hK hP 0 0 rfl k_SI (by decide) fl_SI_10 rfl d_SI_take_27 ?_
    refine lv_iload_n hx hb d_SI_take_30 rfl (lv_at hl 1 rfl) ?_
    refine xcV_i (As := [.int (nI d)]) (rest := [.int (nI d), .ref s0]) (wr := ([(x0, .inr (6, [.ref s0, .ref l0, .ref p0, .ref k0, .int (nI bf)])), (a3, .inl (K 0, 4, .inl (nA is)))] : va_W)) hx hb hml hown htw hK hA hl.1 hP hD hS (c_Sh_stateOf l D K s0 t0 a1 a2 a3 cm sa d (by first | assumption | omega) (by first | assumption | omega)) [2, 3] [0, 1] rfl rfl (by decide) (by decide) (by decide) 0 rfl k_Sh ml_SI_107 w_Sh_stateOf rfl ⟨by decide, by decide⟩ rfl (Nat.le_of_ble_eq_true rfl) ⟨by decide, by decide⟩ d_SI_take_31 (fun r u H locs hpost hP hD hS => ?_)
    obtain ⟨rfl, rfl⟩ := hpost
    have hP : va_P D classes ([(x0, .inr (6, [.ref s0, .ref l0, .ref p0, .ref k0, .int (nI bf)])), (a3, .inl (K 0, 4, .inl (nA is))), (s0, .inr (4, [.ref t0, .ref a1, .ref a2, .ref a3, .int (nI cm)])), (a1, .inl (K 0, 600, .inl (nA sa)))] : va_W) H := hP
    have hD : va_D A ([(x0, .inr (6, [.ref s0, .ref l0, .ref p0, .ref k0, .int (nI bf)])), (a3, .inl (K 0, 4, .inl (nA is))), (s0, .inr (4, [.ref t0, .ref a1, .ref a2, .ref a3, .int (nI cm)])), (a1, .inl (K 0, 600, .inl (nA sa)))] : va_W) := hD
    refine xz_ne (tgt := 41) (a := sa d) hx hb (by omega) d_SI_take_34 (by decide) (fun c_34 => ?_) (fun c_34 => ?_)
    · omega
    · refine lv_iconst (v := nI 3) hx hb d_SI_take_37 (by decide) ?_
      refine lv_goto (tgt := 42) hx hb d_SI_take_38 (by decide) ?_
      refine xcV_v (As := [.int (nI d), .int (nI 3)]) (rest := []) (wr := ([(x0, .inr (6, [.ref s0, .ref l0, .ref p0, .ref k0, .int (nI bf)]))] : va_W)) hx hb hml hown htw hK hA hl.1 hP hD hS (c_Sh_move l D K s0 t0 a1 a2 a3 cm sa is d 3 (by first | assumption | omega) (by first | assumption | omega) (by first | assumption | omega) (by first | assumption | omega) (by first | assumption | omega)) [2, 3, 1] [0] rfl rfl (by decide) (by decide) (by decide) 0 rfl k_Sh ml_SI_111 w_Sh_move rfl ⟨by decide, by decide⟩ rfl (Nat.le_of_ble_eq_true rfl) ⟨by decide, by decide⟩ d_SI_take_42 (fun u H locs hpost hP hD hS => ?_)
      subst hpost
      have hP : va_P D classes ([(x0, .inr (6, [.ref s0, .ref l0, .ref p0, .ref k0, .int (nI bf)])), (s0, .inr (4, [.ref t0, .ref a1, .ref a2, .ref a3, .int (nI cm)])), (a1, .inl (K 0, 600, .inl (nA (va_up sa d 3)))), (a3, .inl (K 0, 4, .inl (nA (mvC is (sa d) 3))))] : va_W) H := hP
      have hD : va_D A ([(x0, .inr (6, [.ref s0, .ref l0, .ref p0, .ref k0, .int (nI bf)])), (s0, .inr (4, [.ref t0, .ref a1, .ref a2, .ref a3, .int (nI cm)])), (a1, .inl (K 0, 600, .inl (nA (va_up sa d 3)))), (a3, .inl (K 0, 4, .inl (nA (mvC is (sa d) 3))))] : va_W) := hD
      exact xr_vret hx hb hr hlocks hP hD hS (Nat.le_of_ble_eq_true rfl) (Nat.le_of_ble_eq_true rfl) (rfl) d_SI_take_45
  · exact absurd (show sa d ≤ 1 by omega) (bN_0.mp c_8)

abbrev q_SI_take_1 (K : Nat → ClassId) (x0 : Nat) (s0 : Nat) (l0 : Nat) (p0 : Nat) (k0 : Nat) (bf : Nat) (t0 : Nat) (a1 : Nat) (a2 : Nat) (a3 : Nat) (cm : Nat) (sa : Nat → Nat) (is : Nat → Nat) (d : Nat) : va_W → Prop := fun u => u = ([(x0, .inr (6, [.ref s0, .ref l0, .ref p0, .ref k0, .int (nI bf)])), (s0, .inr (4, [.ref t0, .ref a1, .ref a2, .ref a3, .int (nI cm)])), (a1, .inl (K 0, 600, .inl (nA (va_up sa d 2)))), (a3, .inl (K 0, 4, .inl (nA (mvC is (sa d) 2))))] : va_W)
set_option maxHeartbeats 4000000 in
set_option maxRecDepth 100000 in
theorem c_SI_take_1 (l : Launch) (D : va_G) (K : Nat → ClassId) (x0 : Nat) (s0 : Nat) (l0 : Nat) (p0 : Nat) (k0 : Nat) (bf : Nat) (t0 : Nat) (a1 : Nat) (a2 : Nat) (a3 : Nat) (cm : Nat) (sa : Nat → Nat) (is : Nat → Nat) (d : Nat) (hcm : cm ≤ 600) (hd : d < cm) (hsd : sa d = 1) (hpos : 0 < is (sa d)) : CV l y_SI_take b_SI_take 2 ({ frames := 4, cells := 0, slots := 0, locals := 120 } : Room) D K [.ref x0, .int (nI d)] ([(x0, .inr (6, [.ref s0, .ref l0, .ref p0, .ref k0, .int (nI bf)])), (s0, .inr (4, [.ref t0, .ref a1, .ref a2, .ref a3, .int (nI cm)])), (a1, .inl (K 0, 600, .inl (nA sa))), (a3, .inl (K 0, 4, .inl (nA is)))] : va_W) (q_SI_take_1 K x0 s0 l0 p0 k0 bf t0 a1 a2 a3 cm sa is d) := by
  refine CV_of (by decide) (Nat.le_of_ble_eq_true rfl) ?_
  intro p e s m below meth c A b0 ls hF hA hP hD hl
  have hF2 := hF
  obtain ⟨hx, hb, hr, hml, hown, htw, hK, hlocks, hname⟩ := hF
  have hS : va_S A s.heap s.heap [] := va_S.rf
  have hl : lv_has ls 2 [(0, .ref x0), (1, .int (nI d))] := hl
  refine lv_aload_n hx hb d_SI_take_0 rfl (lv_at hl 0 rfl) ?_
  refine xg hx hb hown htw hK hP 0 0 rfl k_SI (by decide) fl_SI_10 rfl d_SI_take_1 ?_
  refine lv_iload_n hx hb d_SI_take_4 rfl (lv_at hl 1 rfl) ?_
  refine xcV_i (As := [.int (nI d)]) (rest := []) (wr := ([(x0, .inr (6, [.ref s0, .ref l0, .ref p0, .ref k0, .int (nI bf)])), (a3, .inl (K 0, 4, .inl (nA is)))] : va_W)) hx hb hml hown htw hK hA hl.1 hP hD hS (c_Sh_isThere l D K s0 t0 a1 a2 a3 cm sa d (by first | assumption | omega) (by first | assumption | omega) (by first | assumption | omega)) [1, 2] [0, 3] rfl rfl (by decide) (by decide) (by decide) 0 rfl k_Sh ml_SI_98 w_Sh_isThere rfl ⟨by decide, by decide⟩ rfl (Nat.le_of_ble_eq_true rfl) ⟨by decide, by decide⟩ d_SI_take_5 (fun r u H locs hpost hP hD hS => ?_)
  obtain ⟨rfl, rfl⟩ := hpost
  have hP : va_P D classes ([(x0, .inr (6, [.ref s0, .ref l0, .ref p0, .ref k0, .int (nI bf)])), (a3, .inl (K 0, 4, .inl (nA is))), (s0, .inr (4, [.ref t0, .ref a1, .ref a2, .ref a3, .int (nI cm)])), (a1, .inl (K 0, 600, .inl (nA sa)))] : va_W) H := hP
  have hD : va_D A ([(x0, .inr (6, [.ref s0, .ref l0, .ref p0, .ref k0, .int (nI bf)])), (a3, .inl (K 0, 4, .inl (nA is))), (s0, .inr (4, [.ref t0, .ref a1, .ref a2, .ref a3, .int (nI cm)])), (a1, .inl (K 0, 600, .inl (nA sa)))] : va_W) := hD
  refine xz_ne (tgt := 21) (a := bN (sa d ≤ 1)) hx hb (by exact bN_31 _) d_SI_take_8 (by decide) (fun c_8 => ?_) (fun c_8 => ?_)
  · refine lv_aload_n hx hb d_SI_take_21 rfl (lv_at hl 0 rfl) ?_
    refine xg hx hb hown htw hK hP 0 0 rfl k_SI (by decide) fl_SI_10 rfl d_SI_take_22 ?_
    refine lv_iload_n hx hb d_SI_take_25 rfl (lv_at hl 1 rfl) ?_
    refine lv_aload_n hx hb d_SI_take_26 rfl (lv_at hl 0 rfl) ?_
    refine xg hx hb hown htw hK hP 0 0 rfl k_SI (by decide) fl_SI_10 rfl d_SI_take_27 ?_
    refine lv_iload_n hx hb d_SI_take_30 rfl (lv_at hl 1 rfl) ?_
    refine xcV_i (As := [.int (nI d)]) (rest := [.int (nI d), .ref s0]) (wr := ([(x0, .inr (6, [.ref s0, .ref l0, .ref p0, .ref k0, .int (nI bf)])), (a3, .inl (K 0, 4, .inl (nA is)))] : va_W)) hx hb hml hown htw hK hA hl.1 hP hD hS (c_Sh_stateOf l D K s0 t0 a1 a2 a3 cm sa d (by first | assumption | omega) (by first | assumption | omega)) [2, 3] [0, 1] rfl rfl (by decide) (by decide) (by decide) 0 rfl k_Sh ml_SI_107 w_Sh_stateOf rfl ⟨by decide, by decide⟩ rfl (Nat.le_of_ble_eq_true rfl) ⟨by decide, by decide⟩ d_SI_take_31 (fun r u H locs hpost hP hD hS => ?_)
    obtain ⟨rfl, rfl⟩ := hpost
    have hP : va_P D classes ([(x0, .inr (6, [.ref s0, .ref l0, .ref p0, .ref k0, .int (nI bf)])), (a3, .inl (K 0, 4, .inl (nA is))), (s0, .inr (4, [.ref t0, .ref a1, .ref a2, .ref a3, .int (nI cm)])), (a1, .inl (K 0, 600, .inl (nA sa)))] : va_W) H := hP
    have hD : va_D A ([(x0, .inr (6, [.ref s0, .ref l0, .ref p0, .ref k0, .int (nI bf)])), (a3, .inl (K 0, 4, .inl (nA is))), (s0, .inr (4, [.ref t0, .ref a1, .ref a2, .ref a3, .int (nI cm)])), (a1, .inl (K 0, 600, .inl (nA sa)))] : va_W) := hD
    refine xz_ne (tgt := 41) (a := sa d) hx hb (by omega) d_SI_take_34 (by decide) (fun c_34 => ?_) (fun c_34 => ?_)
    · refine lv_iconst (v := nI 2) hx hb d_SI_take_41 (by decide) ?_
      refine xcV_v (As := [.int (nI d), .int (nI 2)]) (rest := []) (wr := ([(x0, .inr (6, [.ref s0, .ref l0, .ref p0, .ref k0, .int (nI bf)]))] : va_W)) hx hb hml hown htw hK hA hl.1 hP hD hS (c_Sh_move l D K s0 t0 a1 a2 a3 cm sa is d 2 (by first | assumption | omega) (by first | assumption | omega) (by first | assumption | omega) (by first | assumption | omega) (by first | assumption | omega)) [2, 3, 1] [0] rfl rfl (by decide) (by decide) (by decide) 0 rfl k_Sh ml_SI_111 w_Sh_move rfl ⟨by decide, by decide⟩ rfl (Nat.le_of_ble_eq_true rfl) ⟨by decide, by decide⟩ d_SI_take_42 (fun u H locs hpost hP hD hS => ?_)
      subst hpost
      have hP : va_P D classes ([(x0, .inr (6, [.ref s0, .ref l0, .ref p0, .ref k0, .int (nI bf)])), (s0, .inr (4, [.ref t0, .ref a1, .ref a2, .ref a3, .int (nI cm)])), (a1, .inl (K 0, 600, .inl (nA (va_up sa d 2)))), (a3, .inl (K 0, 4, .inl (nA (mvC is (sa d) 2))))] : va_W) H := hP
      have hD : va_D A ([(x0, .inr (6, [.ref s0, .ref l0, .ref p0, .ref k0, .int (nI bf)])), (s0, .inr (4, [.ref t0, .ref a1, .ref a2, .ref a3, .int (nI cm)])), (a1, .inl (K 0, 600, .inl (nA (va_up sa d 2)))), (a3, .inl (K 0, 4, .inl (nA (mvC is (sa d) 2))))] : va_W) := hD
      exact xr_vret hx hb hr hlocks hP hD hS (Nat.le_of_ble_eq_true rfl) (Nat.le_of_ble_eq_true rfl) (rfl) d_SI_take_45
    · omega
  · exact absurd (show sa d ≤ 1 by omega) (bN_0.mp c_8)

abbrev q_SI_drop_ok (K : Nat → ClassId) (x0 : Nat) (s0 : Nat) (l0 : Nat) (p0 : Nat) (k0 : Nat) (bf : Nat) (p1 : Nat) (ht : Nat) : Int32 → va_W → Prop := fun r u => u = ([(x0, .inr (6, [.ref s0, .ref l0, .ref p0, .ref k0, .int (nI bf)])), (p0, .inr (2, [.ref p1, .int (nI (ht - 1))]))] : va_W) ∧ r = nI (ht - 1)
set_option maxHeartbeats 4000000 in
set_option maxRecDepth 100000 in
theorem c_SI_drop_ok (l : Launch) (D : va_G) (K : Nat → ClassId) (x0 : Nat) (s0 : Nat) (l0 : Nat) (p0 : Nat) (k0 : Nat) (bf : Nat) (p1 : Nat) (ht : Nat) (h0 : 0 < ht) (h8 : ht ≤ 8) : CI l y_SI_drop b_SI_drop 1 .int ({ frames := 4, cells := 0, slots := 0, locals := 120 } : Room) D K [.ref x0] ([(x0, .inr (6, [.ref s0, .ref l0, .ref p0, .ref k0, .int (nI bf)])), (p0, .inr (2, [.ref p1, .int (nI ht)]))] : va_W) (q_SI_drop_ok K x0 s0 l0 p0 k0 bf p1 ht) := by
  refine CI_of (by decide) (Nat.le_of_ble_eq_true rfl) ?_
  intro p e s m below meth c A b0 ls hF hA hP hD hl
  have hF2 := hF
  obtain ⟨hx, hb, hr, hml, hown, htw, hK, hlocks, hname⟩ := hF
  have hS : va_S A s.heap s.heap [] := va_S.rf
  have hl : lv_has ls 1 [(0, .ref x0)] := hl
  refine lv_aload_n hx hb d_SI_drop_0 rfl (lv_at hl 0 rfl) ?_
  refine xg hx hb hown htw hK hP 0 2 rfl k_SI (by decide) fl_SI_26 rfl d_SI_drop_1 ?_
  refine xg hx hb hown htw hK hP 1 1 rfl k_Pl (by decide) fl_SI_129 rfl d_SI_drop_4 ?_
  refine lv_iconst (v := nI 1) hx hb d_SI_drop_7 (by decide) ?_
  refine xc_ge (tgt := 21) (a := ht) (b := 1) hx hb (by omega) (by omega) d_SI_drop_8 (by decide) (fun c_8 => ?_) (fun c_8 => ?_)
  · refine lv_aload_n hx hb d_SI_drop_21 rfl (lv_at hl 0 rfl) ?_
    refine xg hx hb hown htw hK hP 0 2 rfl k_SI (by decide) fl_SI_26 rfl d_SI_drop_22 ?_
    refine lv_dup hx hb d_SI_drop_25 rfl ?_
    refine xg hx hb hown htw hK hP 1 1 rfl k_Pl (by decide) fl_SI_129 rfl d_SI_drop_26 ?_
    refine lv_iconst (v := nI 1) hx hb d_SI_drop_29 (by decide) ?_
    refine lv_isub hx hb d_SI_drop_30 ?_
    refine xi (nI_sub (a := ht) (b := 1) (by omega)) ?_
    refine xpt hx hb hown htw hK hP hD hS 1 1 rfl k_Pl (by decide) fl_SI_129 rfl rfl rfl (Nat.le_of_ble_eq_true rfl) d_SI_drop_31 (fun H locs hP hD hS => ?_)
    have hP : va_P D classes ([(x0, .inr (6, [.ref s0, .ref l0, .ref p0, .ref k0, .int (nI bf)])), (p0, .inr (2, [.ref p1, .int (nI (ht - 1))]))] : va_W) H := hP
    have hD : va_D A ([(x0, .inr (6, [.ref s0, .ref l0, .ref p0, .ref k0, .int (nI bf)])), (p0, .inr (2, [.ref p1, .int (nI (ht - 1))]))] : va_W) := hD
    refine lv_aload_n hx hb d_SI_drop_34 rfl (lv_at hl 0 rfl) ?_
    refine xg hx hb hown htw hK hP 0 2 rfl k_SI (by decide) fl_SI_26 rfl d_SI_drop_35 ?_
    refine xg hx hb hown htw hK hP 1 1 rfl k_Pl (by decide) fl_SI_129 rfl d_SI_drop_38 ?_
    exact xr_iret hx hb hr hlocks hP hD hS (Nat.le_of_ble_eq_true rfl) (Nat.le_of_ble_eq_true rfl) (⟨rfl, rfl⟩) d_SI_drop_41
  · omega

abbrev q_SI_add_n (K : Nat → ClassId) (x0 : Nat) (s0 : Nat) (l0 : Nat) (p0 : Nat) (k0 : Nat) (bf : Nat) (t0 : Nat) (a1 : Nat) (a2 : Nat) (a3 : Nat) (cm : Nat) (b1 : Nat) (b2 : Nat) (T : Nat) (sa : Nat → Nat) (st : Nat → Nat) (is : Nat → Nat) : Int32 → va_W → Prop := fun r u => u = ([(x0, .inr (6, [.ref s0, .ref l0, .ref p0, .ref k0, .int (nI bf)])), (s0, .inr (4, [.ref t0, .ref a1, .ref a2, .ref a3, .int (nI (cm + 1))])), (t0, .inr (5, [.ref b1, .ref b2, .int (nI T)])), (a1, .inl (K 0, 600, .inl (nA (va_up sa cm 0)))), (a2, .inl (K 0, 601, .inl (nA (va_up st (cm + 1) T)))), (a3, .inl (K 0, 4, .inl (nA (va_up is 0 (is 0 + 1)))))] : va_W) ∧ r = nI cm
set_option maxHeartbeats 4000000 in
set_option maxRecDepth 100000 in
theorem c_SI_add_n (l : Launch) (D : va_G) (K : Nat → ClassId) (x0 : Nat) (s0 : Nat) (l0 : Nat) (p0 : Nat) (k0 : Nat) (bf : Nat) (t0 : Nat) (a1 : Nat) (a2 : Nat) (a3 : Nat) (cm : Nat) (b1 : Nat) (b2 : Nat) (T : Nat) (sa : Nat → Nat) (st : Nat → Nat) (is : Nat → Nat) (hcm : cm < 600) (hT : T ≤ 512) (hi0 : is 0 + 1 < 12) : CI l y_SI_add b_SI_add 2 .int ({ frames := 12, cells := 2, slots := 20, locals := 480 } : Room) D K [.ref x0] ([(x0, .inr (6, [.ref s0, .ref l0, .ref p0, .ref k0, .int (nI bf)])), (s0, .inr (4, [.ref t0, .ref a1, .ref a2, .ref a3, .int (nI cm)])), (t0, .inr (5, [.ref b1, .ref b2, .int (nI T)])), (a1, .inl (K 0, 600, .inl (nA sa))), (a2, .inl (K 0, 601, .inl (nA st))), (a3, .inl (K 0, 4, .inl (nA is)))] : va_W) (q_SI_add_n K x0 s0 l0 p0 k0 bf t0 a1 a2 a3 cm b1 b2 T sa st is) := by
  refine CI_of (by decide) (Nat.le_of_ble_eq_true rfl) ?_
  intro p e s m below meth c A b0 ls hF hA hP hD hl
  have hF2 := hF
  obtain ⟨hx, hb, hr, hml, hown, htw, hK, hlocks, hname⟩ := hF
  have hS : va_S A s.heap s.heap [] := va_S.rf
  have hl : lv_has ls 2 [(0, .ref x0)] := hl
  refine lv_aload_n hx hb d_SI_add_0 rfl (lv_at hl 0 rfl) ?_
  refine xg hx hb hown htw hK hP 0 0 rfl k_SI (by decide) fl_SI_10 rfl d_SI_add_1 ?_
  refine xg hx hb hown htw hK hP 1 4 rfl k_Sh (by decide) fl_SI_48 rfl d_SI_add_4 ?_
  refine lv_sipush (v := nI 600) hx hb d_SI_add_7 (by decide) ?_
  refine xc_lt (tgt := 23) (a := cm) (b := 600) hx hb (by omega) (by omega) d_SI_add_10 (by decide) (fun c_10 => ?_) (fun c_10 => ?_)
  · refine lv_aload_n hx hb d_SI_add_23 rfl (lv_at hl 0 rfl) ?_
    refine xg hx hb hown htw hK hP 0 0 rfl k_SI (by decide) fl_SI_10 rfl d_SI_add_24 ?_
    refine xcV_i (As := []) (rest := []) (wr := ([(x0, .inr (6, [.ref s0, .ref l0, .ref p0, .ref k0, .int (nI bf)]))] : va_W)) hx hb hml hown htw hK hA hl.1 hP hD hS (c_Sh_bringHand l D K s0 t0 a1 a2 a3 cm b1 b2 T sa st is (by first | assumption | omega) (by first | assumption | omega)) [1, 2, 3, 4, 5] [0] rfl rfl (by decide) (by decide) (by decide) 0 rfl k_Sh ml_SI_88 w_Sh_bringHand rfl ⟨by decide, by decide⟩ rfl (Nat.le_of_ble_eq_true rfl) ⟨by decide, by decide⟩ d_SI_add_27 (fun r u H locs hpost hP hD hS => ?_)
    obtain ⟨rfl, rfl⟩ := hpost
    have hP : va_P D classes ([(x0, .inr (6, [.ref s0, .ref l0, .ref p0, .ref k0, .int (nI bf)])), (s0, .inr (4, [.ref t0, .ref a1, .ref a2, .ref a3, .int (nI (cm + 1))])), (t0, .inr (5, [.ref b1, .ref b2, .int (nI T)])), (a1, .inl (K 0, 600, .inl (nA (va_up sa cm 0)))), (a2, .inl (K 0, 601, .inl (nA (va_up st (cm + 1) T)))), (a3, .inl (K 0, 4, .inl (nA (va_up is 0 (is 0 + 1)))))] : va_W) H := hP
    have hD : va_D A ([(x0, .inr (6, [.ref s0, .ref l0, .ref p0, .ref k0, .int (nI bf)])), (s0, .inr (4, [.ref t0, .ref a1, .ref a2, .ref a3, .int (nI (cm + 1))])), (t0, .inr (5, [.ref b1, .ref b2, .int (nI T)])), (a1, .inl (K 0, 600, .inl (nA (va_up sa cm 0)))), (a2, .inl (K 0, 601, .inl (nA (va_up st (cm + 1) T)))), (a3, .inl (K 0, 4, .inl (nA (va_up is 0 (is 0 + 1)))))] : va_W) := hD
    refine lv_istore_n (lv' := [(1, .int (nI cm)), (0, .ref x0)]) hx hb d_SI_add_30 rfl hl (by decide) rfl (fun ls hl => ?_)
    refine lv_aload_n hx hb d_SI_add_31 rfl (lv_at hl 1 rfl) ?_
    refine xg hx hb hown htw hK hP 0 0 rfl k_SI (by decide) fl_SI_10 rfl d_SI_add_32 ?_
    refine xg hx hb hown htw hK hP 1 3 rfl k_Sh (by decide) fl_SI_91 rfl d_SI_add_35 ?_
    refine lv_iconst (v := nI 0) hx hb d_SI_add_38 (by decide) ?_
    refine xald_i hx hb hK hP 5 rfl (by omega) (by omega) d_SI_add_39 ?_
    refine xi (y := nI ((va_up is 0 (is 0 + 1)) 0)) rfl ?_
    refine lv_bipush (v := nI 12) hx hb d_SI_add_40 (by decide) ?_
    refine xc_lt (tgt := 49) (a := (va_up is 0 (is 0 + 1)) 0) (b := 12) hx hb (by rw [va_up_self]; omega) (by omega) d_SI_add_42 (by decide) (fun c_42 => ?_) (fun c_42 => ?_)
    · refine lv_iload_n hx hb d_SI_add_49 rfl (lv_at hl 0 rfl) ?_
      exact xr_iret hx hb hr hlocks hP hD hS (Nat.le_of_ble_eq_true rfl) (Nat.le_of_ble_eq_true rfl) (⟨rfl, rfl⟩) d_SI_add_50
    · rw [va_up_self] at c_42; omega
  · omega


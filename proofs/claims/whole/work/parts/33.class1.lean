theorem neg_nI (n : Nat) : -(nI n) = zI (-(n : Int)) := by
  rw [nI_zI]
  exact (Int32.ofInt_neg _).symm
/-- the keys of the documents of a set -/
def rkE (z : Nat) (g : Nat → Nat) (i : Nat) : Prop := z ≤ i + 1 ∨ ¬ g (i + 1) / 2 ^ 14 = g i / 2 ^ 14
def rkK (h d : Nat) : Int64 := ((-(nI h)).toInt64 <<< ((nI 10).toInt64 &&& 63)) ||| (nI d).toInt64
noncomputable def rkS (f : Nat → Int64) (z : Nat) (g : Nat → Nat) : Nat → Nat × Nat × (Nat → Int64)
  | 0 => (0, 0, f)
  | i + 1 => @ite (Nat × Nat × (Nat → Int64)) (rkE z g i) (Classical.propDecidable _) (0, (rkS f z g i).2.1 + 1, vp_updL (rkS f z g i).2.2 (rkS f z g i).2.1 (rkK ((rkS f z g i).1 + 1) (g i / 2 ^ 14))) ((rkS f z g i).1 + 1, (rkS f z g i).2.1, (rkS f z g i).2.2)
theorem rkS_y {f : Nat → Int64} {z : Nat} {g : Nat → Nat} {i : Nat} (h : rkE z g i) : rkS f z g (i + 1) = (0, (rkS f z g i).2.1 + 1, vp_updL (rkS f z g i).2.2 (rkS f z g i).2.1 (rkK ((rkS f z g i).1 + 1) (g i / 2 ^ 14))) := if_pos h
theorem rkS_n {f : Nat → Int64} {z : Nat} {g : Nat → Nat} {i : Nat} (h : ¬ rkE z g i) : rkS f z g (i + 1) = ((rkS f z g i).1 + 1, (rkS f z g i).2.1, (rkS f z g i).2.2) := if_neg h
theorem rkS_le (f : Nat → Int64) (z : Nat) (g : Nat → Nat) : ∀ i, (rkS f z g i).2.1 ≤ i
  | 0 => Nat.le_refl _
  | i + 1 => by
    have := rkS_le f z g i
    by_cases h : rkE z g i
    · rw [rkS_y h]; show _ + 1 ≤ _; omega
    · rw [rkS_n h]; show (rkS f z g i).2.1 ≤ _; omega
/-- a token in hand that is there stands just before its place -/
theorem hand_dup {ch : Nat → Nat} {ct : Nat → Int64} {s T x pp : Nat} {y : Int64} (hs : ∀ i j, s ≤ i → i < j → j < T → ch i < ch j ∨ (ch i = ch j ∧ ct i < ct j)) (hp1 : s ≤ pp) (hp2 : pp ≤ T) (hp3 : ∀ k, pp ≤ k → k < T → (x < ch k ∨ (ch k = x ∧ y < ct k))) (hp4 : s < pp → ¬ (x < ch (pp - 1) ∨ (ch (pp - 1) = x ∧ y < ct (pp - 1)))) (hd : ∃ i, s ≤ i ∧ i < T ∧ ch i = x ∧ ct i = y) : s < pp ∧ ch (pp - 1) = x ∧ ct (pp - 1) = y := by
  obtain ⟨i, h1, h2, h3, h4⟩ := hd
  have hi : i < pp := by
    rcases Nat.lt_or_ge i pp with q | q
    · exact q
    · rcases hp3 i q h2 with w | w
      · omega
      · rw [h4] at w
        exact absurd w.2 Int64.lt_irrefl
  have hsp : s < pp := by omega
  have h5 := hp4 hsp
  rcases Nat.lt_or_ge i (pp - 1) with q | q
  · exfalso
    apply h5
    rcases hs i (pp - 1) h1 q (by omega) with w | w
    · exact Or.inl (by omega)
    · exact Or.inr ⟨by omega, by rw [← h4]; exact w.2⟩
  · have e : i = pp - 1 := by omega
    rw [← e]
    exact ⟨hsp, h3, h4⟩
theorem st_mem_same {z : Nat} {g h : Nat → Nat} {v : Nat} (hc : ∀ k, k < z → g k = h k) : st_mem z g v ↔ st_mem z h v := ⟨fun ⟨k, h1, h2⟩ => ⟨k, h1, by rw [← hc k h1]; exact h2⟩, fun ⟨k, h1, h2⟩ => ⟨k, h1, by rw [hc k h1]; exact h2⟩⟩
abbrev q_joinInto_0 (K : Nat → ClassId) (a_m : Nat) (b_m : Nat) (z_m : Nat) (g_m : Nat → Nat) (a_x : Nat) (b_x : Nat) (z_x : Nat) (g_x : Nat → Nat) (a_y : Nat) (b_y : Nat) (z_y : Nat) (g_y : Nat → Nat) (t : Nat) (T : Nat → Nat) : va_W → Prop := fun u => ∃ z' : Nat, ∃ g' : Nat → Nat, u = ([(a_m, .inr (0, [.ref b_m, .int (nI z')])), (b_m, .inl (K 0, 512, .inl (nA g'))), (a_x, .inr (0, [.ref b_x, .int (nI z_x)])), (b_x, .inl (K 0, 512, .inl (nA g_x))), (a_y, .inr (0, [.ref b_y, .int (nI z_y)])), (b_y, .inl (K 0, 512, .inl (nA g_y)))] : va_W) ∧ (st_inc z' g') ∧ (∀ v, st_mem z' g' v ↔ ((st_mem z_x g_x v ∨ st_mem z_y g_y v) ∧ 1 = bN (∃ k, k < z_x ∧ g_x k / 2 ^ 14 = v / 2 ^ 14)) ∧ 1 = bN (∃ k, k < z_y ∧ g_y k / 2 ^ 14 = v / 2 ^ 14))
set_option maxHeartbeats 4000000 in
set_option maxRecDepth 100000 in
theorem c_joinInto_0 (l : Launch) (D : va_G) (K : Nat → ClassId) (a_m : Nat) (b_m : Nat) (z_m : Nat) (g_m : Nat → Nat) (a_x : Nat) (b_x : Nat) (z_x : Nat) (g_x : Nat → Nat) (a_y : Nat) (b_y : Nat) (z_y : Nat) (g_y : Nat → Nat) (t : Nat) (T : Nat → Nat) (hz_x : z_x ≤ 512) (hb_x : ∀ k, k < z_x → g_x k < 2 ^ 24) (hi_x : st_inc z_x g_x) (hz_y : z_y ≤ 512) (hb_y : ∀ k, k < z_y → g_y k < 2 ^ 24) (hi_y : st_inc z_y g_y) (ht : t < 512) (hT : ∀ v, (st_mem z_x g_x v ∨ st_mem z_y g_y v) → st_mem t T v) : CV l y_SI_joinInto b_SI_joinInto 4 ({ frames := 4, cells := 0, slots := 0, locals := 140 } : Room) D K [.ref a_m, .ref a_x, .ref a_y, .int (nI 0)] ([(a_m, .inr (0, [.ref b_m, .int (nI z_m)])), (b_m, .inl (K 0, 512, .inl (nA g_m))), (a_x, .inr (0, [.ref b_x, .int (nI z_x)])), (b_x, .inl (K 0, 512, .inl (nA g_x))), (a_y, .inr (0, [.ref b_y, .int (nI z_y)])), (b_y, .inl (K 0, 512, .inl (nA g_y)))] : va_W) (q_joinInto_0 K a_m b_m z_m g_m a_x b_x z_x g_x a_y b_y z_y g_y t T) := by
  refine CV_of (by decide) (Nat.le_of_ble_eq_true rfl) ?_
  intro p e s m below meth c A b0 ls hF hA hP hD hl
  have hF2 := hF
  obtain ⟨hx, hb, hr, hml, hown, htw, hK, hlocks, hname⟩ := hF
  have hS : va_S A s.heap s.heap [] := va_S.rf
  have hl : lv_has ls 4 [(0, .ref a_m), (1, .ref a_x), (2, .ref a_y), (3, .int (nI 0))] := hl
  refine lv_iload_n hx hb d_SI_joinInto_0 rfl (lv_at hl 3 rfl) ?_
  refine lv_tableIn (off := 27) (tgt := 28) hx hb d_SI_joinInto_1 (by decide) (by decide) rfl (by decide) ?_
  refine lv_aload_n hx hb d_SI_joinInto_28 rfl (lv_at hl 0 rfl) ?_
  refine lv_aload_n hx hb d_SI_joinInto_29 rfl (lv_at hl 1 rfl) ?_
  refine lv_aload_n hx hb d_SI_joinInto_30 rfl (lv_at hl 2 rfl) ?_
  refine xcV_v (As := [.ref a_x, .ref a_y]) (rest := []) (wr := ([] : va_W)) hx hb hml hown htw hK hA hl.1 hP hD hS (c_HS_unite l D K a_m b_m z_m 512 g_m a_x b_x z_x 512 g_x a_y b_y z_y 512 g_y t T (by first | assumption | omega) (by exact hz_x) (by first | assumption | omega) (by exact hz_y) (by first | assumption | omega) (by exact fun k hk => Nat.lt_trans (hb_x k hk) (by decide)) (by exact fun k hk => Nat.lt_trans (hb_y k hk) (by decide)) (by exact hi_x) (by exact hi_y) (by exact ht) (by exact hT)) [0, 1, 2, 3, 4, 5] [] rfl rfl (by decide) (by decide) (by decide) 0 rfl k_HS ml_SI_255 w_HS_unite rfl ⟨by decide, by decide⟩ rfl (Nat.le_of_ble_eq_true rfl) ⟨by decide, by decide⟩ d_SI_joinInto_31 (fun u H locs hpost hP hD hS => ?_)
  obtain ⟨z'_31, g'_31, rfl, hin_31, hmem_31⟩ := hpost
  have hP : va_P D classes ([(a_m, .inr (0, [.ref b_m, .int (nI z'_31)])), (b_m, .inl (K 0, 512, .inl (nA g'_31))), (a_x, .inr (0, [.ref b_x, .int (nI z_x)])), (b_x, .inl (K 0, 512, .inl (nA g_x))), (a_y, .inr (0, [.ref b_y, .int (nI z_y)])), (b_y, .inl (K 0, 512, .inl (nA g_y)))] : va_W) H := hP
  have hD : va_D A ([(a_m, .inr (0, [.ref b_m, .int (nI z'_31)])), (b_m, .inl (K 0, 512, .inl (nA g'_31))), (a_x, .inr (0, [.ref b_x, .int (nI z_x)])), (b_x, .inl (K 0, 512, .inl (nA g_x))), (a_y, .inr (0, [.ref b_y, .int (nI z_y)])), (b_y, .inl (K 0, 512, .inl (nA g_y)))] : va_W) := hD
  have hb31 : ∀ k, k < z'_31 → g'_31 k < 2 ^ 24 := (fun k hk => ((hmem_31 _).mp ⟨k, hk, rfl⟩).elim (fun ⟨j, j1, j2⟩ => by rw [← j2]; exact hb_x j j1) (fun ⟨j, j1, j2⟩ => by rw [← j2]; exact hb_y j j1))
  refine lv_aload_n hx hb d_SI_joinInto_34 rfl (lv_at hl 0 rfl) ?_
  refine lv_aload_n hx hb d_SI_joinInto_35 rfl (lv_at hl 1 rfl) ?_
  refine lv_iconst (v := nI 1) hx hb d_SI_joinInto_36 (by decide) ?_
  refine xcV_v (As := [.ref a_x, .int (nI 1)]) (rest := []) (wr := ([(a_y, .inr (0, [.ref b_y, .int (nI z_y)])), (b_y, .inl (K 0, 512, .inl (nA g_y)))] : va_W)) hx hb hml hown htw hK hA hl.1 hP hD hS (c_HS_keepByDocument l D K a_m b_m z'_31 512 g'_31 a_x b_x z_x 512 g_x 1 (by exact Nat.le_of_lt (Nat.lt_of_le_of_lt (st_card hin_31 (fun x hx => hT x ((hmem_31 x).mp hx))) ht)) (by first | assumption | omega) (by exact hb31) (by exact hin_31) (by exact hz_x) (by first | assumption | omega) (by exact hb_x) (by exact hi_x) (by first | assumption | omega)) [0, 1, 2, 3] [4, 5] rfl rfl (by decide) (by decide) (by decide) 0 rfl k_HS ml_SI_259 w_HS_keepByDocument rfl ⟨by decide, by decide⟩ rfl (Nat.le_of_ble_eq_true rfl) ⟨by decide, by decide⟩ d_SI_joinInto_37 (fun u H locs hpost hP hD hS => ?_)
  obtain ⟨z'_37, g'_37, rfl, hin_37, hmem_37, hle_37⟩ := hpost
  have hP : va_P D classes ([(a_y, .inr (0, [.ref b_y, .int (nI z_y)])), (b_y, .inl (K 0, 512, .inl (nA g_y))), (a_m, .inr (0, [.ref b_m, .int (nI z'_37)])), (b_m, .inl (K 0, 512, .inl (nA g'_37))), (a_x, .inr (0, [.ref b_x, .int (nI z_x)])), (b_x, .inl (K 0, 512, .inl (nA g_x)))] : va_W) H := hP
  have hD : va_D A ([(a_y, .inr (0, [.ref b_y, .int (nI z_y)])), (b_y, .inl (K 0, 512, .inl (nA g_y))), (a_m, .inr (0, [.ref b_m, .int (nI z'_37)])), (b_m, .inl (K 0, 512, .inl (nA g'_37))), (a_x, .inr (0, [.ref b_x, .int (nI z_x)])), (b_x, .inl (K 0, 512, .inl (nA g_x)))] : va_W) := hD
  refine lv_aload_n hx hb d_SI_joinInto_40 rfl (lv_at hl 0 rfl) ?_
  refine lv_aload_n hx hb d_SI_joinInto_41 rfl (lv_at hl 2 rfl) ?_
  refine lv_iconst (v := nI 1) hx hb d_SI_joinInto_42 (by decide) ?_
  refine xcV_v (As := [.ref a_y, .int (nI 1)]) (rest := []) (wr := ([(a_x, .inr (0, [.ref b_x, .int (nI z_x)])), (b_x, .inl (K 0, 512, .inl (nA g_x)))] : va_W)) hx hb hml hown htw hK hA hl.1 hP hD hS (c_HS_keepByDocument l D K a_m b_m z'_37 512 g'_37 a_y b_y z_y 512 g_y 1 (by have := hle_37; have := st_card hin_31 (fun x hx => hT x ((hmem_31 x).mp hx)); omega) (by first | assumption | omega) (by exact fun k hk => by obtain ⟨j, j1, j2⟩ := ((hmem_37 _).mp ⟨k, hk, rfl⟩).1; rw [← j2]; exact hb31 j j1) (by exact hin_37) (by exact hz_y) (by first | assumption | omega) (by exact hb_y) (by exact hi_y) (by first | assumption | omega)) [2, 3, 0, 1] [4, 5] rfl rfl (by decide) (by decide) (by decide) 0 rfl k_HS ml_SI_259 w_HS_keepByDocument rfl ⟨by decide, by decide⟩ rfl (Nat.le_of_ble_eq_true rfl) ⟨by decide, by decide⟩ d_SI_joinInto_43 (fun u H locs hpost hP hD hS => ?_)
  obtain ⟨z'_43, g'_43, rfl, hin_43, hmem_43, hle_43⟩ := hpost
  have hP : va_P D classes ([(a_x, .inr (0, [.ref b_x, .int (nI z_x)])), (b_x, .inl (K 0, 512, .inl (nA g_x))), (a_m, .inr (0, [.ref b_m, .int (nI z'_43)])), (b_m, .inl (K 0, 512, .inl (nA g'_43))), (a_y, .inr (0, [.ref b_y, .int (nI z_y)])), (b_y, .inl (K 0, 512, .inl (nA g_y)))] : va_W) H := hP
  have hD : va_D A ([(a_x, .inr (0, [.ref b_x, .int (nI z_x)])), (b_x, .inl (K 0, 512, .inl (nA g_x))), (a_m, .inr (0, [.ref b_m, .int (nI z'_43)])), (b_m, .inl (K 0, 512, .inl (nA g'_43))), (a_y, .inr (0, [.ref b_y, .int (nI z_y)])), (b_y, .inl (K 0, 512, .inl (nA g_y)))] : va_W) := hD
  refine lv_goto (tgt := 86) hx hb d_SI_joinInto_46 (by decide) ?_
  obtain ⟨hP, hD⟩ := xp (ws' := [(a_m, .inr (0, [.ref b_m, .int (nI z'_43)])), (b_m, .inl (K 0, 512, .inl (nA g'_43))), (a_x, .inr (0, [.ref b_x, .int (nI z_x)])), (b_x, .inl (K 0, 512, .inl (nA g_x))), (a_y, .inr (0, [.ref b_y, .int (nI z_y)])), (b_y, .inl (K 0, 512, .inl (nA g_y)))]) hP hD [2, 3, 0, 1, 4, 5] (by decide) rfl
  exact xr_vret hx hb hr hlocks hP hD hS (Nat.le_of_ble_eq_true rfl) (Nat.le_of_ble_eq_true rfl) (⟨_, _, rfl, hin_43, fun v => (hmem_43 v).trans (and_congr_left fun _ => (hmem_37 v).trans (and_congr_left fun _ => hmem_31 v))⟩) d_SI_joinInto_86

abbrev q_joinInto_1 (K : Nat → ClassId) (a_m : Nat) (b_m : Nat) (z_m : Nat) (g_m : Nat → Nat) (a_x : Nat) (b_x : Nat) (z_x : Nat) (g_x : Nat → Nat) (a_y : Nat) (b_y : Nat) (z_y : Nat) (g_y : Nat → Nat) (t : Nat) (T : Nat → Nat) : va_W → Prop := fun u => ∃ z' : Nat, ∃ g' : Nat → Nat, u = ([(a_m, .inr (0, [.ref b_m, .int (nI z')])), (b_m, .inl (K 0, 512, .inl (nA g'))), (a_x, .inr (0, [.ref b_x, .int (nI z_x)])), (b_x, .inl (K 0, 512, .inl (nA g_x))), (a_y, .inr (0, [.ref b_y, .int (nI z_y)])), (b_y, .inl (K 0, 512, .inl (nA g_y)))] : va_W) ∧ (st_inc z' g') ∧ (∀ v, st_mem z' g' v ↔ st_mem z_x g_x v ∨ st_mem z_y g_y v)
set_option maxHeartbeats 4000000 in
set_option maxRecDepth 100000 in
theorem c_joinInto_1 (l : Launch) (D : va_G) (K : Nat → ClassId) (a_m : Nat) (b_m : Nat) (z_m : Nat) (g_m : Nat → Nat) (a_x : Nat) (b_x : Nat) (z_x : Nat) (g_x : Nat → Nat) (a_y : Nat) (b_y : Nat) (z_y : Nat) (g_y : Nat → Nat) (t : Nat) (T : Nat → Nat) (hz_x : z_x ≤ 512) (hb_x : ∀ k, k < z_x → g_x k < 2 ^ 24) (hi_x : st_inc z_x g_x) (hz_y : z_y ≤ 512) (hb_y : ∀ k, k < z_y → g_y k < 2 ^ 24) (hi_y : st_inc z_y g_y) (ht : t < 512) (hT : ∀ v, (st_mem z_x g_x v ∨ st_mem z_y g_y v) → st_mem t T v) : CV l y_SI_joinInto b_SI_joinInto 4 ({ frames := 4, cells := 0, slots := 0, locals := 140 } : Room) D K [.ref a_m, .ref a_x, .ref a_y, .int (nI 1)] ([(a_m, .inr (0, [.ref b_m, .int (nI z_m)])), (b_m, .inl (K 0, 512, .inl (nA g_m))), (a_x, .inr (0, [.ref b_x, .int (nI z_x)])), (b_x, .inl (K 0, 512, .inl (nA g_x))), (a_y, .inr (0, [.ref b_y, .int (nI z_y)])), (b_y, .inl (K 0, 512, .inl (nA g_y)))] : va_W) (q_joinInto_1 K a_m b_m z_m g_m a_x b_x z_x g_x a_y b_y z_y g_y t T) := by
  refine CV_of (by decide) (Nat.le_of_ble_eq_true rfl) ?_
  intro p e s m below meth c A b0 ls hF hA hP hD hl
  have hF2 := hF
  obtain ⟨hx, hb, hr, hml, hown, htw, hK, hlocks, hname⟩ := hF
  have hS : va_S A s.heap s.heap [] := va_S.rf
  have hl : lv_has ls 4 [(0, .ref a_m), (1, .ref a_x), (2, .ref a_y), (3, .int (nI 1))] := hl
  refine lv_iload_n hx hb d_SI_joinInto_0 rfl (lv_at hl 3 rfl) ?_
  refine lv_tableIn (off := 48) (tgt := 49) hx hb d_SI_joinInto_1 (by decide) (by decide) rfl (by decide) ?_
  refine lv_aload_n hx hb d_SI_joinInto_49 rfl (lv_at hl 0 rfl) ?_
  refine lv_aload_n hx hb d_SI_joinInto_50 rfl (lv_at hl 1 rfl) ?_
  refine lv_aload_n hx hb d_SI_joinInto_51 rfl (lv_at hl 2 rfl) ?_
  refine xcV_v (As := [.ref a_x, .ref a_y]) (rest := []) (wr := ([] : va_W)) hx hb hml hown htw hK hA hl.1 hP hD hS (c_HS_unite l D K a_m b_m z_m 512 g_m a_x b_x z_x 512 g_x a_y b_y z_y 512 g_y t T (by first | assumption | omega) (by exact hz_x) (by first | assumption | omega) (by exact hz_y) (by first | assumption | omega) (by exact fun k hk => Nat.lt_trans (hb_x k hk) (by decide)) (by exact fun k hk => Nat.lt_trans (hb_y k hk) (by decide)) (by exact hi_x) (by exact hi_y) (by exact ht) (by exact hT)) [0, 1, 2, 3, 4, 5] [] rfl rfl (by decide) (by decide) (by decide) 0 rfl k_HS ml_SI_255 w_HS_unite rfl ⟨by decide, by decide⟩ rfl (Nat.le_of_ble_eq_true rfl) ⟨by decide, by decide⟩ d_SI_joinInto_52 (fun u H locs hpost hP hD hS => ?_)
  obtain ⟨z'_52, g'_52, rfl, hin_52, hmem_52⟩ := hpost
  have hP : va_P D classes ([(a_m, .inr (0, [.ref b_m, .int (nI z'_52)])), (b_m, .inl (K 0, 512, .inl (nA g'_52))), (a_x, .inr (0, [.ref b_x, .int (nI z_x)])), (b_x, .inl (K 0, 512, .inl (nA g_x))), (a_y, .inr (0, [.ref b_y, .int (nI z_y)])), (b_y, .inl (K 0, 512, .inl (nA g_y)))] : va_W) H := hP
  have hD : va_D A ([(a_m, .inr (0, [.ref b_m, .int (nI z'_52)])), (b_m, .inl (K 0, 512, .inl (nA g'_52))), (a_x, .inr (0, [.ref b_x, .int (nI z_x)])), (b_x, .inl (K 0, 512, .inl (nA g_x))), (a_y, .inr (0, [.ref b_y, .int (nI z_y)])), (b_y, .inl (K 0, 512, .inl (nA g_y)))] : va_W) := hD
  refine lv_goto (tgt := 86) hx hb d_SI_joinInto_55 (by decide) ?_
  exact xr_vret hx hb hr hlocks hP hD hS (Nat.le_of_ble_eq_true rfl) (Nat.le_of_ble_eq_true rfl) (⟨_, _, rfl, hin_52, hmem_52⟩) d_SI_joinInto_86

abbrev q_joinInto_2 (K : Nat → ClassId) (a_m : Nat) (b_m : Nat) (z_m : Nat) (g_m : Nat → Nat) (a_x : Nat) (b_x : Nat) (z_x : Nat) (g_x : Nat → Nat) (a_y : Nat) (b_y : Nat) (z_y : Nat) (g_y : Nat → Nat) (t : Nat) (T : Nat → Nat) : va_W → Prop := fun u => ∃ z' : Nat, ∃ g' : Nat → Nat, u = ([(a_m, .inr (0, [.ref b_m, .int (nI z')])), (b_m, .inl (K 0, 512, .inl (nA g'))), (a_x, .inr (0, [.ref b_x, .int (nI z_x)])), (b_x, .inl (K 0, 512, .inl (nA g_x))), (a_y, .inr (0, [.ref b_y, .int (nI z_y)])), (b_y, .inl (K 0, 512, .inl (nA g_y)))] : va_W) ∧ (st_inc z' g') ∧ (∀ v, st_mem z' g' v ↔ st_mem z_x g_x v ∧ 0 = bN (∃ k, k < z_y ∧ g_y k / 2 ^ 14 = v / 2 ^ 14))
set_option maxHeartbeats 4000000 in
set_option maxRecDepth 100000 in
theorem c_joinInto_2 (l : Launch) (D : va_G) (K : Nat → ClassId) (a_m : Nat) (b_m : Nat) (z_m : Nat) (g_m : Nat → Nat) (a_x : Nat) (b_x : Nat) (z_x : Nat) (g_x : Nat → Nat) (a_y : Nat) (b_y : Nat) (z_y : Nat) (g_y : Nat → Nat) (t : Nat) (T : Nat → Nat) (hz_x : z_x ≤ 512) (hb_x : ∀ k, k < z_x → g_x k < 2 ^ 24) (hi_x : st_inc z_x g_x) (hz_y : z_y ≤ 512) (hb_y : ∀ k, k < z_y → g_y k < 2 ^ 24) (hi_y : st_inc z_y g_y) (ht : t < 512) (hT : ∀ v, (st_mem z_x g_x v ∨ st_mem z_y g_y v) → st_mem t T v) : CV l y_SI_joinInto b_SI_joinInto 4 ({ frames := 4, cells := 0, slots := 0, locals := 140 } : Room) D K [.ref a_m, .ref a_x, .ref a_y, .int (nI 2)] ([(a_m, .inr (0, [.ref b_m, .int (nI z_m)])), (b_m, .inl (K 0, 512, .inl (nA g_m))), (a_x, .inr (0, [.ref b_x, .int (nI z_x)])), (b_x, .inl (K 0, 512, .inl (nA g_x))), (a_y, .inr (0, [.ref b_y, .int (nI z_y)])), (b_y, .inl (K 0, 512, .inl (nA g_y)))] : va_W) (q_joinInto_2 K a_m b_m z_m g_m a_x b_x z_x g_x a_y b_y z_y g_y t T) := by
  refine CV_of (by decide) (Nat.le_of_ble_eq_true rfl) ?_
  intro p e s m below meth c A b0 ls hF hA hP hD hl
  have hF2 := hF
  obtain ⟨hx, hb, hr, hml, hown, htw, hK, hlocks, hname⟩ := hF
  have hS : va_S A s.heap s.heap [] := va_S.rf
  have hl : lv_has ls 4 [(0, .ref a_m), (1, .ref a_x), (2, .ref a_y), (3, .int (nI 2))] := hl
  refine lv_iload_n hx hb d_SI_joinInto_0 rfl (lv_at hl 3 rfl) ?_
  refine lv_tableIn (off := 57) (tgt := 58) hx hb d_SI_joinInto_1 (by decide) (by decide) rfl (by decide) ?_
  refine lv_aload_n hx hb d_SI_joinInto_58 rfl (lv_at hl 0 rfl) ?_
  refine lv_aload_n hx hb d_SI_joinInto_59 rfl (lv_at hl 1 rfl) ?_
  refine xcV_v (As := [.ref a_x]) (rest := []) (wr := ([(a_y, .inr (0, [.ref b_y, .int (nI z_y)])), (b_y, .inl (K 0, 512, .inl (nA g_y)))] : va_W)) hx hb hml hown htw hK hA hl.1 hP hD hS (c_HS_copy l D K a_m b_m z_m 512 g_m a_x b_x z_x 512 g_x (by have := st_card hi_x (fun x hx => hT x (Or.inl hx)); omega) (by first | assumption | omega) (by exact hz_x) (by first | assumption | omega) (by exact fun k hk => Nat.lt_trans (hb_x k hk) (by decide)) (by exact hi_x)) [0, 1, 2, 3] [4, 5] rfl rfl (by decide) (by decide) (by decide) 0 rfl k_HS ml_SI_263 w_HS_copy rfl ⟨by decide, by decide⟩ rfl (Nat.le_of_ble_eq_true rfl) ⟨by decide, by decide⟩ d_SI_joinInto_60 (fun u H locs hpost hP hD hS => ?_)
  obtain ⟨g'_60, rfl, hcp_60⟩ := hpost
  have hP : va_P D classes ([(a_y, .inr (0, [.ref b_y, .int (nI z_y)])), (b_y, .inl (K 0, 512, .inl (nA g_y))), (a_m, .inr (0, [.ref b_m, .int (nI z_x)])), (b_m, .inl (K 0, 512, .inl (nA g'_60))), (a_x, .inr (0, [.ref b_x, .int (nI z_x)])), (b_x, .inl (K 0, 512, .inl (nA g_x)))] : va_W) H := hP
  have hD : va_D A ([(a_y, .inr (0, [.ref b_y, .int (nI z_y)])), (b_y, .inl (K 0, 512, .inl (nA g_y))), (a_m, .inr (0, [.ref b_m, .int (nI z_x)])), (b_m, .inl (K 0, 512, .inl (nA g'_60))), (a_x, .inr (0, [.ref b_x, .int (nI z_x)])), (b_x, .inl (K 0, 512, .inl (nA g_x)))] : va_W) := hD
  refine lv_aload_n hx hb d_SI_joinInto_63 rfl (lv_at hl 0 rfl) ?_
  refine lv_aload_n hx hb d_SI_joinInto_64 rfl (lv_at hl 2 rfl) ?_
  refine lv_iconst (v := nI 0) hx hb d_SI_joinInto_65 (by decide) ?_
  refine xcV_v (As := [.ref a_y, .int (nI 0)]) (rest := []) (wr := ([(a_x, .inr (0, [.ref b_x, .int (nI z_x)])), (b_x, .inl (K 0, 512, .inl (nA g_x)))] : va_W)) hx hb hml hown htw hK hA hl.1 hP hD hS (c_HS_keepByDocument l D K a_m b_m z_x 512 g'_60 a_y b_y z_y 512 g_y 0 (by exact hz_x) (by first | assumption | omega) (by exact fun k hk => by rw [hcp_60 k hk]; exact hb_x k hk) (by exact fun i j h1 h2 => by rw [hcp_60 i (by omega), hcp_60 j h2]; exact hi_x i j h1 h2) (by exact hz_y) (by first | assumption | omega) (by exact hb_y) (by exact hi_y) (by first | assumption | omega)) [2, 3, 0, 1] [4, 5] rfl rfl (by decide) (by decide) (by decide) 0 rfl k_HS ml_SI_259 w_HS_keepByDocument rfl ⟨by decide, by decide⟩ rfl (Nat.le_of_ble_eq_true rfl) ⟨by decide, by decide⟩ d_SI_joinInto_66 (fun u H locs hpost hP hD hS => ?_)
  obtain ⟨z'_66, g'_66, rfl, hin_66, hmem_66, hle_66⟩ := hpost
  have hP : va_P D classes ([(a_x, .inr (0, [.ref b_x, .int (nI z_x)])), (b_x, .inl (K 0, 512, .inl (nA g_x))), (a_m, .inr (0, [.ref b_m, .int (nI z'_66)])), (b_m, .inl (K 0, 512, .inl (nA g'_66))), (a_y, .inr (0, [.ref b_y, .int (nI z_y)])), (b_y, .inl (K 0, 512, .inl (nA g_y)))] : va_W) H := hP
  have hD : va_D A ([(a_x, .inr (0, [.ref b_x, .int (nI z_x)])), (b_x, .inl (K 0, 512, .inl (nA g_x))), (a_m, .inr (0, [.ref b_m, .int (nI z'_66)])), (b_m, .inl (K 0, 512, .inl (nA g'_66))), (a_y, .inr (0, [.ref b_y, .int (nI z_y)])), (b_y, .inl (K 0, 512, .inl (nA g_y)))] : va_W) := hD
  refine lv_goto (tgt := 86) hx hb d_SI_joinInto_69 (by decide) ?_
  obtain ⟨hP, hD⟩ := xp (ws' := [(a_m, .inr (0, [.ref b_m, .int (nI z'_66)])), (b_m, .inl (K 0, 512, .inl (nA g'_66))), (a_x, .inr (0, [.ref b_x, .int (nI z_x)])), (b_x, .inl (K 0, 512, .inl (nA g_x))), (a_y, .inr (0, [.ref b_y, .int (nI z_y)])), (b_y, .inl (K 0, 512, .inl (nA g_y)))]) hP hD [2, 3, 0, 1, 4, 5] (by decide) rfl
  exact xr_vret hx hb hr hlocks hP hD hS (Nat.le_of_ble_eq_true rfl) (Nat.le_of_ble_eq_true rfl) (⟨_, _, rfl, hin_66, fun v => (hmem_66 v).trans (and_congr_left fun _ => st_mem_same hcp_60)⟩) d_SI_joinInto_86

abbrev q_joinInto_3 (K : Nat → ClassId) (a_m : Nat) (b_m : Nat) (z_m : Nat) (g_m : Nat → Nat) (a_x : Nat) (b_x : Nat) (z_x : Nat) (g_x : Nat → Nat) (a_y : Nat) (b_y : Nat) (z_y : Nat) (g_y : Nat → Nat) (t : Nat) (T : Nat → Nat) : va_W → Prop := fun u => ∃ z' : Nat, ∃ g' : Nat → Nat, u = ([(a_m, .inr (0, [.ref b_m, .int (nI z')])), (b_m, .inl (K 0, 512, .inl (nA g'))), (a_x, .inr (0, [.ref b_x, .int (nI z_x)])), (b_x, .inl (K 0, 512, .inl (nA g_x))), (a_y, .inr (0, [.ref b_y, .int (nI z_y)])), (b_y, .inl (K 0, 512, .inl (nA g_y)))] : va_W) ∧ (st_inc z' g') ∧ (∀ v, st_mem z' g' v ↔ st_mem z_y g_y v ∧ (∃ k, k < z_x ∧ g_x k / 2 ^ 12 = v / 2 ^ 12 ∧ (-10) ≤ ((g_x k : Nat) : Int) - v ∧ ((g_x k : Nat) : Int) - v ≤ 10))
set_option maxHeartbeats 4000000 in
set_option maxRecDepth 100000 in
theorem c_joinInto_3 (l : Launch) (D : va_G) (K : Nat → ClassId) (a_m : Nat) (b_m : Nat) (z_m : Nat) (g_m : Nat → Nat) (a_x : Nat) (b_x : Nat) (z_x : Nat) (g_x : Nat → Nat) (a_y : Nat) (b_y : Nat) (z_y : Nat) (g_y : Nat → Nat) (t : Nat) (T : Nat → Nat) (hz_x : z_x ≤ 512) (hb_x : ∀ k, k < z_x → g_x k < 2 ^ 24) (hi_x : st_inc z_x g_x) (hz_y : z_y ≤ 512) (hb_y : ∀ k, k < z_y → g_y k < 2 ^ 24) (hi_y : st_inc z_y g_y) (ht : t < 512) (hT : ∀ v, (st_mem z_x g_x v ∨ st_mem z_y g_y v) → st_mem t T v) : CV l y_SI_joinInto b_SI_joinInto 4 ({ frames := 4, cells := 0, slots := 0, locals := 140 } : Room) D K [.ref a_m, .ref a_x, .ref a_y, .int (nI 3)] ([(a_m, .inr (0, [.ref b_m, .int (nI z_m)])), (b_m, .inl (K 0, 512, .inl (nA g_m))), (a_x, .inr (0, [.ref b_x, .int (nI z_x)])), (b_x, .inl (K 0, 512, .inl (nA g_x))), (a_y, .inr (0, [.ref b_y, .int (nI z_y)])), (b_y, .inl (K 0, 512, .inl (nA g_y)))] : va_W) (q_joinInto_3 K a_m b_m z_m g_m a_x b_x z_x g_x a_y b_y z_y g_y t T) := by
  refine CV_of (by decide) (Nat.le_of_ble_eq_true rfl) ?_
  intro p e s m below meth c A b0 ls hF hA hP hD hl
  have hF2 := hF
  obtain ⟨hx, hb, hr, hml, hown, htw, hK, hlocks, hname⟩ := hF
  have hS : va_S A s.heap s.heap [] := va_S.rf
  have hl : lv_has ls 4 [(0, .ref a_m), (1, .ref a_x), (2, .ref a_y), (3, .int (nI 3))] := hl
  refine lv_iload_n hx hb d_SI_joinInto_0 rfl (lv_at hl 3 rfl) ?_
  refine lv_tableOut (tgt := 72) hx hb d_SI_joinInto_1 (by decide) (by decide) ?_
  refine lv_aload_n hx hb d_SI_joinInto_72 rfl (lv_at hl 0 rfl) ?_
  refine lv_aload_n hx hb d_SI_joinInto_73 rfl (lv_at hl 2 rfl) ?_
  refine xcV_v (As := [.ref a_y]) (rest := []) (wr := ([(a_x, .inr (0, [.ref b_x, .int (nI z_x)])), (b_x, .inl (K 0, 512, .inl (nA g_x)))] : va_W)) hx hb hml hown htw hK hA hl.1 hP hD hS (c_HS_copy l D K a_m b_m z_m 512 g_m a_y b_y z_y 512 g_y (by have := st_card hi_y (fun x hx => hT x (Or.inr hx)); omega) (by first | assumption | omega) (by exact hz_y) (by first | assumption | omega) (by exact fun k hk => Nat.lt_trans (hb_y k hk) (by decide)) (by exact hi_y)) [0, 1, 4, 5] [2, 3] rfl rfl (by decide) (by decide) (by decide) 0 rfl k_HS ml_SI_263 w_HS_copy rfl ⟨by decide, by decide⟩ rfl (Nat.le_of_ble_eq_true rfl) ⟨by decide, by decide⟩ d_SI_joinInto_74 (fun u H locs hpost hP hD hS => ?_)
  obtain ⟨g'_74, rfl, hcp_74⟩ := hpost
  have hP : va_P D classes ([(a_x, .inr (0, [.ref b_x, .int (nI z_x)])), (b_x, .inl (K 0, 512, .inl (nA g_x))), (a_m, .inr (0, [.ref b_m, .int (nI z_y)])), (b_m, .inl (K 0, 512, .inl (nA g'_74))), (a_y, .inr (0, [.ref b_y, .int (nI z_y)])), (b_y, .inl (K 0, 512, .inl (nA g_y)))] : va_W) H := hP
  have hD : va_D A ([(a_x, .inr (0, [.ref b_x, .int (nI z_x)])), (b_x, .inl (K 0, 512, .inl (nA g_x))), (a_m, .inr (0, [.ref b_m, .int (nI z_y)])), (b_m, .inl (K 0, 512, .inl (nA g'_74))), (a_y, .inr (0, [.ref b_y, .int (nI z_y)])), (b_y, .inl (K 0, 512, .inl (nA g_y)))] : va_W) := hD
  refine lv_aload_n hx hb d_SI_joinInto_77 rfl (lv_at hl 0 rfl) ?_
  refine lv_aload_n hx hb d_SI_joinInto_78 rfl (lv_at hl 1 rfl) ?_
  refine lv_bipush (v := zI (-10)) hx hb d_SI_joinInto_79 (by decide) ?_
  refine xi (y := zI (-10)) (by decide) ?_
  refine lv_bipush (v := nI 10) hx hb d_SI_joinInto_81 (by decide) ?_
  refine xi (y := zI 10) (by decide) ?_
  refine xcV_v (As := [.ref a_x, .int (zI (-10)), .int (zI 10)]) (rest := []) (wr := ([(a_y, .inr (0, [.ref b_y, .int (nI z_y)])), (b_y, .inl (K 0, 512, .inl (nA g_y)))] : va_W)) hx hb hml hown htw hK hA hl.1 hP hD hS (c_HS_keepByDistance l D K a_m b_m z_y 512 g'_74 a_x b_x z_x 512 g_x (-10) 10 (by exact hz_y) (by first | assumption | omega) (by exact fun k hk => by rw [hcp_74 k hk]; exact hb_y k hk) (by exact fun i j h1 h2 => by rw [hcp_74 i (by omega), hcp_74 j h2]; exact hi_y i j h1 h2) (by exact hz_x) (by first | assumption | omega) (by exact hb_x) (by exact hi_x) (by first | assumption | omega) (by first | assumption | omega) (by first | assumption | omega) (by first | assumption | omega)) [2, 3, 0, 1] [4, 5] rfl rfl (by decide) (by decide) (by decide) 0 rfl k_HS ml_SI_154 w_HS_keepByDistance rfl ⟨by decide, by decide⟩ rfl (Nat.le_of_ble_eq_true rfl) ⟨by decide, by decide⟩ d_SI_joinInto_83 (fun u H locs hpost hP hD hS => ?_)
  obtain ⟨z'_83, g'_83, rfl, hin_83, hmem_83, hle_83⟩ := hpost
  have hP : va_P D classes ([(a_y, .inr (0, [.ref b_y, .int (nI z_y)])), (b_y, .inl (K 0, 512, .inl (nA g_y))), (a_m, .inr (0, [.ref b_m, .int (nI z'_83)])), (b_m, .inl (K 0, 512, .inl (nA g'_83))), (a_x, .inr (0, [.ref b_x, .int (nI z_x)])), (b_x, .inl (K 0, 512, .inl (nA g_x)))] : va_W) H := hP
  have hD : va_D A ([(a_y, .inr (0, [.ref b_y, .int (nI z_y)])), (b_y, .inl (K 0, 512, .inl (nA g_y))), (a_m, .inr (0, [.ref b_m, .int (nI z'_83)])), (b_m, .inl (K 0, 512, .inl (nA g'_83))), (a_x, .inr (0, [.ref b_x, .int (nI z_x)])), (b_x, .inl (K 0, 512, .inl (nA g_x)))] : va_W) := hD
  obtain ⟨hP, hD⟩ := xp (ws' := [(a_m, .inr (0, [.ref b_m, .int (nI z'_83)])), (b_m, .inl (K 0, 512, .inl (nA g'_83))), (a_x, .inr (0, [.ref b_x, .int (nI z_x)])), (b_x, .inl (K 0, 512, .inl (nA g_x))), (a_y, .inr (0, [.ref b_y, .int (nI z_y)])), (b_y, .inl (K 0, 512, .inl (nA g_y)))]) hP hD [2, 3, 4, 5, 0, 1] (by decide) rfl
  exact xr_vret hx hb hr hlocks hP hD hS (Nat.le_of_ble_eq_true rfl) (Nat.le_of_ble_eq_true rfl) (⟨_, _, rfl, hin_83, fun v => (hmem_83 v).trans (and_congr_left fun _ => st_mem_same hcp_74)⟩) d_SI_joinInto_86

abbrev q_SI_rankDocuments (K : Nat → ClassId) (x0 : Nat) (s0 : Nat) (l0 : Nat) (p0 : Nat) (k0 : Nat) (bf : Nat) (k1 : Nat) (zk : Nat) (f : Nat → Int64) (a_s : Nat) (b_s : Nat) (z_s : Nat) (g_s : Nat → Nat) : va_W → Prop := fun u => ∃ f' : Nat → Int64, u = ([(x0, .inr (6, [.ref s0, .ref l0, .ref p0, .ref k0, .int (nI bf)])), (k0, .inr (1, [.ref k1, .int (nI ((rkS f z_s g_s z_s).2.1))])), (k1, .inl (K 1, 512, .inr (.inl f'))), (a_s, .inr (0, [.ref b_s, .int (nI z_s)])), (b_s, .inl (K 0, 512, .inl (nA g_s)))] : va_W) ∧ (∀ v, hp_cnt f' v (rkS f z_s g_s z_s).2.1 = hp_cnt (rkS f z_s g_s z_s).2.2 v (rkS f z_s g_s z_s).2.1) ∧ (∀ i j, i ≤ j → j < (rkS f z_s g_s z_s).2.1 → f' i ≤ f' j)
set_option maxHeartbeats 4000000 in
set_option maxRecDepth 100000 in
theorem lp_SI_rankDocuments_11 {p : Program} {l : Launch} {e : Env} {s : State} {m : MethodId} {below : List Frame} {meth : Method} {c : Code} {A : Nat → Prop} {D : va_G} {K : Nat → ClassId} (x0 : Nat) (s0 : Nat) (l0 : Nat) (p0 : Nat) (k0 : Nat) (bf : Nat) (k1 : Nat) (zk : Nat) (f : Nat → Int64) (a_s : Nat) (b_s : Nat) (z_s : Nat) (g_s : Nat → Nat) (hz_s : z_s ≤ 512) (hb_s : ∀ k, k < z_s → g_s k < 2 ^ 24) (hi_s : st_inc z_s g_s) (hF : Fx p s m meth c y_SI_rankDocuments b_SI_rankDocuments 4 none D K) {b0 : Nat} (hA : AS K s A b0) : ∀ fuel : Nat, ∀ i : Nat, (i ≤ z_s) → z_s - i < fuel → ∀ (H : Heap) (locs : List Loc), va_P D classes ([(x0, .inr (6, [.ref s0, .ref l0, .ref p0, .ref k0, .int (nI bf)])), (k0, .inr (1, [.ref k1, .int (nI ((rkS f z_s g_s i).2.1))])), (k1, .inl (K 1, 512, .inr (.inl ((rkS f z_s g_s i).2.2)))), (a_s, .inr (0, [.ref b_s, .int (nI z_s)])), (b_s, .inl (K 0, 512, .inl (nA g_s)))] : va_W) H → va_D A ([(x0, .inr (6, [.ref s0, .ref l0, .ref p0, .ref k0, .int (nI bf)])), (k0, .inr (1, [.ref k1, .int (nI ((rkS f z_s g_s i).2.1))])), (k1, .inl (K 1, 512, .inr (.inl ((rkS f z_s g_s i).2.2)))), (a_s, .inr (0, [.ref b_s, .int (nI z_s)])), (b_s, .inl (K 0, 512, .inl (nA g_s)))] : va_W) → va_S A s.heap H locs → ∀ ls : Array Slot, lv_has ls 4 [(0, .ref x0), (1, .ref a_s), (2, .int (nI ((rkS f z_s g_s i).1))), (3, .int (nI i))] → W p l e ({ frames := 2, cells := 0, slots := 0, locals := 80 } : Room) s m ([.ref x0, .ref a_s] : List Value).toArray below meth c H locs 0 0 (MQ below (va_Qv (q_SI_rankDocuments K x0 s0 l0 p0 k0 bf k1 zk f a_s b_s z_s g_s) (fun u t => va_P D classes u t.heap ∧ va_D A u) A) ([.ref x0, .ref a_s] : List Value).toArray s 0 0 A) (F0 m 11 ls []) := by
  have hF2 := hF
  obtain ⟨hx, hb, hr, hml, hown, htw, hK, hlocks, hname⟩ := hF
  intro fuel
  induction fuel with
  | zero => intros; omega
  | succ fuel ih =>
    have jn_56 : ∀ i : Nat, ∀ hh : Nat, ∀ kk : Nat, ∀ ff : Nat → Int64, (i < z_s) → (z_s - i < fuel + 1) → (rkS f z_s g_s (i + 1) = (hh, kk, ff)) → ∀ (H : Heap) (locs : List Loc), va_P D classes ([(x0, .inr (6, [.ref s0, .ref l0, .ref p0, .ref k0, .int (nI bf)])), (k0, .inr (1, [.ref k1, .int (nI kk)])), (k1, .inl (K 1, 512, .inr (.inl ff))), (a_s, .inr (0, [.ref b_s, .int (nI z_s)])), (b_s, .inl (K 0, 512, .inl (nA g_s)))] : va_W) H → va_D A ([(x0, .inr (6, [.ref s0, .ref l0, .ref p0, .ref k0, .int (nI bf)])), (k0, .inr (1, [.ref k1, .int (nI kk)])), (k1, .inl (K 1, 512, .inr (.inl ff))), (a_s, .inr (0, [.ref b_s, .int (nI z_s)])), (b_s, .inl (K 0, 512, .inl (nA g_s)))] : va_W) → va_S A s.heap H locs → ∀ ls : Array Slot, lv_has ls 4 [(0, .ref x0), (1, .ref a_s), (2, .int (nI hh)), (3, .int (nI i))] → W p l e ({ frames := 2, cells := 0, slots := 0, locals := 80 } : Room) s m ([.ref x0, .ref a_s] : List Value).toArray below meth c H locs 0 0 (MQ below (va_Qv (q_SI_rankDocuments K x0 s0 l0 p0 k0 bf k1 zk f a_s b_s z_s g_s) (fun u t => va_P D classes u t.heap ∧ va_D A u) A) ([.ref x0, .ref a_s] : List Value).toArray s 0 0 A) (F0 m 56 ls []) := by
      intro i hh kk ff hi hfu hrk H locs hP hD hS ls hl
      have e1 : hh = (rkS f z_s g_s (i + 1)).1 := by rw [hrk]
      have e2 : kk = (rkS f z_s g_s (i + 1)).2.1 := by rw [hrk]
      have e3 : ff = (rkS f z_s g_s (i + 1)).2.2 := by rw [hrk]
      subst e1
      subst e2
      subst e3
      clear hrk
      refine lv_iinc (v := nI (i + 1)) (lv' := [(3, .int (nI (i + 1))), (0, .ref x0), (1, .ref a_s), (2, .int (nI ((rkS f z_s g_s (i + 1)).1)))]) hx hb d_SI_rankDocuments_56 hl (k := 3) rfl (inc_nI _ _) (by decide) rfl (fun ls hl => ?_)
      refine lv_goto (tgt := 11) hx hb d_SI_rankDocuments_59 (by decide) ?_
      exact ih (i + 1) (by first | assumption | omega) (by omega) _ _ hP hD hS _ (lv_sub hl [1, 2, 3, 0] rfl)
    intro i hi hfu H locs hP hD hS ls hl
    have hrl := rkS_le f z_s g_s i
    refine lv_iload_n hx hb d_SI_rankDocuments_11 rfl (lv_at hl 3 rfl) ?_
    refine lv_aload_n hx hb d_SI_rankDocuments_12 rfl (lv_at hl 1 rfl) ?_
    refine xg hx hb hown htw hK hP 3 1 rfl k_HS (by decide) fl_SI_172 rfl d_SI_rankDocuments_13 ?_
    refine xc_ge (tgt := 62) (a := i) (b := z_s) hx hb (by omega) (by omega) d_SI_rankDocuments_16 (by decide) (fun c_16 => ?_) (fun c_16 => ?_)
    · have hk2 : z_s = i := by omega
      subst hk2
      refine lv_aload_n hx hb d_SI_rankDocuments_62 rfl (lv_at hl 0 rfl) ?_
      refine xg hx hb hown htw hK hP 0 3 rfl k_SI (by decide) fl_SI_33 rfl d_SI_rankDocuments_63 ?_
      refine xcV_v (As := []) (rest := []) (wr := ([(x0, .inr (6, [.ref s0, .ref l0, .ref p0, .ref k0, .int (nI bf)])), (a_s, .inr (0, [.ref b_s, .int (nI z_s)])), (b_s, .inl (K 0, 512, .inl (nA g_s)))] : va_W)) hx hb hml hown htw hK hA hl.1 hP hD hS (c_Ks_sort l D K k0 k1 ((rkS f z_s g_s z_s).2.1) 512 ((rkS f z_s g_s z_s).2.2) (by omega) (by first | assumption | omega)) [1, 2] [0, 3, 4] rfl rfl (by decide) (by decide) (by decide) 0 rfl k_Ks ml_SI_270 w_Ks_sort rfl ⟨by decide, by decide⟩ rfl (Nat.le_of_ble_eq_true rfl) ⟨by decide, by decide⟩ d_SI_rankDocuments_66 (fun u H locs hpost hP hD hS => ?_)
      obtain ⟨f'_66, rfl, hcnt_66, hsrt_66⟩ := hpost
      have hP : va_P D classes ([(x0, .inr (6, [.ref s0, .ref l0, .ref p0, .ref k0, .int (nI bf)])), (a_s, .inr (0, [.ref b_s, .int (nI z_s)])), (b_s, .inl (K 0, 512, .inl (nA g_s))), (k0, .inr (1, [.ref k1, .int (nI ((rkS f z_s g_s z_s).2.1))])), (k1, .inl (K 1, 512, .inr (.inl f'_66)))] : va_W) H := hP
      have hD : va_D A ([(x0, .inr (6, [.ref s0, .ref l0, .ref p0, .ref k0, .int (nI bf)])), (a_s, .inr (0, [.ref b_s, .int (nI z_s)])), (b_s, .inl (K 0, 512, .inl (nA g_s))), (k0, .inr (1, [.ref k1, .int (nI ((rkS f z_s g_s z_s).2.1))])), (k1, .inl (K 1, 512, .inr (.inl f'_66)))] : va_W) := hD
      obtain ⟨hP, hD⟩ := xp (ws' := [(x0, .inr (6, [.ref s0, .ref l0, .ref p0, .ref k0, .int (nI bf)])), (k0, .inr (1, [.ref k1, .int (nI ((rkS f z_s g_s z_s).2.1))])), (k1, .inl (K 1, 512, .inr (.inl f'_66))), (a_s, .inr (0, [.ref b_s, .int (nI z_s)])), (b_s, .inl (K 0, 512, .inl (nA g_s)))]) hP hD [0, 3, 4, 1, 2] (by decide) rfl
      exact xr_vret hx hb hr hlocks hP hD hS (Nat.le_of_ble_eq_true rfl) (Nat.le_of_ble_eq_true rfl) (⟨_, rfl, hcnt_66, hsrt_66⟩) d_SI_rankDocuments_69
    · refine lv_iinc (v := nI (((rkS f z_s g_s i).1) + 1)) (lv' := [(2, .int (nI (((rkS f z_s g_s i).1) + 1))), (0, .ref x0), (1, .ref a_s), (3, .int (nI i))]) hx hb d_SI_rankDocuments_19 hl (k := 2) rfl (inc_nI _ _) (by decide) rfl (fun ls hl => ?_)
      refine lv_aload_n hx hb d_SI_rankDocuments_22 rfl (lv_at hl 2 rfl) ?_
      refine lv_iload_n hx hb d_SI_rankDocuments_23 rfl (lv_at hl 3 rfl) ?_
      refine xcV_i (As := [.int (nI i)]) (rest := []) (wr := ([(x0, .inr (6, [.ref s0, .ref l0, .ref p0, .ref k0, .int (nI bf)])), (k0, .inr (1, [.ref k1, .int (nI ((rkS f z_s g_s i).2.1))])), (k1, .inl (K 1, 512, .inr (.inl ((rkS f z_s g_s i).2.2))))] : va_W)) hx hb hml hown htw hK hA hl.1 hP hD hS (c_HS_endsDocument l D K a_s b_s z_s 512 g_s i (by first | assumption | omega) (by first | assumption | omega) (by first | assumption | omega) (by exact fun k hk => Nat.lt_trans (hb_s k hk) (by decide))) [3, 4] [0, 1, 2] rfl rfl (by decide) (by decide) (by decide) 0 rfl k_HS ml_SI_186 w_HS_endsDocument rfl ⟨by decide, by decide⟩ rfl (Nat.le_of_ble_eq_true rfl) ⟨by decide, by decide⟩ d_SI_rankDocuments_24 (fun r u H locs hpost hP hD hS => ?_)
      obtain ⟨rfl, rfl⟩ := hpost
      have hP : va_P D classes ([(x0, .inr (6, [.ref s0, .ref l0, .ref p0, .ref k0, .int (nI bf)])), (k0, .inr (1, [.ref k1, .int (nI ((rkS f z_s g_s i).2.1))])), (k1, .inl (K 1, 512, .inr (.inl ((rkS f z_s g_s i).2.2)))), (a_s, .inr (0, [.ref b_s, .int (nI z_s)])), (b_s, .inl (K 0, 512, .inl (nA g_s)))] : va_W) H := hP
      have hD : va_D A ([(x0, .inr (6, [.ref s0, .ref l0, .ref p0, .ref k0, .int (nI bf)])), (k0, .inr (1, [.ref k1, .int (nI ((rkS f z_s g_s i).2.1))])), (k1, .inl (K 1, 512, .inr (.inl ((rkS f z_s g_s i).2.2)))), (a_s, .inr (0, [.ref b_s, .int (nI z_s)])), (b_s, .inl (K 0, 512, .inl (nA g_s)))] : va_W) := hD
      refine xz_eq (tgt := 56) (a := bN (z_s ≤ i + 1 ∨ ¬ g_s (i + 1) / 2 ^ 14 = g_s i / 2 ^ 14)) hx hb (by exact bN_31 _) d_SI_rankDocuments_27 (by decide) (fun c_27 => ?_) (fun c_27 => ?_)
      · exact jn_56 i (((rkS f z_s g_s i).1) + 1) ((rkS f z_s g_s i).2.1) ((rkS f z_s g_s i).2.2) (by first | assumption | omega) (by first | assumption | omega) (by exact rkS_n (bN_0.mp c_27)) _ _ hP hD hS _ (lv_sub hl [1, 2, 0, 3] rfl)
      · refine lv_aload_n hx hb d_SI_rankDocuments_30 rfl (lv_at hl 1 rfl) ?_
        refine xg hx hb hown htw hK hP 0 3 rfl k_SI (by decide) fl_SI_33 rfl d_SI_rankDocuments_31 ?_
        refine lv_iload_n hx hb d_SI_rankDocuments_34 rfl (lv_at hl 0 rfl) ?_
        refine lv_ineg hx hb d_SI_rankDocuments_35 ?_
        refine lv_i2l hx hb d_SI_rankDocuments_36 rfl ?_
        refine lv_bipush (v := nI 10) hx hb d_SI_rankDocuments_37 (by decide) ?_
        refine lv_lshl hx hb d_SI_rankDocuments_39 rfl ?_
        refine lv_aload_n hx hb d_SI_rankDocuments_40 rfl (lv_at hl 2 rfl) ?_
        refine xg hx hb hown htw hK hP 3 0 rfl k_HS (by decide) fl_SI_174 rfl d_SI_rankDocuments_41 ?_
        refine lv_iload_n hx hb d_SI_rankDocuments_44 rfl (lv_at hl 3 rfl) ?_
        refine xald_i hx hb hK hP 4 rfl (by omega) (by omega) d_SI_rankDocuments_45 ?_
        refine xi (y := nI (g_s i)) rfl ?_
        refine xcS_i (As := [.int (nI (g_s i))]) (rest := [.long (((-(nI (((rkS f z_s g_s i).1) + 1))).toInt64) <<< ((nI 10).toInt64 &&& 63)), .ref k0]) (wr := ([(x0, .inr (6, [.ref s0, .ref l0, .ref p0, .ref k0, .int (nI bf)])), (k0, .inr (1, [.ref k1, .int (nI ((rkS f z_s g_s i).2.1))])), (k1, .inl (K 1, 512, .inr (.inl ((rkS f z_s g_s i).2.2)))), (a_s, .inr (0, [.ref b_s, .int (nI z_s)])), (b_s, .inl (K 0, 512, .inl (nA g_s)))] : va_W)) hx hb hml hown htw hK hA hl.1 hP hD hS (c_SI_documentOf l D K (g_s i) (by have := hb_s i (by omega); omega)) [] [0, 1, 2, 3, 4] rfl rfl (by decide) (by decide) (by decide) ml_SI_177 w_SI_documentOf rfl ⟨by decide, by decide⟩ rfl (Nat.le_of_ble_eq_true rfl) ⟨by decide, by decide⟩ d_SI_rankDocuments_46 (fun r u H locs hpost hP hD hS => ?_)
        obtain ⟨rfl, rfl⟩ := hpost
        have hP : va_P D classes ([(x0, .inr (6, [.ref s0, .ref l0, .ref p0, .ref k0, .int (nI bf)])), (k0, .inr (1, [.ref k1, .int (nI ((rkS f z_s g_s i).2.1))])), (k1, .inl (K 1, 512, .inr (.inl ((rkS f z_s g_s i).2.2)))), (a_s, .inr (0, [.ref b_s, .int (nI z_s)])), (b_s, .inl (K 0, 512, .inl (nA g_s)))] : va_W) H := hP
        have hD : va_D A ([(x0, .inr (6, [.ref s0, .ref l0, .ref p0, .ref k0, .int (nI bf)])), (k0, .inr (1, [.ref k1, .int (nI ((rkS f z_s g_s i).2.1))])), (k1, .inl (K 1, 512, .inr (.inl ((rkS f z_s g_s i).2.2)))), (a_s, .inr (0, [.ref b_s, .int (nI z_s)])), (b_s, .inl (K 0, 512, .inl (nA g_s)))] : va_W) := hD
        refine lv_i2l hx hb d_SI_rankDocuments_49 rfl ?_
        refine lv_lor hx hb d_SI_rankDocuments_50 ?_
        refine xl (y := rkK ((rkS f z_s g_s i).1 + 1) (g_s i / 2 ^ 14)) (rfl) ?_
        refine xcV_v (As := [.long (rkK ((rkS f z_s g_s i).1 + 1) (g_s i / 2 ^ 14))]) (rest := []) (wr := ([(x0, .inr (6, [.ref s0, .ref l0, .ref p0, .ref k0, .int (nI bf)])), (a_s, .inr (0, [.ref b_s, .int (nI z_s)])), (b_s, .inl (K 0, 512, .inl (nA g_s)))] : va_W)) hx hb hml hown htw hK hA hl.1 hP hD hS (c_Ks_put l D K k0 k1 ((rkS f z_s g_s i).2.1) 512 ((rkS f z_s g_s i).2.2) (rkK ((rkS f z_s g_s i).1 + 1) (g_s i / 2 ^ 14)) (by omega) (by first | assumption | omega)) [1, 2] [0, 3, 4] rfl rfl (by decide) (by decide) (by decide) 0 rfl k_Ks ml_SI_266 w_Ks_put rfl ⟨by decide, by decide⟩ rfl (Nat.le_of_ble_eq_true rfl) ⟨by decide, by decide⟩ d_SI_rankDocuments_51 (fun u H locs hpost hP hD hS => ?_)
        subst hpost
        have hP : va_P D classes ([(x0, .inr (6, [.ref s0, .ref l0, .ref p0, .ref k0, .int (nI bf)])), (a_s, .inr (0, [.ref b_s, .int (nI z_s)])), (b_s, .inl (K 0, 512, .inl (nA g_s))), (k0, .inr (1, [.ref k1, .int (nI (((rkS f z_s g_s i).2.1) + 1))])), (k1, .inl (K 1, 512, .inr (.inl (vp_updL ((rkS f z_s g_s i).2.2) ((rkS f z_s g_s i).2.1) (rkK ((rkS f z_s g_s i).1 + 1) (g_s i / 2 ^ 14))))))] : va_W) H := hP
        have hD : va_D A ([(x0, .inr (6, [.ref s0, .ref l0, .ref p0, .ref k0, .int (nI bf)])), (a_s, .inr (0, [.ref b_s, .int (nI z_s)])), (b_s, .inl (K 0, 512, .inl (nA g_s))), (k0, .inr (1, [.ref k1, .int (nI (((rkS f z_s g_s i).2.1) + 1))])), (k1, .inl (K 1, 512, .inr (.inl (vp_updL ((rkS f z_s g_s i).2.2) ((rkS f z_s g_s i).2.1) (rkK ((rkS f z_s g_s i).1 + 1) (g_s i / 2 ^ 14))))))] : va_W) := hD
        refine lv_iconst (v := nI 0) hx hb d_SI_rankDocuments_54 (by decide) ?_
        refine lv_istore_n (lv' := [(2, .int (nI 0)), (0, .ref x0), (1, .ref a_s), (3, .int (nI i))]) hx hb d_SI_rankDocuments_55 rfl hl (by decide) rfl (fun ls hl => ?_)
        obtain ⟨hP9, hD9⟩ := xp (ws' := [(x0, .inr (6, [.ref s0, .ref l0, .ref p0, .ref k0, .int (nI bf)])), (k0, .inr (1, [.ref k1, .int (nI (((rkS f z_s g_s i).2.1) + 1))])), (k1, .inl (K 1, 512, .inr (.inl (vp_updL ((rkS f z_s g_s i).2.2) ((rkS f z_s g_s i).2.1) (rkK ((rkS f z_s g_s i).1 + 1) (g_s i / 2 ^ 14)))))), (a_s, .inr (0, [.ref b_s, .int (nI z_s)])), (b_s, .inl (K 0, 512, .inl (nA g_s)))]) hP hD [0, 3, 4, 1, 2] (by decide) rfl
        exact jn_56 i 0 (((rkS f z_s g_s i).2.1) + 1) (vp_updL ((rkS f z_s g_s i).2.2) ((rkS f z_s g_s i).2.1) (rkK ((rkS f z_s g_s i).1 + 1) (g_s i / 2 ^ 14))) (by first | assumption | omega) (by first | assumption | omega) (by exact rkS_y (bN_pos.mp c_27)) _ _ hP9 hD9 hS _ (lv_sub hl [1, 2, 0, 3] rfl)
set_option maxHeartbeats 4000000 in
set_option maxRecDepth 100000 in
theorem c_SI_rankDocuments (l : Launch) (D : va_G) (K : Nat → ClassId) (x0 : Nat) (s0 : Nat) (l0 : Nat) (p0 : Nat) (k0 : Nat) (bf : Nat) (k1 : Nat) (zk : Nat) (f : Nat → Int64) (a_s : Nat) (b_s : Nat) (z_s : Nat) (g_s : Nat → Nat) (hz_s : z_s ≤ 512) (hb_s : ∀ k, k < z_s → g_s k < 2 ^ 24) (hi_s : st_inc z_s g_s) : CV l y_SI_rankDocuments b_SI_rankDocuments 4 ({ frames := 2, cells := 0, slots := 0, locals := 80 } : Room) D K [.ref x0, .ref a_s] ([(x0, .inr (6, [.ref s0, .ref l0, .ref p0, .ref k0, .int (nI bf)])), (k0, .inr (1, [.ref k1, .int (nI zk)])), (k1, .inl (K 1, 512, .inr (.inl f))), (a_s, .inr (0, [.ref b_s, .int (nI z_s)])), (b_s, .inl (K 0, 512, .inl (nA g_s)))] : va_W) (q_SI_rankDocuments K x0 s0 l0 p0 k0 bf k1 zk f a_s b_s z_s g_s) := by
  refine CV_of (by decide) (Nat.le_of_ble_eq_true rfl) ?_
  intro p e s m below meth c A b0 ls hF hA hP hD hl
  have hF2 := hF
  obtain ⟨hx, hb, hr, hml, hown, htw, hK, hlocks, hname⟩ := hF
  have hS : va_S A s.heap s.heap [] := va_S.rf
  have hl : lv_has ls 4 [(0, .ref x0), (1, .ref a_s)] := hl
  refine lv_aload_n hx hb d_SI_rankDocuments_0 rfl (lv_at hl 0 rfl) ?_
  refine xg hx hb hown htw hK hP 0 3 rfl k_SI (by decide) fl_SI_33 rfl d_SI_rankDocuments_1 ?_
  refine xcV_v (As := []) (rest := []) (wr := ([(x0, .inr (6, [.ref s0, .ref l0, .ref p0, .ref k0, .int (nI bf)])), (k1, .inl (K 1, 512, .inr (.inl f))), (a_s, .inr (0, [.ref b_s, .int (nI z_s)])), (b_s, .inl (K 0, 512, .inl (nA g_s)))] : va_W)) hx hb hml hown htw hK hA hl.1 hP hD hS (c_Ks_clear l D K k0 k1 zk ) [1] [0, 2, 3, 4] rfl rfl (by decide) (by decide) (by decide) 0 rfl k_Ks ml_SI_235 w_Ks_clear rfl ⟨by decide, by decide⟩ rfl (Nat.le_of_ble_eq_true rfl) ⟨by decide, by decide⟩ d_SI_rankDocuments_4 (fun u H locs hpost hP hD hS => ?_)
  subst hpost
  have hP : va_P D classes ([(x0, .inr (6, [.ref s0, .ref l0, .ref p0, .ref k0, .int (nI bf)])), (k1, .inl (K 1, 512, .inr (.inl f))), (a_s, .inr (0, [.ref b_s, .int (nI z_s)])), (b_s, .inl (K 0, 512, .inl (nA g_s))), (k0, .inr (1, [.ref k1, .int (nI 0)]))] : va_W) H := hP
  have hD : va_D A ([(x0, .inr (6, [.ref s0, .ref l0, .ref p0, .ref k0, .int (nI bf)])), (k1, .inl (K 1, 512, .inr (.inl f))), (a_s, .inr (0, [.ref b_s, .int (nI z_s)])), (b_s, .inl (K 0, 512, .inl (nA g_s))), (k0, .inr (1, [.ref k1, .int (nI 0)]))] : va_W) := hD
  refine lv_iconst (v := nI 0) hx hb d_SI_rankDocuments_7 (by decide) ?_
  refine lv_istore_n (lv' := [(2, .int (nI 0)), (0, .ref x0), (1, .ref a_s)]) hx hb d_SI_rankDocuments_8 rfl hl (by decide) rfl (fun ls hl => ?_)
  rw [show nI 0 = nI ((rkS f z_s g_s 0).1) from rfl] at hl
  have hP : va_P D classes ([(x0, .inr (6, [.ref s0, .ref l0, .ref p0, .ref k0, .int (nI bf)])), (k1, .inl (K 1, 512, .inr (.inl f))), (a_s, .inr (0, [.ref b_s, .int (nI z_s)])), (b_s, .inl (K 0, 512, .inl (nA g_s))), (k0, .inr (1, [.ref k1, .int (nI ((rkS f z_s g_s 0).2.1))]))] : va_W) H := by rw [show (rkS f z_s g_s 0).2.1 = 0 from rfl]; exact hP
  have hD : va_D A ([(x0, .inr (6, [.ref s0, .ref l0, .ref p0, .ref k0, .int (nI bf)])), (k1, .inl (K 1, 512, .inr (.inl f))), (a_s, .inr (0, [.ref b_s, .int (nI z_s)])), (b_s, .inl (K 0, 512, .inl (nA g_s))), (k0, .inr (1, [.ref k1, .int (nI ((rkS f z_s g_s 0).2.1))]))] : va_W) := by rw [show (rkS f z_s g_s 0).2.1 = 0 from rfl]; exact hD
  have hP : va_P D classes ([(x0, .inr (6, [.ref s0, .ref l0, .ref p0, .ref k0, .int (nI bf)])), (k1, .inl (K 1, 512, .inr (.inl ((rkS f z_s g_s 0).2.2)))), (a_s, .inr (0, [.ref b_s, .int (nI z_s)])), (b_s, .inl (K 0, 512, .inl (nA g_s))), (k0, .inr (1, [.ref k1, .int (nI ((rkS f z_s g_s 0).2.1))]))] : va_W) H := by rw [show (rkS f z_s g_s 0).2.2 = f from rfl]; exact hP
  have hD : va_D A ([(x0, .inr (6, [.ref s0, .ref l0, .ref p0, .ref k0, .int (nI bf)])), (k1, .inl (K 1, 512, .inr (.inl ((rkS f z_s g_s 0).2.2)))), (a_s, .inr (0, [.ref b_s, .int (nI z_s)])), (b_s, .inl (K 0, 512, .inl (nA g_s))), (k0, .inr (1, [.ref k1, .int (nI ((rkS f z_s g_s 0).2.1))]))] : va_W) := by rw [show (rkS f z_s g_s 0).2.2 = f from rfl]; exact hD
  refine lv_iconst (v := nI 0) hx hb d_SI_rankDocuments_9 (by decide) ?_
  refine lv_istore_n (lv' := [(3, .int (nI 0)), (2, .int (nI ((rkS f z_s g_s 0).1))), (0, .ref x0), (1, .ref a_s)]) hx hb d_SI_rankDocuments_10 rfl hl (by decide) rfl (fun ls hl => ?_)
  obtain ⟨hP9, hD9⟩ := xp (ws' := [(x0, .inr (6, [.ref s0, .ref l0, .ref p0, .ref k0, .int (nI bf)])), (k0, .inr (1, [.ref k1, .int (nI ((rkS f z_s g_s 0).2.1))])), (k1, .inl (K 1, 512, .inr (.inl ((rkS f z_s g_s 0).2.2)))), (a_s, .inr (0, [.ref b_s, .int (nI z_s)])), (b_s, .inl (K 0, 512, .inl (nA g_s)))]) hP hD [0, 4, 1, 2, 3] (by decide) rfl
  exact lp_SI_rankDocuments_11 (l := l) x0 s0 l0 p0 k0 bf k1 zk f a_s b_s z_s g_s hz_s hb_s hi_s hF2 hA _ 0 (by first | assumption | omega) (Nat.lt_succ_self _) _ _ hP9 hD9 hS _ (lv_sub hl [2, 3, 1, 0] rfl)


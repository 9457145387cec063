/-! segments: a list of (address, first, level, held, terms, tokens) -/
abbrev sgc : Type := Nat × Nat × Nat × Nat × Nat × Nat
def sgE (q : sgc) : Nat × va_E := (q.1, .inr (3, [.int (nI q.2.1), .int (nI q.2.2.1), .int (nI q.2.2.2.1), .int (nI q.2.2.2.2.1), .int (nI q.2.2.2.2.2)]))
def sgW (L : List sgc) : va_W := L.map sgE
def EA (K : Nat → ClassId) (el ne : Nat) (ef : Nat → Option Nat) : va_W := if ne = 0 then [] else [(el, .inl (K 4, ne, .inr (.inr (.inr (.inr ef)))))]
def tlS (K : Nat → ClassId) (el ne : Nat) (ef : Nat → Option Nat) (L : List sgc) : va_W := EA K el ne ef ++ sgW L
def sgOk (K : Nat → ClassId) (el ne : Nat) (ef : Nat → Option Nat) (L : List sgc) (n : Nat) : Prop := n = L.length ∧ (ne = 0 → el = K 5) ∧ n ≤ ne ∧ (ne = 0 ∨ ne = 10 ∨ ne = 15) ∧ ∀ (i : Nat) (q : sgc), L[i]? = some q → ef i = some q.1
def lvL (L : List sgc) (i : Nat) : Nat := ((L[i]?).map (fun q => q.2.2.1)).getD 0
theorem EA_0 (K : Nat → ClassId) (el : Nat) (ef : Nat → Option Nat) : EA K el 0 ef = [] := if_pos rfl
theorem EA_n {K : Nat → ClassId} {el ne : Nat} {ef : Nat → Option Nat} (h : ¬ ne = 0) : EA K el ne ef = [(el, .inl (K 4, ne, .inr (.inr (.inr (.inr ef)))))] := if_neg h
theorem sgW_app (L M : List sgc) : sgW (L ++ M) = sgW L ++ sgW M := List.map_append
theorem sgW_at {L : List sgc} {i : Nat} {q : sgc} (h : L[i]? = some q) : (sgW L)[i]? = some (sgE q) := by
  rw [sgW, List.getElem?_map, h]
  rfl
theorem pm_tail (X Y : va_W) : (X ++ Y).Perm (Y ++ X) := List.perm_append_comm
theorem nI_sub4 (n : Nat) : nI n - nI 4 = zI ((n : Int) - 4) := by
  rw [nI_zI, nI_zI]
  exact (Int32.ofInt_sub _ _).symm
abbrev q_AL_add (K : Nat → ClassId) (l0 : Nat) (mc : Int32) (el : Nat) (n : Nat) (ne : Nat) (ef : Nat → Option Nat) (L : List sgc) (q0 : Nat) (u1 : Nat) (u2 : Nat) (u3 : Nat) (u4 : Nat) (u5 : Nat) : Int32 → va_W → Prop := fun r u => ∃ mc' : Int32, ∃ el' : Nat, ∃ ne' : Nat, ∃ ef' : Nat → Option Nat, u = (([(l0, .inr (7, [.int mc', .ref el', .int (nI (n + 1))])), (q0, .inr (3, [.int (nI u1), .int (nI u2), .int (nI u3), .int (nI u4), .int (nI u5)]))] : va_W) ++ (tlS K el' ne' ef' L)) ∧ r = nI 1 ∧ (∀ q : sgc, q.1 = q0 → sgOk K el' ne' ef' (L ++ [q]) (n + 1))
theorem app_at {L : List sgc} {q : sgc} {i : Nat} {x : sgc} (h : (L ++ [q])[i]? = some x) : L[i]? = some x ∨ (i = L.length ∧ x = q) := by
  by_cases hl : i < L.length
  · rw [List.getElem?_append_left hl] at h
    exact Or.inl h
  · rw [List.getElem?_append_right (by omega)] at h
    have : i - L.length = 0 := by
      cases hi : i - L.length with
      | zero => rfl
      | succ j => rw [hi] at h; simp at h
    rw [this] at h
    exact Or.inr ⟨by omega, (Option.some.inj h).symm⟩
theorem u_AL_add (l : Launch) (D : va_G) (K : Nat → ClassId) (l0 : Nat) (mc : Int32) (el : Nat) (n : Nat) (ne : Nat) (ef : Nat → Option Nat) (L : List sgc) (q0 : Nat) (u1 : Nat) (u2 : Nat) (u3 : Nat) (u4 : Nat) (u5 : Nat) (hok : sgOk K el ne ef L n) (hn15 : n < 15) : CI l y_AL_add_LObjectZ b_AL_add_LObjectZ 2 .boolean ({ frames := 6, cells := 1, slots := 15, locals := 220 } : Room) D K [.ref l0, .ref q0] (([(l0, .inr (7, [.int mc, .ref el, .int (nI n)])), (q0, .inr (3, [.int (nI u1), .int (nI u2), .int (nI u3), .int (nI u4), .int (nI u5)]))] : va_W) ++ (tlS K el ne ef L)) (q_AL_add K l0 mc el n ne ef L q0 u1 u2 u3 u4 u5) := by
  obtain ⟨h1, h2, h3, h4, h5⟩ := hok
  by_cases e0 : ne = 0
  · have en : n = 0 := by omega
    have ee := h2 e0
    subst e0
    subst ee
    subst en
    have hL : L = [] := List.eq_nil_of_length_eq_zero h1.symm
    subst hL
    refine CI_use [] (c_AL_add_first l D K l0 mc q0 u1 u2 u3 u4 u5) ?_ ?_
    · show ([_, _] ++ (EA K (K 5) 0 ef ++ [])).Perm _
      rw [EA_0]
      exact List.Perm.refl _
    · rintro r u ⟨qn, rfl, rfl⟩
      refine ⟨_, ?_, mc + nI 1, qn, 10, va_up (fun _ => none) 0 (some q0), rfl, rfl, ?_⟩
      · show ([_, _] ++ (EA K qn 10 _ ++ [])).Perm [_, _, _]
        rw [EA_n (by decide)]
        exact List.Perm.cons _ (List.Perm.swap _ _ _)
      · intro q hq
        refine ⟨rfl, fun w => absurd w (by decide), by decide, Or.inr (Or.inl rfl), fun i x hx => ?_⟩
        rcases app_at hx with h | ⟨rfl, rfl⟩
        · simp at h
        · show va_up _ 0 _ 0 = _
          rw [hq]
          rfl
  · by_cases e1 : n < ne
    · refine CI_use (sgW L) (c_AL_add_has l D K l0 mc el n ne ef q0 u1 u2 u3 u4 u5 (by omega) e1) ?_ ?_
      · show ([_, _] ++ (EA K el ne ef ++ sgW L)).Perm _
        rw [EA_n e0]
        refine (List.Perm.trans ?_ (pm_tail _ _))
        exact List.Perm.cons _ (List.Perm.swap _ _ _)
      · rintro r u ⟨rfl, rfl⟩
        refine ⟨_, ?_, mc + nI 1, el, ne, va_up ef n (some q0), rfl, rfl, ?_⟩
        · show ([_, _] ++ (EA K el ne _ ++ sgW L)).Perm _
          rw [EA_n e0]
          refine (List.Perm.trans ?_ (pm_tail _ _))
          exact List.Perm.cons _ (List.Perm.swap _ _ _)
        · intro q hq
          refine ⟨by rw [List.length_append, ← h1]; rfl, fun w => absurd w e0, by omega, h4, fun i x hx => ?_⟩
          rcases app_at hx with h | ⟨rfl, rfl⟩
          · have := (List.getElem?_eq_some_iff.mp h).1
            rw [va_up, if_neg (by omega)]
            exact h5 i x h
          · rw [va_up, if_pos h1.symm, hq]
    · have en : ne = 10 := by omega
      have em : n = 10 := by omega
      subst en
      subst em
      refine CI_use [] (c_AL_add_ten l D K l0 mc el ef q0 u1 u2 u3 u4 u5 (sgW L) ?_) ?_ ?_
      · intro i hi y hy
        have hlt : i < L.length := by omega
        refine ⟨i, [.int (nI L[i].2.1), .int (nI L[i].2.2.1), .int (nI L[i].2.2.2.1), .int (nI L[i].2.2.2.2.1), .int (nI L[i].2.2.2.2.2)], ?_⟩
        have e := h5 i _ (List.getElem?_eq_getElem hlt)
        rw [hy] at e
        rw [sgW_at (List.getElem?_eq_getElem hlt), Option.some.inj e]
        rfl
      · show ([_, _] ++ (EA K el 10 ef ++ sgW L)).Perm _
        rw [EA_n (by decide)]
        exact List.Perm.cons _ (List.Perm.swap _ _ _)
      · rintro r u ⟨qn, gn, rfl, rfl, hg⟩
        refine ⟨_, ?_, mc + nI 1, qn, 15, va_up gn 10 (some q0), rfl, rfl, ?_⟩
        · show ([_, _] ++ (EA K qn 15 _ ++ sgW L)).Perm _
          rw [EA_n (by decide)]
          exact List.Perm.cons _ (List.Perm.swap _ _ _)
        · intro q hq
          refine ⟨by rw [List.length_append, ← h1]; rfl, fun w => absurd w (by decide), by decide, Or.inr (Or.inr rfl), fun i x hx => ?_⟩
          rcases app_at hx with h | ⟨rfl, rfl⟩
          · have := (List.getElem?_eq_some_iff.mp h).1
            rw [va_up, if_neg (by omega), hg i (by omega)]
            exact h5 i x h
          · rw [va_up, if_pos h1.symm, hq]

abbrev q_last4_few (K : Nat → ClassId) (x0 : Nat) (s0 : Nat) (l0 : Nat) (p0 : Nat) (k0 : Nat) (bf : Nat) (mc : Int32) (el : Nat) (n : Nat) : Int32 → va_W → Prop := fun r u => u = ([(x0, .inr (6, [.ref s0, .ref l0, .ref p0, .ref k0, .int (nI bf)])), (l0, .inr (7, [.int mc, .ref el, .int (nI n)]))] : va_W) ∧ r = nI 0
set_option maxHeartbeats 4000000 in
set_option maxRecDepth 100000 in
theorem c_last4_few (l : Launch) (D : va_G) (K : Nat → ClassId) (x0 : Nat) (s0 : Nat) (l0 : Nat) (p0 : Nat) (k0 : Nat) (bf : Nat) (mc : Int32) (el : Nat) (n : Nat) (hn4 : n < 4) : CI l y_SI_lastFourAreAlike b_SI_lastFourAreAlike 4 .boolean ({ frames := 3, cells := 0, slots := 0, locals := 80 } : Room) D K [.ref x0] ([(x0, .inr (6, [.ref s0, .ref l0, .ref p0, .ref k0, .int (nI bf)])), (l0, .inr (7, [.int mc, .ref el, .int (nI n)]))] : va_W) (q_last4_few K x0 s0 l0 p0 k0 bf mc el n) := by
  refine CI_of (by decide) (Nat.le_of_ble_eq_true rfl) ?_
  intro p e s m below meth c A b0 ls hF hA hP hD hl
  have hF2 := hF
  obtain ⟨hx, hb, hr, hml, hown, htw, hK, hlocks, hname⟩ := hF
  have hS : va_S A s.heap s.heap [] := va_S.rf
  have hl : lv_has ls 4 [(0, .ref x0)] := hl
  refine lv_aload_n hx hb d_SI_lastFourAreAlike_0 rfl (lv_at hl 0 rfl) ?_
  refine xg hx hb hown htw hK hP 0 1 rfl k_SI (by decide) fl_SI_19 rfl d_SI_lastFourAreAlike_1 ?_
  refine xcV_i (As := []) (rest := []) (wr := ([(x0, .inr (6, [.ref s0, .ref l0, .ref p0, .ref k0, .int (nI bf)]))] : va_W)) hx hb hml hown htw hK hA hl.1 hP hD hS (c_AL_size l D K l0 mc el n ) [1] [0] rfl rfl (by decide) (by decide) (by decide) 0 rfl k_AL ml_SI_115 w_AL_size rfl ⟨by decide, by decide⟩ rfl (Nat.le_of_ble_eq_true rfl) ⟨by decide, by decide⟩ d_SI_lastFourAreAlike_4 (fun r u H locs hpost hP hD hS => ?_)
  obtain ⟨rfl, rfl⟩ := hpost
  have hP : va_P D classes ([(x0, .inr (6, [.ref s0, .ref l0, .ref p0, .ref k0, .int (nI bf)])), (l0, .inr (7, [.int mc, .ref el, .int (nI n)]))] : va_W) H := hP
  have hD : va_D A ([(x0, .inr (6, [.ref s0, .ref l0, .ref p0, .ref k0, .int (nI bf)])), (l0, .inr (7, [.int mc, .ref el, .int (nI n)]))] : va_W) := hD
  refine lv_iconst (v := nI 4) hx hb d_SI_lastFourAreAlike_7 (by decide) ?_
  refine lv_isub hx hb d_SI_lastFourAreAlike_8 ?_
  refine xi (y := zI ((n : Int) - 4)) (nI_sub4 n) ?_
  refine lv_istore_n (lv' := [(1, .int (zI ((n : Int) - 4))), (0, .ref x0)]) hx hb d_SI_lastFourAreAlike_9 rfl hl (by decide) rfl (fun ls hl => ?_)
  refine lv_iload_n hx hb d_SI_lastFourAreAlike_10 rfl (lv_at hl 0 rfl) ?_
  refine xzz_ge (tgt := 16) (a := (n : Int) - 4) hx hb (by omega) (by omega) d_SI_lastFourAreAlike_11 (by decide) (fun c_11 => ?_) (fun c_11 => ?_)
  · omega
  · refine lv_iconst (v := nI 0) hx hb d_SI_lastFourAreAlike_14 (by decide) ?_
    exact xr_zret (by first | exact Or.inl rfl | exact Or.inr rfl | exact bN_v _) hx hb hr hlocks hP hD hS (Nat.le_of_ble_eq_true rfl) (Nat.le_of_ble_eq_true rfl) (⟨rfl, rfl⟩) d_SI_lastFourAreAlike_15

abbrev q_last4_four (K : Nat → ClassId) (x0 : Nat) (s0 : Nat) (l0 : Nat) (p0 : Nat) (k0 : Nat) (bf : Nat) (mc : Int32) (el : Nat) (n : Nat) (ne : Nat) (ef : Nat → Option Nat) (q1 : Nat) (f1 : Nat) (v1 : Nat) (w1 : Nat) (x1 : Nat) (y1 : Nat) (q2 : Nat) (f2 : Nat) (v2 : Nat) (w2 : Nat) (x2 : Nat) (y2 : Nat) (q3 : Nat) (f3 : Nat) (v3 : Nat) (w3 : Nat) (x3 : Nat) (y3 : Nat) (q4 : Nat) (f4 : Nat) (v4 : Nat) (w4 : Nat) (x4 : Nat) (y4 : Nat) : Int32 → va_W → Prop := fun r u => u = ([(x0, .inr (6, [.ref s0, .ref l0, .ref p0, .ref k0, .int (nI bf)])), (l0, .inr (7, [.int mc, .ref el, .int (nI n)])), (el, .inl (K 4, ne, .inr (.inr (.inr (.inr ef))))), (q1, .inr (3, [.int (nI f1), .int (nI v1), .int (nI w1), .int (nI x1), .int (nI y1)])), (q2, .inr (3, [.int (nI f2), .int (nI v2), .int (nI w2), .int (nI x2), .int (nI y2)])), (q3, .inr (3, [.int (nI f3), .int (nI v3), .int (nI w3), .int (nI x3), .int (nI y3)])), (q4, .inr (3, [.int (nI f4), .int (nI v4), .int (nI w4), .int (nI x4), .int (nI y4)]))] : va_W) ∧ r = nI (bN (v2 = v1 ∧ v3 = v1 ∧ v4 = v1))
set_option maxHeartbeats 4000000 in
set_option maxRecDepth 100000 in
theorem c_last4_four (l : Launch) (D : va_G) (K : Nat → ClassId) (x0 : Nat) (s0 : Nat) (l0 : Nat) (p0 : Nat) (k0 : Nat) (bf : Nat) (mc : Int32) (el : Nat) (n : Nat) (ne : Nat) (ef : Nat → Option Nat) (q1 : Nat) (f1 : Nat) (v1 : Nat) (w1 : Nat) (x1 : Nat) (y1 : Nat) (q2 : Nat) (f2 : Nat) (v2 : Nat) (w2 : Nat) (x2 : Nat) (y2 : Nat) (q3 : Nat) (f3 : Nat) (v3 : Nat) (w3 : Nat) (x3 : Nat) (y3 : Nat) (q4 : Nat) (f4 : Nat) (v4 : Nat) (w4 : Nat) (x4 : Nat) (y4 : Nat) (hne : ne < 2 ^ 20) (hnn : n ≤ ne) (hn4 : 4 ≤ n) (he1 : ef (n - 4) = some q1) (he2 : ef (n - 3) = some q2) (he3 : ef (n - 2) = some q3) (he4 : ef (n - 1) = some q4) (hv1 : v1 < 2 ^ 31) (hv2 : v2 < 2 ^ 31) (hv3 : v3 < 2 ^ 31) (hv4 : v4 < 2 ^ 31) : CI l y_SI_lastFourAreAlike b_SI_lastFourAreAlike 4 .boolean ({ frames := 3, cells := 0, slots := 0, locals := 80 } : Room) D K [.ref x0] ([(x0, .inr (6, [.ref s0, .ref l0, .ref p0, .ref k0, .int (nI bf)])), (l0, .inr (7, [.int mc, .ref el, .int (nI n)])), (el, .inl (K 4, ne, .inr (.inr (.inr (.inr ef))))), (q1, .inr (3, [.int (nI f1), .int (nI v1), .int (nI w1), .int (nI x1), .int (nI y1)])), (q2, .inr (3, [.int (nI f2), .int (nI v2), .int (nI w2), .int (nI x2), .int (nI y2)])), (q3, .inr (3, [.int (nI f3), .int (nI v3), .int (nI w3), .int (nI x3), .int (nI y3)])), (q4, .inr (3, [.int (nI f4), .int (nI v4), .int (nI w4), .int (nI x4), .int (nI y4)]))] : va_W) (q_last4_four K x0 s0 l0 p0 k0 bf mc el n ne ef q1 f1 v1 w1 x1 y1 q2 f2 v2 w2 x2 y2 q3 f3 v3 w3 x3 y3 q4 f4 v4 w4 x4 y4) := by
  refine CI_of (by decide) (Nat.le_of_ble_eq_true rfl) ?_
  intro p e s m below meth c A b0 ls hF hA hP hD hl
  have hF2 := hF
  obtain ⟨hx, hb, hr, hml, hown, htw, hK, hlocks, hname⟩ := hF
  have hS : va_S A s.heap s.heap [] := va_S.rf
  have hl : lv_has ls 4 [(0, .ref x0)] := hl
  refine lv_aload_n hx hb d_SI_lastFourAreAlike_0 rfl (lv_at hl 0 rfl) ?_
  refine xg hx hb hown htw hK hP 0 1 rfl k_SI (by decide) fl_SI_19 rfl d_SI_lastFourAreAlike_1 ?_
  refine xcV_i (As := []) (rest := []) (wr := ([(x0, .inr (6, [.ref s0, .ref l0, .ref p0, .ref k0, .int (nI bf)])), (el, .inl (K 4, ne, .inr (.inr (.inr (.inr ef))))), (q1, .inr (3, [.int (nI f1), .int (nI v1), .int (nI w1), .int (nI x1), .int (nI y1)])), (q2, .inr (3, [.int (nI f2), .int (nI v2), .int (nI w2), .int (nI x2), .int (nI y2)])), (q3, .inr (3, [.int (nI f3), .int (nI v3), .int (nI w3), .int (nI x3), .int (nI y3)])), (q4, .inr (3, [.int (nI f4), .int (nI v4), .int (nI w4), .int (nI x4), .int (nI y4)]))] : va_W)) hx hb hml hown htw hK hA hl.1 hP hD hS (c_AL_size l D K l0 mc el n ) [1] [0, 2, 3, 4, 5, 6] rfl rfl (by decide) (by decide) (by decide) 0 rfl k_AL ml_SI_115 w_AL_size rfl ⟨by decide, by decide⟩ rfl (Nat.le_of_ble_eq_true rfl) ⟨by decide, by decide⟩ d_SI_lastFourAreAlike_4 (fun r u H locs hpost hP hD hS => ?_)
  obtain ⟨rfl, rfl⟩ := hpost
  have hP : va_P D classes ([(x0, .inr (6, [.ref s0, .ref l0, .ref p0, .ref k0, .int (nI bf)])), (el, .inl (K 4, ne, .inr (.inr (.inr (.inr ef))))), (q1, .inr (3, [.int (nI f1), .int (nI v1), .int (nI w1), .int (nI x1), .int (nI y1)])), (q2, .inr (3, [.int (nI f2), .int (nI v2), .int (nI w2), .int (nI x2), .int (nI y2)])), (q3, .inr (3, [.int (nI f3), .int (nI v3), .int (nI w3), .int (nI x3), .int (nI y3)])), (q4, .inr (3, [.int (nI f4), .int (nI v4), .int (nI w4), .int (nI x4), .int (nI y4)])), (l0, .inr (7, [.int mc, .ref el, .int (nI n)]))] : va_W) H := hP
  have hD : va_D A ([(x0, .inr (6, [.ref s0, .ref l0, .ref p0, .ref k0, .int (nI bf)])), (el, .inl (K 4, ne, .inr (.inr (.inr (.inr ef))))), (q1, .inr (3, [.int (nI f1), .int (nI v1), .int (nI w1), .int (nI x1), .int (nI y1)])), (q2, .inr (3, [.int (nI f2), .int (nI v2), .int (nI w2), .int (nI x2), .int (nI y2)])), (q3, .inr (3, [.int (nI f3), .int (nI v3), .int (nI w3), .int (nI x3), .int (nI y3)])), (q4, .inr (3, [.int (nI f4), .int (nI v4), .int (nI w4), .int (nI x4), .int (nI y4)])), (l0, .inr (7, [.int mc, .ref el, .int (nI n)]))] : va_W) := hD
  refine lv_iconst (v := nI 4) hx hb d_SI_lastFourAreAlike_7 (by decide) ?_
  refine lv_isub hx hb d_SI_lastFourAreAlike_8 ?_
  refine xi (nI_sub (a := n) (b := 4) (by omega)) ?_
  refine lv_istore_n (lv' := [(1, .int (nI (n - 4))), (0, .ref x0)]) hx hb d_SI_lastFourAreAlike_9 rfl hl (by decide) rfl (fun ls hl => ?_)
  refine lv_iload_n hx hb d_SI_lastFourAreAlike_10 rfl (lv_at hl 0 rfl) ?_
  refine xz_ge (a := n - 4) (tgt := 16) hx hb (by omega) d_SI_lastFourAreAlike_11 (by decide) ?_
  refine lv_aload_n hx hb d_SI_lastFourAreAlike_16 rfl (lv_at hl 1 rfl) ?_
  refine xg hx hb hown htw hK hP 0 1 rfl k_SI (by decide) fl_SI_19 rfl d_SI_lastFourAreAlike_17 ?_
  refine lv_iload_n hx hb d_SI_lastFourAreAlike_20 rfl (lv_at hl 0 rfl) ?_
  refine xcV_r (As := [.int (nI (n - 4))]) (rest := []) (wr := ([(x0, .inr (6, [.ref s0, .ref l0, .ref p0, .ref k0, .int (nI bf)])), (q1, .inr (3, [.int (nI f1), .int (nI v1), .int (nI w1), .int (nI x1), .int (nI y1)])), (q2, .inr (3, [.int (nI f2), .int (nI v2), .int (nI w2), .int (nI x2), .int (nI y2)])), (q3, .inr (3, [.int (nI f3), .int (nI v3), .int (nI w3), .int (nI x3), .int (nI y3)])), (q4, .inr (3, [.int (nI f4), .int (nI v4), .int (nI w4), .int (nI x4), .int (nI y4)]))] : va_W)) hx hb hml hown htw hK hA hl.1 hP hD hS (c_AL_get l D K l0 mc el n ne ef (n - 4) q1 (by first | assumption | omega) (by first | assumption | omega) (by first | assumption | omega) (by exact he1)) [6, 1] [0, 2, 3, 4, 5] rfl rfl (by decide) (by decide) (by decide) 0 rfl k_AL ml_SI_200 w_AL_get rfl ⟨by decide, by decide⟩ rfl (Nat.le_of_ble_eq_true rfl) ⟨by decide, by decide⟩ d_SI_lastFourAreAlike_21 (fun r_21 u H locs hpost hP hD hS => ?_)
  obtain ⟨rfl, hr_21⟩ := hpost
  replace hr_21 := hr_21.symm
  subst hr_21
  have hP : va_P D classes ([(x0, .inr (6, [.ref s0, .ref l0, .ref p0, .ref k0, .int (nI bf)])), (q1, .inr (3, [.int (nI f1), .int (nI v1), .int (nI w1), .int (nI x1), .int (nI y1)])), (q2, .inr (3, [.int (nI f2), .int (nI v2), .int (nI w2), .int (nI x2), .int (nI y2)])), (q3, .inr (3, [.int (nI f3), .int (nI v3), .int (nI w3), .int (nI x3), .int (nI y3)])), (q4, .inr (3, [.int (nI f4), .int (nI v4), .int (nI w4), .int (nI x4), .int (nI y4)])), (l0, .inr (7, [.int mc, .ref el, .int (nI n)])), (el, .inl (K 4, ne, .inr (.inr (.inr (.inr ef)))))] : va_W) H := hP
  have hD : va_D A ([(x0, .inr (6, [.ref s0, .ref l0, .ref p0, .ref k0, .int (nI bf)])), (q1, .inr (3, [.int (nI f1), .int (nI v1), .int (nI w1), .int (nI x1), .int (nI y1)])), (q2, .inr (3, [.int (nI f2), .int (nI v2), .int (nI w2), .int (nI x2), .int (nI y2)])), (q3, .inr (3, [.int (nI f3), .int (nI v3), .int (nI w3), .int (nI x3), .int (nI y3)])), (q4, .inr (3, [.int (nI f4), .int (nI v4), .int (nI w4), .int (nI x4), .int (nI y4)])), (l0, .inr (7, [.int mc, .ref el, .int (nI n)])), (el, .inl (K 4, ne, .inr (.inr (.inr (.inr ef)))))] : va_W) := hD
  refine xcast (q0 := 1) hx hb hown htw hK hP rfl k_Sg cl_SI_204 d_SI_lastFourAreAlike_24 ?_
  refine xg hx hb hown htw hK hP 1 1 rfl k_Sg (by decide) fl_SI_206 rfl d_SI_lastFourAreAlike_27 ?_
  refine lv_istore_n (lv' := [(2, .int (nI v1)), (1, .int (nI (n - 4))), (0, .ref x0)]) hx hb d_SI_lastFourAreAlike_30 rfl hl (by decide) rfl (fun ls hl => ?_)
  refine lv_iload_n hx hb d_SI_lastFourAreAlike_31 rfl (lv_at hl 1 rfl) ?_
  refine lv_iconst (v := nI 1) hx hb d_SI_lastFourAreAlike_32 (by decide) ?_
  refine lv_iadd hx hb d_SI_lastFourAreAlike_33 ?_
  refine xi (nI_add (n - 4) 1) ?_
  refine lv_istore_n (lv' := [(3, .int (nI ((n - 4) + 1))), (2, .int (nI v1)), (1, .int (nI (n - 4))), (0, .ref x0)]) hx hb d_SI_lastFourAreAlike_34 rfl hl (by decide) rfl (fun ls hl => ?_)
  refine lv_iload_n hx hb d_SI_lastFourAreAlike_35 rfl (lv_at hl 0 rfl) ?_
  refine lv_aload_n hx hb d_SI_lastFourAreAlike_36 rfl (lv_at hl 3 rfl) ?_
  refine xg hx hb hown htw hK hP 0 1 rfl k_SI (by decide) fl_SI_19 rfl d_SI_lastFourAreAlike_37 ?_
  refine xcV_i (As := []) (rest := [.int (nI ((n - 4) + 1))]) (wr := ([(x0, .inr (6, [.ref s0, .ref l0, .ref p0, .ref k0, .int (nI bf)])), (q1, .inr (3, [.int (nI f1), .int (nI v1), .int (nI w1), .int (nI x1), .int (nI y1)])), (q2, .inr (3, [.int (nI f2), .int (nI v2), .int (nI w2), .int (nI x2), .int (nI y2)])), (q3, .inr (3, [.int (nI f3), .int (nI v3), .int (nI w3), .int (nI x3), .int (nI y3)])), (q4, .inr (3, [.int (nI f4), .int (nI v4), .int (nI w4), .int (nI x4), .int (nI y4)])), (el, .inl (K 4, ne, .inr (.inr (.inr (.inr ef)))))] : va_W)) hx hb hml hown htw hK hA hl.1 hP hD hS (c_AL_size l D K l0 mc el n ) [5] [0, 1, 2, 3, 4, 6] rfl rfl (by decide) (by decide) (by decide) 0 rfl k_AL ml_SI_115 w_AL_size rfl ⟨by decide, by decide⟩ rfl (Nat.le_of_ble_eq_true rfl) ⟨by decide, by decide⟩ d_SI_lastFourAreAlike_40 (fun r u H locs hpost hP hD hS => ?_)
  obtain ⟨rfl, rfl⟩ := hpost
  have hP : va_P D classes ([(x0, .inr (6, [.ref s0, .ref l0, .ref p0, .ref k0, .int (nI bf)])), (q1, .inr (3, [.int (nI f1), .int (nI v1), .int (nI w1), .int (nI x1), .int (nI y1)])), (q2, .inr (3, [.int (nI f2), .int (nI v2), .int (nI w2), .int (nI x2), .int (nI y2)])), (q3, .inr (3, [.int (nI f3), .int (nI v3), .int (nI w3), .int (nI x3), .int (nI y3)])), (q4, .inr (3, [.int (nI f4), .int (nI v4), .int (nI w4), .int (nI x4), .int (nI y4)])), (el, .inl (K 4, ne, .inr (.inr (.inr (.inr ef))))), (l0, .inr (7, [.int mc, .ref el, .int (nI n)]))] : va_W) H := hP
  have hD : va_D A ([(x0, .inr (6, [.ref s0, .ref l0, .ref p0, .ref k0, .int (nI bf)])), (q1, .inr (3, [.int (nI f1), .int (nI v1), .int (nI w1), .int (nI x1), .int (nI y1)])), (q2, .inr (3, [.int (nI f2), .int (nI v2), .int (nI w2), .int (nI x2), .int (nI y2)])), (q3, .inr (3, [.int (nI f3), .int (nI v3), .int (nI w3), .int (nI x3), .int (nI y3)])), (q4, .inr (3, [.int (nI f4), .int (nI v4), .int (nI w4), .int (nI x4), .int (nI y4)])), (el, .inl (K 4, ne, .inr (.inr (.inr (.inr ef))))), (l0, .inr (7, [.int mc, .ref el, .int (nI n)]))] : va_W) := hD
  refine xc_ge (tgt := 72) (a := (n - 4) + 1) (b := n) hx hb (by omega) (by omega) d_SI_lastFourAreAlike_43 (by decide) (fun c_43 => ?_) (fun c_43 => ?_)
  · omega
  · refine lv_aload_n hx hb d_SI_lastFourAreAlike_46 rfl (lv_at hl 3 rfl) ?_
    refine xg hx hb hown htw hK hP 0 1 rfl k_SI (by decide) fl_SI_19 rfl d_SI_lastFourAreAlike_47 ?_
    refine lv_iload_n hx hb d_SI_lastFourAreAlike_50 rfl (lv_at hl 0 rfl) ?_
    refine xcV_r (As := [.int (nI ((n - 4) + 1))]) (rest := []) (wr := ([(x0, .inr (6, [.ref s0, .ref l0, .ref p0, .ref k0, .int (nI bf)])), (q1, .inr (3, [.int (nI f1), .int (nI v1), .int (nI w1), .int (nI x1), .int (nI y1)])), (q2, .inr (3, [.int (nI f2), .int (nI v2), .int (nI w2), .int (nI x2), .int (nI y2)])), (q3, .inr (3, [.int (nI f3), .int (nI v3), .int (nI w3), .int (nI x3), .int (nI y3)])), (q4, .inr (3, [.int (nI f4), .int (nI v4), .int (nI w4), .int (nI x4), .int (nI y4)]))] : va_W)) hx hb hml hown htw hK hA hl.1 hP hD hS (c_AL_get l D K l0 mc el n ne ef ((n - 4) + 1) q2 (by first | assumption | omega) (by first | assumption | omega) (by first | assumption | omega) (by rw [show ((n - 4) + 1) = n - 3 from by omega]; exact he2)) [6, 5] [0, 1, 2, 3, 4] rfl rfl (by decide) (by decide) (by decide) 0 rfl k_AL ml_SI_200 w_AL_get rfl ⟨by decide, by decide⟩ rfl (Nat.le_of_ble_eq_true rfl) ⟨by decide, by decide⟩ d_SI_lastFourAreAlike_51 (fun r_51 u H locs hpost hP hD hS => ?_)
    obtain ⟨rfl, hr_51⟩ := hpost
    replace hr_51 := hr_51.symm
    subst hr_51
    have hP : va_P D classes ([(x0, .inr (6, [.ref s0, .ref l0, .ref p0, .ref k0, .int (nI bf)])), (q1, .inr (3, [.int (nI f1), .int (nI v1), .int (nI w1), .int (nI x1), .int (nI y1)])), (q2, .inr (3, [.int (nI f2), .int (nI v2), .int (nI w2), .int (nI x2), .int (nI y2)])), (q3, .inr (3, [.int (nI f3), .int (nI v3), .int (nI w3), .int (nI x3), .int (nI y3)])), (q4, .inr (3, [.int (nI f4), .int (nI v4), .int (nI w4), .int (nI x4), .int (nI y4)])), (l0, .inr (7, [.int mc, .ref el, .int (nI n)])), (el, .inl (K 4, ne, .inr (.inr (.inr (.inr ef)))))] : va_W) H := hP
    have hD : va_D A ([(x0, .inr (6, [.ref s0, .ref l0, .ref p0, .ref k0, .int (nI bf)])), (q1, .inr (3, [.int (nI f1), .int (nI v1), .int (nI w1), .int (nI x1), .int (nI y1)])), (q2, .inr (3, [.int (nI f2), .int (nI v2), .int (nI w2), .int (nI x2), .int (nI y2)])), (q3, .inr (3, [.int (nI f3), .int (nI v3), .int (nI w3), .int (nI x3), .int (nI y3)])), (q4, .inr (3, [.int (nI f4), .int (nI v4), .int (nI w4), .int (nI x4), .int (nI y4)])), (l0, .inr (7, [.int mc, .ref el, .int (nI n)])), (el, .inl (K 4, ne, .inr (.inr (.inr (.inr ef)))))] : va_W) := hD
    refine xcast (q0 := 2) hx hb hown htw hK hP rfl k_Sg cl_SI_204 d_SI_lastFourAreAlike_54 ?_
    refine xg hx hb hown htw hK hP 2 1 rfl k_Sg (by decide) fl_SI_206 rfl d_SI_lastFourAreAlike_57 ?_
    refine lv_iload_n hx hb d_SI_lastFourAreAlike_60 rfl (lv_at hl 1 rfl) ?_
    refine xc_eq (tgt := 66) (a := v2) (b := v1) hx hb (by omega) (by omega) d_SI_lastFourAreAlike_61 (by decide) (fun c_61 => ?_) (fun c_61 => ?_)
    · have k61_1 := c_61
      refine lv_iinc (v := nI (((n - 4) + 1) + 1)) (lv' := [(3, .int (nI (((n - 4) + 1) + 1))), (2, .int (nI v1)), (1, .int (nI (n - 4))), (0, .ref x0)]) hx hb d_SI_lastFourAreAlike_66 hl (k := 0) rfl (inc_nI _ _) (by decide) rfl (fun ls hl => ?_)
      refine lv_goto (tgt := 35) hx hb d_SI_lastFourAreAlike_69 (by decide) ?_
      refine lv_iload_n hx hb d_SI_lastFourAreAlike_35 rfl (lv_at hl 0 rfl) ?_
      refine lv_aload_n hx hb d_SI_lastFourAreAlike_36 rfl (lv_at hl 3 rfl) ?_
      refine xg hx hb hown htw hK hP 0 1 rfl k_SI (by decide) fl_SI_19 rfl d_SI_lastFourAreAlike_37 ?_
      refine xcV_i (As := []) (rest := [.int (nI (((n - 4) + 1) + 1))]) (wr := ([(x0, .inr (6, [.ref s0, .ref l0, .ref p0, .ref k0, .int (nI bf)])), (q1, .inr (3, [.int (nI f1), .int (nI v1), .int (nI w1), .int (nI x1), .int (nI y1)])), (q2, .inr (3, [.int (nI f2), .int (nI v2), .int (nI w2), .int (nI x2), .int (nI y2)])), (q3, .inr (3, [.int (nI f3), .int (nI v3), .int (nI w3), .int (nI x3), .int (nI y3)])), (q4, .inr (3, [.int (nI f4), .int (nI v4), .int (nI w4), .int (nI x4), .int (nI y4)])), (el, .inl (K 4, ne, .inr (.inr (.inr (.inr ef)))))] : va_W)) hx hb hml hown htw hK hA hl.1 hP hD hS (c_AL_size l D K l0 mc el n ) [5] [0, 1, 2, 3, 4, 6] rfl rfl (by decide) (by decide) (by decide) 0 rfl k_AL ml_SI_115 w_AL_size rfl ⟨by decide, by decide⟩ rfl (Nat.le_of_ble_eq_true rfl) ⟨by decide, by decide⟩ d_SI_lastFourAreAlike_40 (fun r u H locs hpost hP hD hS => ?_)
      obtain ⟨rfl, rfl⟩ := hpost
      have hP : va_P D classes ([(x0, .inr (6, [.ref s0, .ref l0, .ref p0, .ref k0, .int (nI bf)])), (q1, .inr (3, [.int (nI f1), .int (nI v1), .int (nI w1), .int (nI x1), .int (nI y1)])), (q2, .inr (3, [.int (nI f2), .int (nI v2), .int (nI w2), .int (nI x2), .int (nI y2)])), (q3, .inr (3, [.int (nI f3), .int (nI v3), .int (nI w3), .int (nI x3), .int (nI y3)])), (q4, .inr (3, [.int (nI f4), .int (nI v4), .int (nI w4), .int (nI x4), .int (nI y4)])), (el, .inl (K 4, ne, .inr (.inr (.inr (.inr ef))))), (l0, .inr (7, [.int mc, .ref el, .int (nI n)]))] : va_W) H := hP
      have hD : va_D A ([(x0, .inr (6, [.ref s0, .ref l0, .ref p0, .ref k0, .int (nI bf)])), (q1, .inr (3, [.int (nI f1), .int (nI v1), .int (nI w1), .int (nI x1), .int (nI y1)])), (q2, .inr (3, [.int (nI f2), .int (nI v2), .int (nI w2), .int (nI x2), .int (nI y2)])), (q3, .inr (3, [.int (nI f3), .int (nI v3), .int (nI w3), .int (nI x3), .int (nI y3)])), (q4, .inr (3, [.int (nI f4), .int (nI v4), .int (nI w4), .int (nI x4), .int (nI y4)])), (el, .inl (K 4, ne, .inr (.inr (.inr (.inr ef))))), (l0, .inr (7, [.int mc, .ref el, .int (nI n)]))] : va_W) := hD
      refine xc_ge (tgt := 72) (a := ((n - 4) + 1) + 1) (b := n) hx hb (by omega) (by omega) d_SI_lastFourAreAlike_43 (by decide) (fun c_43 => ?_) (fun c_43 => ?_)
      · omega
      · refine lv_aload_n hx hb d_SI_lastFourAreAlike_46 rfl (lv_at hl 3 rfl) ?_
        refine xg hx hb hown htw hK hP 0 1 rfl k_SI (by decide) fl_SI_19 rfl d_SI_lastFourAreAlike_47 ?_
        refine lv_iload_n hx hb d_SI_lastFourAreAlike_50 rfl (lv_at hl 0 rfl) ?_
        refine xcV_r (As := [.int (nI (((n - 4) + 1) + 1))]) (rest := []) (wr := ([(x0, .inr (6, [.ref s0, .ref l0, .ref p0, .ref k0, .int (nI bf)])), (q1, .inr (3, [.int (nI f1), .int (nI v1), .int (nI w1), .int (nI x1), .int (nI y1)])), (q2, .inr (3, [.int (nI f2), .int (nI v2), .int (nI w2), .int (nI x2), .int (nI y2)])), (q3, .inr (3, [.int (nI f3), .int (nI v3), .int (nI w3), .int (nI x3), .int (nI y3)])), (q4, .inr (3, [.int (nI f4), .int (nI v4), .int (nI w4), .int (nI x4), .int (nI y4)]))] : va_W)) hx hb hml hown htw hK hA hl.1 hP hD hS (c_AL_get l D K l0 mc el n ne ef (((n - 4) + 1) + 1) q3 (by first | assumption | omega) (by first | assumption | omega) (by first | assumption | omega) (by rw [show (((n - 4) + 1) + 1) = n - 2 from by omega]; exact he3)) [6, 5] [0, 1, 2, 3, 4] rfl rfl (by decide) (by decide) (by decide) 0 rfl k_AL ml_SI_200 w_AL_get rfl ⟨by decide, by decide⟩ rfl (Nat.le_of_ble_eq_true rfl) ⟨by decide, by decide⟩ d_SI_lastFourAreAlike_51 (fun r_51_2 u H locs hpost hP hD hS => ?_)
        obtain ⟨rfl, hr_51_2⟩ := hpost
        replace hr_51_2 := hr_51_2.symm
        subst hr_51_2
        have hP : va_P D classes ([(x0, .inr (6, [.ref s0, .ref l0, .ref p0, .ref k0, .int (nI bf)])), (q1, .inr (3, [.int (nI f1), .int (nI v1), .int (nI w1), .int (nI x1), .int (nI y1)])), (q2, .inr (3, [.int (nI f2), .int (nI v2), .int (nI w2), .int (nI x2), .int (nI y2)])), (q3, .inr (3, [.int (nI f3), .int (nI v3), .int (nI w3), .int (nI x3), .int (nI y3)])), (q4, .inr (3, [.int (nI f4), .int (nI v4), .int (nI w4), .int (nI x4), .int (nI y4)])), (l0, .inr (7, [.int mc, .ref el, .int (nI n)])), (el, .inl (K 4, ne, .inr (.inr (.inr (.inr ef)))))] : va_W) H := hP
        have hD : va_D A ([(x0, .inr (6, [.ref s0, .ref l0, .ref p0, .ref k0, .int (nI bf)])), (q1, .inr (3, [.int (nI f1), .int (nI v1), .int (nI w1), .int (nI x1), .int (nI y1)])), (q2, .inr (3, [.int (nI f2), .int (nI v2), .int (nI w2), .int (nI x2), .int (nI y2)])), (q3, .inr (3, [.int (nI f3), .int (nI v3), .int (nI w3), .int (nI x3), .int (nI y3)])), (q4, .inr (3, [.int (nI f4), .int (nI v4), .int (nI w4), .int (nI x4), .int (nI y4)])), (l0, .inr (7, [.int mc, .ref el, .int (nI n)])), (el, .inl (K 4, ne, .inr (.inr (.inr (.inr ef)))))] : va_W) := hD
        refine xcast (q0 := 3) hx hb hown htw hK hP rfl k_Sg cl_SI_204 d_SI_lastFourAreAlike_54 ?_
        refine xg hx hb hown htw hK hP 3 1 rfl k_Sg (by decide) fl_SI_206 rfl d_SI_lastFourAreAlike_57 ?_
        refine lv_iload_n hx hb d_SI_lastFourAreAlike_60 rfl (lv_at hl 1 rfl) ?_
        refine xc_eq (tgt := 66) (a := v3) (b := v1) hx hb (by omega) (by omega) d_SI_lastFourAreAlike_61 (by decide) (fun c_61 => ?_) (fun c_61 => ?_)
        · have k61_2 := c_61
          refine lv_iinc (v := nI ((((n - 4) + 1) + 1) + 1)) (lv' := [(3, .int (nI ((((n - 4) + 1) + 1) + 1))), (2, .int (nI v1)), (1, .int (nI (n - 4))), (0, .ref x0)]) hx hb d_SI_lastFourAreAlike_66 hl (k := 0) rfl (inc_nI _ _) (by decide) rfl (fun ls hl => ?_)
          refine lv_goto (tgt := 35) hx hb d_SI_lastFourAreAlike_69 (by decide) ?_
          refine lv_iload_n hx hb d_SI_lastFourAreAlike_35 rfl (lv_at hl 0 rfl) ?_
          refine lv_aload_n hx hb d_SI_lastFourAreAlike_36 rfl (lv_at hl 3 rfl) ?_
          refine xg hx hb hown htw hK hP 0 1 rfl k_SI (by decide) fl_SI_19 rfl d_SI_lastFourAreAlike_37 ?_
          refine xcV_i (As := []) (rest := [.int (nI ((((n - 4) + 1) + 1) + 1))]) (wr := ([(x0, .inr (6, [.ref s0, .ref l0, .ref p0, .ref k0, .int (nI bf)])), (q1, .inr (3, [.int (nI f1), .int (nI v1), .int (nI w1), .int (nI x1), .int (nI y1)])), (q2, .inr (3, [.int (nI f2), .int (nI v2), .int (nI w2), .int (nI x2), .int (nI y2)])), (q3, .inr (3, [.int (nI f3), .int (nI v3), .int (nI w3), .int (nI x3), .int (nI y3)])), (q4, .inr (3, [.int (nI f4), .int (nI v4), .int (nI w4), .int (nI x4), .int (nI y4)])), (el, .inl (K 4, ne, .inr (.inr (.inr (.inr ef)))))] : va_W)) hx hb hml hown htw hK hA hl.1 hP hD hS (c_AL_size l D K l0 mc el n ) [5] [0, 1, 2, 3, 4, 6] rfl rfl (by decide) (by decide) (by decide) 0 rfl k_AL ml_SI_115 w_AL_size rfl ⟨by decide, by decide⟩ rfl (Nat.le_of_ble_eq_true rfl) ⟨by decide, by decide⟩ d_SI_lastFourAreAlike_40 (fun r u H locs hpost hP hD hS => ?_)
          obtain ⟨rfl, rfl⟩ := hpost
          have hP : va_P D classes ([(x0, .inr (6, [.ref s0, .ref l0, .ref p0, .ref k0, .int (nI bf)])), (q1, .inr (3, [.int (nI f1), .int (nI v1), .int (nI w1), .int (nI x1), .int (nI y1)])), (q2, .inr (3, [.int (nI f2), .int (nI v2), .int (nI w2), .int (nI x2), .int (nI y2)])), (q3, .inr (3, [.int (nI f3), .int (nI v3), .int (nI w3), .int (nI x3), .int (nI y3)])), (q4, .inr (3, [.int (nI f4), .int (nI v4), .int (nI w4), .int (nI x4), .int (nI y4)])), (el, .inl (K 4, ne, .inr (.inr (.inr (.inr ef))))), (l0, .inr (7, [.int mc, .ref el, .int (nI n)]))] : va_W) H := hP
          have hD : va_D A ([(x0, .inr (6, [.ref s0, .ref l0, .ref p0, .ref k0, .int (nI bf)])), (q1, .inr (3, [.int (nI f1), .int (nI v1), .int (nI w1), .int (nI x1), .int (nI y1)])), (q2, .inr (3, [.int (nI f2), .int (nI v2), .int (nI w2), .int (nI x2), .int (nI y2)])), (q3, .inr (3, [.int (nI f3), .int (nI v3), .int (nI w3), .int (nI x3), .int (nI y3)])), (q4, .inr (3, [.int (nI f4), .int (nI v4), .int (nI w4), .int (nI x4), .int (nI y4)])), (el, .inl (K 4, ne, .inr (.inr (.inr (.inr ef))))), (l0, .inr (7, [.int mc, .ref el, .int (nI n)]))] : va_W) := hD
          refine xc_ge (tgt := 72) (a := (((n - 4) + 1) + 1) + 1) (b := n) hx hb (by omega) (by omega) d_SI_lastFourAreAlike_43 (by decide) (fun c_43 => ?_) (fun c_43 => ?_)
          · omega
          · refine lv_aload_n hx hb d_SI_lastFourAreAlike_46 rfl (lv_at hl 3 rfl) ?_
            refine xg hx hb hown htw hK hP 0 1 rfl k_SI (by decide) fl_SI_19 rfl d_SI_lastFourAreAlike_47 ?_
            refine lv_iload_n hx hb d_SI_lastFourAreAlike_50 rfl (lv_at hl 0 rfl) ?_
            refine xcV_r (As := [.int (nI ((((n - 4) + 1) + 1) + 1))]) (rest := []) (wr := ([(x0, .inr (6, [.ref s0, .ref l0, .ref p0, .ref k0, .int (nI bf)])), (q1, .inr (3, [.int (nI f1), .int (nI v1), .int (nI w1), .int (nI x1), .int (nI y1)])), (q2, .inr (3, [.int (nI f2), .int (nI v2), .int (nI w2), .int (nI x2), .int (nI y2)])), (q3, .inr (3, [.int (nI f3), .int (nI v3), .int (nI w3), .int (nI x3), .int (nI y3)])), (q4, .inr (3, [.int (nI f4), .int (nI v4), .int (nI w4), .int (nI x4), .int (nI y4)]))] : va_W)) hx hb hml hown htw hK hA hl.1 hP hD hS (c_AL_get l D K l0 mc el n ne ef ((((n - 4) + 1) + 1) + 1) q4 (by first | assumption | omega) (by first | assumption | omega) (by first | assumption | omega) (by rw [show ((((n - 4) + 1) + 1) + 1) = n - 1 from by omega]; exact he4)) [6, 5] [0, 1, 2, 3, 4] rfl rfl (by decide) (by decide) (by decide) 0 rfl k_AL ml_SI_200 w_AL_get rfl ⟨by decide, by decide⟩ rfl (Nat.le_of_ble_eq_true rfl) ⟨by decide, by decide⟩ d_SI_lastFourAreAlike_51 (fun r_51_3 u H locs hpost hP hD hS => ?_)
            obtain ⟨rfl, hr_51_3⟩ := hpost
            replace hr_51_3 := hr_51_3.symm
            subst hr_51_3
            have hP : va_P D classes ([(x0, .inr (6, [.ref s0, .ref l0, .ref p0, .ref k0, .int (nI bf)])), (q1, .inr (3, [.int (nI f1), .int (nI v1), .int (nI w1), .int (nI x1), .int (nI y1)])), (q2, .inr (3, [.int (nI f2), .int (nI v2), .int (nI w2), .int (nI x2), .int (nI y2)])), (q3, .inr (3, [.int (nI f3), .int (nI v3), .int (nI w3), .int (nI x3), .int (nI y3)])), (q4, .inr (3, [.int (nI f4), .int (nI v4), .int (nI w4), .int (nI x4), .int (nI y4)])), (l0, .inr (7, [.int mc, .ref el, .int (nI n)])), (el, .inl (K 4, ne, .inr (.inr (.inr (.inr ef)))))] : va_W) H := hP
            have hD : va_D A ([(x0, .inr (6, [.ref s0, .ref l0, .ref p0, .ref k0, .int (nI bf)])), (q1, .inr (3, [.int (nI f1), .int (nI v1), .int (nI w1), .int (nI x1), .int (nI y1)])), (q2, .inr (3, [.int (nI f2), .int (nI v2), .int (nI w2), .int (nI x2), .int (nI y2)])), (q3, .inr (3, [.int (nI f3), .int (nI v3), .int (nI w3), .int (nI x3), .int (nI y3)])), (q4, .inr (3, [.int (nI f4), .int (nI v4), .int (nI w4), .int (nI x4), .int (nI y4)])), (l0, .inr (7, [.int mc, .ref el, .int (nI n)])), (el, .inl (K 4, ne, .inr (.inr (.inr (.inr ef)))))] : va_W) := hD
            refine xcast (q0 := 4) hx hb hown htw hK hP rfl k_Sg cl_SI_204 d_SI_lastFourAreAlike_54 ?_
            refine xg hx hb hown htw hK hP 4 1 rfl k_Sg (by decide) fl_SI_206 rfl d_SI_lastFourAreAlike_57 ?_
            refine lv_iload_n hx hb d_SI_lastFourAreAlike_60 rfl (lv_at hl 1 rfl) ?_
            refine xc_eq (tgt := 66) (a := v4) (b := v1) hx hb (by omega) (by omega) d_SI_lastFourAreAlike_61 (by decide) (fun c_61 => ?_) (fun c_61 => ?_)
            · have k61_3 := c_61
              refine lv_iinc (v := nI (((((n - 4) + 1) + 1) + 1) + 1)) (lv' := [(3, .int (nI (((((n - 4) + 1) + 1) + 1) + 1))), (2, .int (nI v1)), (1, .int (nI (n - 4))), (0, .ref x0)]) hx hb d_SI_lastFourAreAlike_66 hl (k := 0) rfl (inc_nI _ _) (by decide) rfl (fun ls hl => ?_)
              refine lv_goto (tgt := 35) hx hb d_SI_lastFourAreAlike_69 (by decide) ?_
              refine lv_iload_n hx hb d_SI_lastFourAreAlike_35 rfl (lv_at hl 0 rfl) ?_
              refine lv_aload_n hx hb d_SI_lastFourAreAlike_36 rfl (lv_at hl 3 rfl) ?_
              refine xg hx hb hown htw hK hP 0 1 rfl k_SI (by decide) fl_SI_19 rfl d_SI_lastFourAreAlike_37 ?_
              refine xcV_i (As := []) (rest := [.int (nI (((((n - 4) + 1) + 1) + 1) + 1))]) (wr := ([(x0, .inr (6, [.ref s0, .ref l0, .ref p0, .ref k0, .int (nI bf)])), (q1, .inr (3, [.int (nI f1), .int (nI v1), .int (nI w1), .int (nI x1), .int (nI y1)])), (q2, .inr (3, [.int (nI f2), .int (nI v2), .int (nI w2), .int (nI x2), .int (nI y2)])), (q3, .inr (3, [.int (nI f3), .int (nI v3), .int (nI w3), .int (nI x3), .int (nI y3)])), (q4, .inr (3, [.int (nI f4), .int (nI v4), .int (nI w4), .int (nI x4), .int (nI y4)])), (el, .inl (K 4, ne, .inr (.inr (.inr (.inr ef)))))] : va_W)) hx hb hml hown htw hK hA hl.1 hP hD hS (c_AL_size l D K l0 mc el n ) [5] [0, 1, 2, 3, 4, 6] rfl rfl (by decide) (by decide) (by decide) 0 rfl k_AL ml_SI_115 w_AL_size rfl ⟨by decide, by decide⟩ rfl (Nat.le_of_ble_eq_true rfl) ⟨by decide, by decide⟩ d_SI_lastFourAreAlike_40 (fun r u H locs hpost hP hD hS => ?_)
              obtain ⟨rfl, rfl⟩ := hpost
              have hP : va_P D classes ([(x0, .inr (6, [.ref s0, .ref l0, .ref p0, .ref k0, .int (nI bf)])), (q1, .inr (3, [.int (nI f1), .int (nI v1), .int (nI w1), .int (nI x1), .int (nI y1)])), (q2, .inr (3, [.int (nI f2), .int (nI v2), .int (nI w2), .int (nI x2), .int (nI y2)])), (q3, .inr (3, [.int (nI f3), .int (nI v3), .int (nI w3), .int (nI x3), .int (nI y3)])), (q4, .inr (3, [.int (nI f4), .int (nI v4), .int (nI w4), .int (nI x4), .int (nI y4)])), (el, .inl (K 4, ne, .inr (.inr (.inr (.inr ef))))), (l0, .inr (7, [.int mc, .ref el, .int (nI n)]))] : va_W) H := hP
              have hD : va_D A ([(x0, .inr (6, [.ref s0, .ref l0, .ref p0, .ref k0, .int (nI bf)])), (q1, .inr (3, [.int (nI f1), .int (nI v1), .int (nI w1), .int (nI x1), .int (nI y1)])), (q2, .inr (3, [.int (nI f2), .int (nI v2), .int (nI w2), .int (nI x2), .int (nI y2)])), (q3, .inr (3, [.int (nI f3), .int (nI v3), .int (nI w3), .int (nI x3), .int (nI y3)])), (q4, .inr (3, [.int (nI f4), .int (nI v4), .int (nI w4), .int (nI x4), .int (nI y4)])), (el, .inl (K 4, ne, .inr (.inr (.inr (.inr ef))))), (l0, .inr (7, [.int mc, .ref el, .int (nI n)]))] : va_W) := hD
              refine xc_ge (tgt := 72) (a := ((((n - 4) + 1) + 1) + 1) + 1) (b := n) hx hb (by omega) (by omega) d_SI_lastFourAreAlike_43 (by decide) (fun c_43 => ?_) (fun c_43 => ?_)
              · refine lv_iconst (v := nI 1) hx hb d_SI_lastFourAreAlike_72 (by decide) ?_
                obtain ⟨hP, hD⟩ := xp (ws' := [(x0, .inr (6, [.ref s0, .ref l0, .ref p0, .ref k0, .int (nI bf)])), (l0, .inr (7, [.int mc, .ref el, .int (nI n)])), (el, .inl (K 4, ne, .inr (.inr (.inr (.inr ef))))), (q1, .inr (3, [.int (nI f1), .int (nI v1), .int (nI w1), .int (nI x1), .int (nI y1)])), (q2, .inr (3, [.int (nI f2), .int (nI v2), .int (nI w2), .int (nI x2), .int (nI y2)])), (q3, .inr (3, [.int (nI f3), .int (nI v3), .int (nI w3), .int (nI x3), .int (nI y3)])), (q4, .inr (3, [.int (nI f4), .int (nI v4), .int (nI w4), .int (nI x4), .int (nI y4)]))]) hP hD [0, 6, 5, 1, 2, 3, 4] (by decide) rfl
                exact xr_zret (by first | exact Or.inl rfl | exact Or.inr rfl | exact bN_v _) hx hb hr hlocks hP hD hS (Nat.le_of_ble_eq_true rfl) (Nat.le_of_ble_eq_true rfl) (⟨rfl, by rw [bN_t ⟨k61_1, k61_2, c_61⟩]⟩) d_SI_lastFourAreAlike_73
              · omega
            · refine lv_iconst (v := nI 0) hx hb d_SI_lastFourAreAlike_64 (by decide) ?_
              obtain ⟨hP, hD⟩ := xp (ws' := [(x0, .inr (6, [.ref s0, .ref l0, .ref p0, .ref k0, .int (nI bf)])), (l0, .inr (7, [.int mc, .ref el, .int (nI n)])), (el, .inl (K 4, ne, .inr (.inr (.inr (.inr ef))))), (q1, .inr (3, [.int (nI f1), .int (nI v1), .int (nI w1), .int (nI x1), .int (nI y1)])), (q2, .inr (3, [.int (nI f2), .int (nI v2), .int (nI w2), .int (nI x2), .int (nI y2)])), (q3, .inr (3, [.int (nI f3), .int (nI v3), .int (nI w3), .int (nI x3), .int (nI y3)])), (q4, .inr (3, [.int (nI f4), .int (nI v4), .int (nI w4), .int (nI x4), .int (nI y4)]))]) hP hD [0, 5, 6, 1, 2, 3, 4] (by decide) rfl
              exact xr_zret (by first | exact Or.inl rfl | exact Or.inr rfl | exact bN_v _) hx hb hr hlocks hP hD hS (Nat.le_of_ble_eq_true rfl) (Nat.le_of_ble_eq_true rfl) (⟨rfl, by rw [bN_f (fun w => by first | exact c_61 w.1 | exact c_61 w.2.1 | exact c_61 w.2.2)]⟩) d_SI_lastFourAreAlike_65
        · refine lv_iconst (v := nI 0) hx hb d_SI_lastFourAreAlike_64 (by decide) ?_
          obtain ⟨hP, hD⟩ := xp (ws' := [(x0, .inr (6, [.ref s0, .ref l0, .ref p0, .ref k0, .int (nI bf)])), (l0, .inr (7, [.int mc, .ref el, .int (nI n)])), (el, .inl (K 4, ne, .inr (.inr (.inr (.inr ef))))), (q1, .inr (3, [.int (nI f1), .int (nI v1), .int (nI w1), .int (nI x1), .int (nI y1)])), (q2, .inr (3, [.int (nI f2), .int (nI v2), .int (nI w2), .int (nI x2), .int (nI y2)])), (q3, .inr (3, [.int (nI f3), .int (nI v3), .int (nI w3), .int (nI x3), .int (nI y3)])), (q4, .inr (3, [.int (nI f4), .int (nI v4), .int (nI w4), .int (nI x4), .int (nI y4)]))]) hP hD [0, 5, 6, 1, 2, 3, 4] (by decide) rfl
          exact xr_zret (by first | exact Or.inl rfl | exact Or.inr rfl | exact bN_v _) hx hb hr hlocks hP hD hS (Nat.le_of_ble_eq_true rfl) (Nat.le_of_ble_eq_true rfl) (⟨rfl, by rw [bN_f (fun w => by first | exact c_61 w.1 | exact c_61 w.2.1 | exact c_61 w.2.2)]⟩) d_SI_lastFourAreAlike_65
    · refine lv_iconst (v := nI 0) hx hb d_SI_lastFourAreAlike_64 (by decide) ?_
      obtain ⟨hP, hD⟩ := xp (ws' := [(x0, .inr (6, [.ref s0, .ref l0, .ref p0, .ref k0, .int (nI bf)])), (l0, .inr (7, [.int mc, .ref el, .int (nI n)])), (el, .inl (K 4, ne, .inr (.inr (.inr (.inr ef))))), (q1, .inr (3, [.int (nI f1), .int (nI v1), .int (nI w1), .int (nI x1), .int (nI y1)])), (q2, .inr (3, [.int (nI f2), .int (nI v2), .int (nI w2), .int (nI x2), .int (nI y2)])), (q3, .inr (3, [.int (nI f3), .int (nI v3), .int (nI w3), .int (nI x3), .int (nI y3)])), (q4, .inr (3, [.int (nI f4), .int (nI v4), .int (nI w4), .int (nI x4), .int (nI y4)]))]) hP hD [0, 5, 6, 1, 2, 3, 4] (by decide) rfl
      exact xr_zret (by first | exact Or.inl rfl | exact Or.inr rfl | exact bN_v _) hx hb hr hlocks hP hD hS (Nat.le_of_ble_eq_true rfl) (Nat.le_of_ble_eq_true rfl) (⟨rfl, by rw [bN_f (fun w => by first | exact c_61 w.1 | exact c_61 w.2.1 | exact c_61 w.2.2)]⟩) d_SI_lastFourAreAlike_65


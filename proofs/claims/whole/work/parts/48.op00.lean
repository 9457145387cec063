def LW (p : Program) (l : Launch) (e : Env) (s : State) (m : MethodId) (below : List Frame) (meth : Method) (c : Code) (D : va_G) (K : Nat → ClassId) (bb x0 s0 l0 p0 k0 t0 a1 a2 a3 b1 b2 k1 p1 o0 m0 r1 r2 r3 r4 r5 r6 r7 r8 r9 i : Nat) : Prop := ∀ (bf : Nat) (cm : Nat) (T : Nat) (hd : Nat) (sa : Nat → Nat) (st : Nat → Nat) (is : Nat → Nat) (ch : Nat → Nat) (ct : Nat → Int64) (mc : Int32) (el : Nat) (n : Nat) (ne : Nat) (ef : Nat → Option Nat) (L : List sgc) (z : Nat) (f : Nat → Int64) (ht : Nat) (pf : Nat → Option Nat) (sc : Nat → sC) (fo : Nat → Int64) (th : Nat) (rd : Nat → Nat) (rs : Nat → Nat) (ru : Nat → Int32) (rl : Nat → Int32) (wh : Nat → Int) (tkn : Nat → Nat) (lv : Nat → Nat) (rh : Nat → Nat) (sz : Nat → Nat), hd = st cm → REL K i bf cm T sa st is ch ct el n ne ef L ht pf sc rd rs ru rl wh tkn lv rh sz → ∀ (H : Heap) (locs : List Loc), va_P D classes (([(x0, .inr (6, [.ref s0, .ref l0, .ref p0, .ref k0, .int (nI bf)])), (s0, .inr (4, [.ref t0, .ref a1, .ref a2, .ref a3, .int (nI cm)])), (t0, .inr (5, [.ref b1, .ref b2, .int (nI T)])), (a1, .inl (K 0, 600, .inl (nA sa))), (a2, .inl (K 0, 601, .inl (nA st))), (a3, .inl (K 0, 4, .inl (nA is))), (b1, .inl (K 0, 512, .inl (nA ch))), (b2, .inl (K 1, 512, .inr (.inl ct))), (l0, .inr (7, [.int mc, .ref el, .int (nI n)])), (k0, .inr (1, [.ref k1, .int (nI z)])), (k1, .inl (K 1, 512, .inr (.inl f))), (p0, .inr (2, [.ref p1, .int (nI ht)])), (p1, .inl (K 3, 9, .inr (.inr (.inr (.inr pf))))), (o0, .inl (K 1, 1, .inr (.inl fo))), (m0, .inr (8, [.int (nI th), .int (nI T), .int (nI hd), .ref r1, .ref r2, .ref r3, .ref r4, .int (nI cm), .ref r5, .ref r6, .int (nI n), .ref r7, .int (nI ht), .ref r8, .ref r9])), (r1, .inl (K 0, 520, .inl (nA rd))), (r2, .inl (K 0, 520, .inl (nA rs))), (r3, .inl (K 0, 520, .inl ru)), (r4, .inl (K 0, 520, .inl rl)), (r5, .inl (K 0, 600, .inl (zA wh))), (r6, .inl (K 2, 600, .inl (nA tkn))), (r7, .inl (K 0, 64, .inl (nA lv))), (r8, .inl (K 0, 4680, .inl (nA rh))), (r9, .inl (K 0, 9, .inl (nA sz)))] : va_W) ++ (tlS K el ne ef L ++ fam K sc (List.range 9))) H → va_D (fun q : Nat => s.heap.size ≤ q) (([(x0, .inr (6, [.ref s0, .ref l0, .ref p0, .ref k0, .int (nI bf)])), (s0, .inr (4, [.ref t0, .ref a1, .ref a2, .ref a3, .int (nI cm)])), (t0, .inr (5, [.ref b1, .ref b2, .int (nI T)])), (a1, .inl (K 0, 600, .inl (nA sa))), (a2, .inl (K 0, 601, .inl (nA st))), (a3, .inl (K 0, 4, .inl (nA is))), (b1, .inl (K 0, 512, .inl (nA ch))), (b2, .inl (K 1, 512, .inr (.inl ct))), (l0, .inr (7, [.int mc, .ref el, .int (nI n)])), (k0, .inr (1, [.ref k1, .int (nI z)])), (k1, .inl (K 1, 512, .inr (.inl f))), (p0, .inr (2, [.ref p1, .int (nI ht)])), (p1, .inl (K 3, 9, .inr (.inr (.inr (.inr pf))))), (o0, .inl (K 1, 1, .inr (.inl fo))), (m0, .inr (8, [.int (nI th), .int (nI T), .int (nI hd), .ref r1, .ref r2, .ref r3, .ref r4, .int (nI cm), .ref r5, .ref r6, .int (nI n), .ref r7, .int (nI ht), .ref r8, .ref r9])), (r1, .inl (K 0, 520, .inl (nA rd))), (r2, .inl (K 0, 520, .inl (nA rs))), (r3, .inl (K 0, 520, .inl ru)), (r4, .inl (K 0, 520, .inl rl)), (r5, .inl (K 0, 600, .inl (zA wh))), (r6, .inl (K 2, 600, .inl (nA tkn))), (r7, .inl (K 0, 64, .inl (nA lv))), (r8, .inl (K 0, 4680, .inl (nA rh))), (r9, .inl (K 0, 9, .inl (nA sz)))] : va_W) ++ (tlS K el ne ef L ++ fam K sc (List.range 9))) → va_S (fun q : Nat => s.heap.size ≤ q) s.heap H locs → ∀ ls : Array Slot, lv_has ls 7 [(0, .ref bb), (1, .ref x0), (2, .ref m0), (3, .ref o0), (4, .int (nI (5 * i)))] → W p l e room_1 s m #[Value.ref bb] below meth c H locs (45 + 45 * i) (16000 + 450 * i) (lw_Z below #[Value.ref bb] s) (F0 m 23 ls [])
theorem pf_1 {pf : Nat → Option Nat} {sc : Nat → sC} {j : Nat} {b z : Nat} {g : Nat → Nat} (h : ∀ k, k < 9 → pf k = some (sc k).1) : ∀ k, k < 9 → va_up (va_up pf j (some (sc j).1)) j (some (sc j).1) k = some (va_up sc j ((sc j).1, b, z, g) k).1 := by
  intro k hk
  by_cases e : k = j
  · subst e
    rw [va_up_self, va_up_self]
  · rw [va_up_ne _ _ e, va_up_ne _ _ e, va_up_ne _ _ e]
    exact h k hk
theorem pf_0 {pf : Nat → Option Nat} {sc : Nat → sC} {j : Nat} {b z : Nat} {g : Nat → Nat} (h : ∀ k, k < 9 → pf k = some (sc k).1) : ∀ k, k < 9 → pf k = some (va_up sc j ((sc j).1, b, z, g) k).1 := by
  intro k hk
  by_cases e : k = j
  · subst e
    rw [va_up_self]
    exact h k hk
  · rw [va_up_ne _ _ e]
    exact h k hk
theorem pf_2 {pf : Nat → Option Nat} {sc : Nat → sC} {j q : Nat} {b z : Nat} {g : Nat → Nat} (hq : q ≠ j) (h : ∀ k, k < 9 → pf k = some (sc k).1) : ∀ k, k < 9 → va_up (va_up pf j (some (sc q).1)) q (some (sc j).1) k = some (va_up (va_up sc q ((sc j).1, b, z, g)) j (sc q) k).1 := by
  intro k hk
  by_cases e : k = q
  · subst e
    rw [va_up_self, va_up_ne _ _ hq, va_up_self]
  · rw [va_up_ne _ _ e]
    by_cases e2 : k = j
    · subst e2
      rw [va_up_self, va_up_self]
    · rw [va_up_ne _ _ e2, va_up_ne _ _ e2, va_up_ne _ _ e]
      exact h k hk
theorem zs_le {za : Nat → Nat} {ga : Nat → Nat → Nat} {ht : Nat} {rh sz ch : Nat → Nat} {T : Nat} (h : seR za ga ht rh sz ch T) (hT : T ≤ 512) {j : Nat} (hj : j < ht) : za j ≤ 512 := by
  rw [(h j hj).1]
  exact Nat.le_trans (seR_le h hj) hT
theorem erase_perm : ∀ {L : List sgc} {q : Nat} (h : q < L.length), L.Perm (L[q] :: L.eraseIdx q)
  | [], _, h => absurd h (Nat.not_lt_zero _)
  | a :: L, 0, _ => List.Perm.refl _
  | a :: L, q + 1, h => ((erase_perm (L := L) (q := q) (Nat.lt_of_succ_lt_succ h)).cons a).trans (List.Perm.swap _ _ _)
theorem pull_seg {K : Nat → ClassId} {el ne : Nat} {ef : Nat → Option Nat} {L : List sgc} {q : Nat} {s : sgc} (E F : va_W) (hn : ¬ ne = 0) (h : L[q]? = some s) : (E ++ (tlS K el ne ef L ++ F)).Perm ((E ++ [((el, .inl (K 4, ne, .inr (.inr (.inr (.inr ef))))) : Nat × va_E), sgE s]) ++ (sgW (L.eraseIdx q) ++ F)) := by
  unfold tlS
  rw [EA_n hn, List.append_assoc E]
  refine List.Perm.append_left E ?_
  rw [List.append_assoc]
  refine List.Perm.cons _ ?_
  show (sgW L ++ F).Perm ((sgE s :: sgW (L.eraseIdx q)) ++ F)
  refine List.Perm.append_right F ?_
  obtain ⟨hq, rfl⟩ := List.getElem?_eq_some_iff.mp h
  have hp : L.Perm (L[q] :: L.eraseIdx q) := erase_perm hq
  exact hp.map sgE
theorem cnP_sub_lt {A B : Nat → Prop} : ∀ {n d : Nat}, (∀ i, i < n → A i → B i) → d < n → B d → ¬ A d → cnP A n < cnP B n
  | 0, d, _, h, _, _ => absurd h (Nat.not_lt_zero _)
  | n + 1, d, hs, hd, hB, hA => by
    have hle : ∀ m, m ≤ n + 1 → cnP A m ≤ cnP B m := by
      intro m
      induction m with
      | zero => intro _; exact Nat.le_refl _
      | succ m ih =>
        intro hm
        have := ih (by omega)
        by_cases q : A m
        · rw [cnP_y q, cnP_y (hs m (by omega) q)]
          omega
        · rw [cnP_n q]
          exact Nat.le_trans this (Nat.le_add_right _ _)
    rcases Nat.lt_or_ge d n with w | w
    · have ih := cnP_sub_lt (A := A) (B := B) (n := n) (d := d) (fun i hi => hs i (by omega)) w hB hA
      by_cases q : A n
      · rw [cnP_y q, cnP_y (hs n (by omega) q)]
        omega
      · rw [cnP_n q]
        exact Nat.lt_of_lt_of_le ih (Nat.le_add_right _ _)
    · have e : d = n := by omega
      subst e
      rw [cnP_n hA, cnP_y hB]
      have := hle d (by omega)
      omega
section KB
variable {ch : Nat → Nat} {ct : Nat → Int64} {st : Nat → Nat} {cm T : Nat} {rd rs : Nat → Nat} {ru rl : Nat → Int32} {za : Nat → Nat} {ga : Nat → Nat → Nat} {ht : Nat} {rh sz : Nat → Nat}
theorem k_docs (htk : tkR ch ct st cm T rd rs ru rl) (hse : seR za ga ht rh sz ch (st cm)) (h0 : 0 < ht) : cnP (rkE (za (ht - 1)) (ga (ht - 1))) (za (ht - 1)) = cnP (fun d9 => 0 < rcnt rh sz (ht - 1) d9) cm := by
  have h := rkE_docs2 (k_mono hse h0) (k_doc htk hse h0) (fun _ => True)
  rw [cnP_congr (P := fun k => rkE (za (ht - 1)) (ga (ht - 1)) k ∧ True) (Q := rkE (za (ht - 1)) (ga (ht - 1))) (fun i _ => ⟨fun w => w.1, fun w => ⟨w, trivial⟩⟩)] at h
  rw [h]
  exact cnP_congr fun d _ => by rw [k_cnt hse h0 d]; exact ⟨fun w => w.1, fun w => ⟨w, trivial⟩⟩
theorem k_M (htk : tkR ch ct st cm T rd rs ru rl) (hse : seR za ga ht rh sz ch (st cm)) (h0 : 0 < ht) (f : Nat → Int64) : (rkS f (za (ht - 1)) (ga (ht - 1)) (za (ht - 1))).2.1 = cnP (fun d9 => 0 < rcnt rh sz (ht - 1) d9) cm := by
  rw [(rkS_at (f := f) (k_mono hse h0) _ (Nat.le_refl _)).2.2]
  exact k_docs htk hse h0
theorem ahead_lt {q cm d : Nat} (hd : d < cm) (hp : 0 < rcnt rh sz q d) : rahead rh sz q cm d < cnP (fun d9 => 0 < rcnt rh sz q d9) cm :=
  cnP_sub_lt (fun e he w => by rcases w with w | w <;> omega) hd hp (fun w => by omega)
theorem k_best_no (htk : tkR ch ct st cm T rd rs ru rl) (hse : seR za ga ht rh sz ch (st cm)) (h0 : 0 < ht) (hcm : cm ≤ 600) {f : Nat → Int64} {x rr : Int32} (hout : x < 0 ∨ nI (rkS f (za (ht - 1)) (ga (ht - 1)) (za (ht - 1))).2.1 ≤ x)
    (hb : (∃ d, d < cm ∧ 0 < rcnt rh sz (ht - 1) d ∧ nI (rahead rh sz (ht - 1) cm d) = x ∧ rr = nI d) ∨ ((∀ d, d < cm → ¬ (0 < rcnt rh sz (ht - 1) d ∧ nI (rahead rh sz (ht - 1) cm d) = x)) ∧ rr = zI (-1))) : zI (-1) = rr := by
  rcases hb with ⟨d, h1, h2, h3, h4⟩ | ⟨_, h⟩
  · exfalso
    have hl := ahead_lt h1 h2
    rw [← k_M htk hse h0 f] at hl
    have hle := cnP_le (fun d9 => 0 < rcnt rh sz (ht - 1) d9) cm
    rw [← k_M htk hse h0 f] at hle
    rw [← h3] at hout
    rcases hout with w | w
    · rw [nI_zI, show (0 : Int32) = zI 0 from rfl, zI_lt (by omega) (by omega) (by omega) (by omega)] at w
      omega
    · rw [nI_zI, nI_zI, zI_le (by omega) (by omega) (by omega) (by omega)] at w
      omega
  · exact h.symm
theorem k_best_ok (htk : tkR ch ct st cm T rd rs ru rl) (hse : seR za ga ht rh sz ch (st cm)) (h0 : 0 < ht) (hcm : cm ≤ 600) (hT : st cm ≤ 512) {f f' : Nat → Int64} {k : Nat} {rr : Int32} (hk : k < (rkS f (za (ht - 1)) (ga (ht - 1)) (za (ht - 1))).2.1)
    (hcnt : ∀ v, hp_cnt f' v (rkS f (za (ht - 1)) (ga (ht - 1)) (za (ht - 1))).2.1 = hp_cnt (rkS f (za (ht - 1)) (ga (ht - 1)) (za (ht - 1))).2.2 v (rkS f (za (ht - 1)) (ga (ht - 1)) (za (ht - 1))).2.1) (hsrt : ∀ i j, i ≤ j → j < (rkS f (za (ht - 1)) (ga (ht - 1)) (za (ht - 1))).2.1 → f' i ≤ f' j)
    (hb : (∃ d, d < cm ∧ 0 < rcnt rh sz (ht - 1) d ∧ nI (rahead rh sz (ht - 1) cm d) = nI k ∧ rr = nI d) ∨ ((∀ d, d < cm → ¬ (0 < rcnt rh sz (ht - 1) d ∧ nI (rahead rh sz (ht - 1) cm d) = nI k)) ∧ rr = zI (-1))) : (f' k &&& 1023).toInt32 = rr := by
  have hz := zs_le hse hT (show ht - 1 < ht by omega)
  obtain ⟨b1, b2, b3⟩ := best_at (f := f) (f' := f') (by omega) hcm (k_mono hse h0) (k_doc htk hse h0) hcnt hsrt
  have hM := cnP_le (fun d => 0 < cnP (fun j => ga (ht - 1) j / 2 ^ 14 = d) (za (ht - 1))) cm
  rw [← b1] at hM
  have hr : ∀ d, cnP (fun e => cnP (fun j => ga (ht - 1) j / 2 ^ 14 = d) (za (ht - 1)) < cnP (fun j => ga (ht - 1) j / 2 ^ 14 = e) (za (ht - 1)) ∨ (cnP (fun j => ga (ht - 1) j / 2 ^ 14 = e) (za (ht - 1)) = cnP (fun j => ga (ht - 1) j / 2 ^ 14 = d) (za (ht - 1)) ∧ e < d)) cm = rahead rh sz (ht - 1) cm d := by
    intro d
    unfold rahead
    exact cnP_congr fun e _ => by rw [k_cnt hse h0 d, k_cnt hse h0 e]
  have hle : ∀ d, cnP (fun j => ga (ht - 1) j / 2 ^ 14 = d) (za (ht - 1)) ≤ 1000 := fun d => by
    have := cnP_le (fun j => ga (ht - 1) j / 2 ^ 14 = d) (za (ht - 1))
    omega
  obtain ⟨d, d1, d2, d3, d4⟩ := b2 k hk
  rw [hr d] at d4
  rw [d3, rkK_doc (hle d) (by omega)]
  rcases hb with ⟨e, h1, h2, h3, h4⟩ | ⟨h, _⟩
  · rw [h4]
    have hl := ahead_lt h1 h2
    have hle2 := cnP_le (fun d9 => 0 < rcnt rh sz (ht - 1) d9) cm
    have he : rahead rh sz (ht - 1) cm e = k := nI_inj (by omega) (by omega) h3
    obtain ⟨k2, g1, g2⟩ := b3 e h1 (by rw [k_cnt hse h0 e]; exact h2)
    obtain ⟨d9, q1, q2, q3, q4⟩ := b2 k2 g1
    rw [hr d9] at q4
    have e9 : d9 = e := rkK_inj (hle d9) (by omega) (hle e) (by omega) (q3.symm.trans g2)
    rw [e9, he] at q4
    rw [← q4, d3] at g2
    have := rkK_inj (hle d) (by omega) (hle e) (by omega) g2
    rw [this]
  · exact absurd ⟨by rw [← k_cnt hse h0 d]; exact d2, by rw [d4]⟩ (h d d1)
end KB


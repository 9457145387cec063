theorem dec_z (a : Nat) : nI a + Int32.ofInt (-(1 : Int)) = zI ((a : Int) - 1) := by
  rw [nI_zI]
  exact (Int32.ofInt_add _ _).symm
theorem zI_pred {k : Nat} (h : 0 < k) : zI ((k : Int) - 1) = nI (k - 1) := by
  rw [nI_zI]
  congr 1
  omega
theorem nI_sub1 (n : Nat) : nI n - nI 1 = zI ((n : Int) - 1) := by
  rw [nI_zI, nI_zI]
  exact (Int32.ofInt_sub _ _).symm
theorem cnP_zero {P : Nat → Prop} : ∀ {n : Nat}, (∀ i, i < n → ¬ P i) → cnP P n = 0
  | 0, _ => rfl
  | n + 1, h => by rw [cnP_n (h n (Nat.lt_succ_self n))]; exact cnP_zero fun i hi => h i (Nat.lt_succ_of_lt hi)
theorem cnP_skip {P : Nat → Prop} {a : Nat} : ∀ {m : Nat}, (∀ i, a ≤ i → i < a + m → ¬ P i) → cnP P (a + m) = cnP P a
  | 0, _ => rfl
  | m + 1, h => by
    show cnP P ((a + m) + 1) = _
    rw [cnP_n (h (a + m) (by omega) (by omega))]
    exact cnP_skip fun i h1 h2 => h i h1 (by omega)
theorem cnP_upd {sa : Nat → Nat} {x d v : Nat} : ∀ {n : Nat}, d < n → cnP (fun k => va_up sa d v k = x) n + bN (sa d = x) = cnP (fun k => sa k = x) n + bN (v = x)
  | 0, h => by omega
  | n + 1, h => by
    show cnP (fun k => va_up sa d v k = x) n + bN (va_up sa d v n = x) + _ = cnP (fun k => sa k = x) n + bN (sa n = x) + _
    rcases Nat.lt_or_ge d n with q | q
    · have := cnP_upd (sa := sa) (x := x) (v := v) q
      rw [show va_up sa d v n = sa n from if_neg (by omega)]
      omega
    · have e : d = n := by omega
      subst e
      rw [show va_up sa d v d = v from if_pos rfl, cnP_congr (P := fun k => va_up sa d v k = x) (Q := fun k => sa k = x) (fun i hi => by show va_up sa d v i = x ↔ _; rw [show va_up sa d v i = sa i from if_neg (by omega)])]
      omega
theorem cnP_pos {P : Nat → Prop} : ∀ {n d : Nat}, d < n → P d → 0 < cnP P n
  | 0, d, h, _ => by omega
  | n + 1, d, h, hp => by
    rcases Nat.lt_or_ge d n with q | q
    · exact Nat.lt_of_lt_of_le (cnP_pos q hp) (Nat.le_add_right _ _)
    · have e : d = n := by omega
      subst e
      rw [cnP_y hp]
      omega
/-- the documents are counted by their states -/
def isC (is sa : Nat → Nat) (cm : Nat) : Prop := ∀ x, x < 4 → is x = cnP (fun k => sa k = x) cm
theorem isC_pos {is sa : Nat → Nat} {cm d : Nat} (h : isC is sa cm) (hd : d < cm) (h4 : sa d < 4) : 0 < is (sa d) := by
  rw [h _ h4]
  exact cnP_pos (P := fun k => sa k = sa d) hd rfl
theorem isC_mvC {is sa : Nat → Nat} {cm d v : Nat} (h : isC is sa cm) (hd : d < cm) (h4 : sa d < 4) (hv : v < 4) : isC (mvC is (sa d) v) (va_up sa d v) cm := by
  intro x hx
  have e := cnP_upd (sa := sa) (x := x) (v := v) hd
  have hp := isC_pos h hd h4
  have hx' := h x hx
  have b1 : bN (v = x) = if x = v then 1 else 0 := by
    by_cases w : x = v
    · rw [if_pos w, bN_t w.symm]
    · rw [if_neg w, bN_f (fun z => w z.symm)]
  have b2 : bN (sa d = x) = if x = sa d then 1 else 0 := by
    by_cases w : x = sa d
    · rw [if_pos w, bN_t w.symm]
    · rw [if_neg w, bN_f (fun z => w z.symm)]
  rw [b1, b2] at e
  show (if x = v then (if v = sa d then is (sa d) - 1 else is v) + 1 else (if x = sa d then is (sa d) - 1 else is x)) = _
  by_cases q : x = v
  · subst q
    by_cases r : x = sa d
    · rw [if_pos rfl, if_pos r]
      rw [if_pos rfl, if_pos r] at e
      rw [← r]
      rw [← r] at hp
      omega
    · rw [if_pos rfl, if_neg r]
      rw [if_pos rfl, if_neg r] at e
      omega
  · by_cases r : x = sa d
    · rw [if_neg q, if_pos r]
      rw [if_neg q, if_pos r] at e
      rw [← r]
      rw [← r] at hp
      omega
    · rw [if_neg q, if_neg r]
      rw [if_neg q, if_neg r] at e
      omega
theorem isC_mv {is sa : Nat → Nat} {cm d : Nat} (h : isC is sa cm) (hd : d < cm) (h4 : sa d < 4) : isC (mvI sa is d) (mvS sa d) cm := by
  unfold mvI mvS
  by_cases q : sa d = 0
  · rw [if_pos q, if_pos q]
    have := isC_mvC h hd h4 (v := 1) (by decide)
    rw [q] at this
    exact this
  · rw [if_neg q, if_neg q]
    by_cases r : sa d = 2
    · rw [if_pos r, if_pos r]
      have := isC_mvC h hd h4 (v := 3) (by decide)
      rw [r] at this
      exact this
    · rw [if_neg r, if_neg r]
      exact h
/-- what becomes of the documents from fi on -/
def mv1 (x : Nat) : Nat := if x = 0 then 1 else if x = 2 then 3 else x
def ptS (sa : Nat → Nat) (fi d : Nat) : Nat → Nat := fun k => if fi ≤ k ∧ k < d then mv1 (sa k) else sa k
theorem ptS_0 (sa : Nat → Nat) (fi : Nat) : ptS sa fi fi = sa := funext fun k => if_neg (by omega)
theorem ptS_at (sa : Nat → Nat) (fi d : Nat) : ptS sa fi d d = sa d := if_neg (by omega)
theorem ptS_in {sa : Nat → Nat} {fi d : Nat} (h : fi ≤ d) : ptS sa fi (d + 1) d = mv1 (sa d) := if_pos ⟨h, Nat.lt_succ_self d⟩
theorem ptS_step {sa : Nat → Nat} {fi d : Nat} (h : fi ≤ d) : mvS (ptS sa fi d) d = ptS sa fi (d + 1) := by
  have key : ∀ v, mv1 (sa d) = v → va_up (ptS sa fi d) d v = ptS sa fi (d + 1) := by
    intro v hv
    funext k
    unfold va_up
    by_cases e : k = d
    · subst e
      rw [if_pos rfl, ptS_in h, hv]
    · rw [if_neg e]
      unfold ptS
      by_cases q : fi ≤ k ∧ k < d
      · rw [if_pos q, if_pos ⟨q.1, by omega⟩]
      · rw [if_neg q, if_neg (by omega)]
  unfold mvS
  rw [ptS_at]
  by_cases q : sa d = 0
  · rw [if_pos q]
    exact key 1 (by rw [mv1, if_pos q])
  · rw [if_neg q]
    by_cases r : sa d = 2
    · rw [if_pos r]
      exact key 3 (by rw [mv1, if_neg q, if_pos r])
    · rw [if_neg r, ← key (sa d) (by rw [mv1, if_neg q, if_neg r])]
      funext k
      unfold va_up
      by_cases e : k = d
      · rw [if_pos e, e, ptS_at]
      · rw [if_neg e]
theorem mv1_lt {x : Nat} (h : x < 4) : mv1 x < 4 := by
  unfold mv1
  split
  · decide
  · split
    · decide
    · exact h
theorem mv1_one {x : Nat} (h : x < 4) : mv1 x = 1 ↔ x ≤ 1 := by
  unfold mv1
  split
  · omega
  · split <;> omega
theorem ptS_lt {sa : Nat → Nat} {fi d cm : Nat} (h : ∀ k, k < cm → sa k < 4) : ∀ k, k < cm → ptS sa fi d k < 4 := by
  intro k hk
  unfold ptS
  split
  · exact mv1_lt (h k hk)
  · exact h k hk
/-- the terms that are listed -/
def ptK (S : Nat → Prop) (ct : Nat → Int64) (a b z : Nat) (f : Nat → Int64) : Prop := z = cnP (fun i => a ≤ i ∧ S i) b ∧ ∀ v, hp_cnt f v z = cnP (fun i => a ≤ i ∧ S i ∧ ct i = v) b
theorem ptK_0 {S : Nat → Prop} {ct : Nat → Int64} {a : Nat} {f : Nat → Int64} : ptK S ct a a 0 f := ⟨(cnP_zero fun i hi w => by omega).symm, fun v => (cnP_zero fun i hi w => by omega).symm⟩
theorem ptK_skip {S : Nat → Prop} {ct : Nat → Int64} {a b c z : Nat} {f : Nat → Int64} (h : ptK S ct a b z f) (hbc : b ≤ c) (hs : ∀ i, b ≤ i → i < c → ¬ S i) : ptK S ct a c z f := by
  obtain ⟨m, rfl⟩ := Nat.le.dest hbc
  refine ⟨?_, fun v => ?_⟩
  · rw [cnP_skip fun i h1 h2 w => hs i h1 h2 w.2]
    exact h.1
  · rw [cnP_skip fun i h1 h2 w => hs i h1 h2 w.2.1]
    exact h.2 v
theorem ptK_app {S : Nat → Prop} {ct : Nat → Int64} {a b c z : Nat} {f g : Nat → Int64} (h : ptK S ct a b z f) (hab : a ≤ b) (hbc : b ≤ c) (hs : ∀ i, b ≤ i → i < c → S i) (hk : ∀ j, j < z → g j = f j) (hn : ∀ k, b ≤ k → k < c → g (z + (k - b)) = ct k) : ptK S ct a c (z + (c - b)) g := by
  obtain ⟨m, rfl⟩ := Nat.le.dest hbc
  rw [Nat.add_sub_cancel_left]
  induction m with
  | zero =>
    refine ⟨h.1, fun v => ?_⟩
    rw [show z + 0 = z from rfl, hp_cnt_congr hk]
    exact h.2 v
  | succ m ih =>
    obtain ⟨i1, i2⟩ := ih (by omega) (fun i h1 h2 => hs i h1 (by omega)) (fun k h1 h2 => hn k h1 (by omega))
    have hS := hs (b + m) (by omega) (by omega)
    have hg := hn (b + m) (by omega) (by omega)
    rw [Nat.add_sub_cancel_left] at hg
    refine ⟨?_, fun v => ?_⟩
    · show z + m + 1 = cnP _ (b + m + 1)
      rw [cnP_y (P := fun i => a ≤ i ∧ S i) ⟨by omega, hS⟩, ← i1]
    · show hp_cnt g v (z + m) + (if g (z + m) = v then 1 else 0) = cnP _ (b + m + 1)
      rw [i2 v, hg]
      by_cases e : ct (b + m) = v
      · rw [if_pos e, cnP_y (P := fun i => a ≤ i ∧ S i ∧ ct i = v) ⟨by omega, hS, e⟩]
      · rw [if_neg e, cnP_n (P := fun i => a ≤ i ∧ S i ∧ ct i = v) (fun w => e w.2.2)]
        rfl
theorem pm_in (X W C : va_W) : (X ++ (W ++ C)).Perm (W ++ (X ++ C)) := by
  rw [← List.append_assoc, ← List.append_assoc]
  exact List.Perm.append_right C List.perm_append_comm
theorem four_of {L : List sgc} (h : 4 ≤ L.length) : ∃ (L0 : List sgc) (s1 s2 s3 s4 : sgc), L = L0 ++ [s1, s2, s3, s4] := by
  have hd : (L.drop (L.length - 4)).length = 4 := by rw [List.length_drop]; omega
  match hm : L.drop (L.length - 4), hd with
  | [a, b, c, d], _ => exact ⟨L.take (L.length - 4), a, b, c, d, by rw [← hm, List.take_append_drop]⟩
theorem use_drop {D : va_G} {K : Nat → ClassId} {sz b0 : Nat} {ws wc wr u u' w' : va_W} {av : List Value} {v : Array Value} {s t : State} (hp : ws.Perm (wr ++ wc)) (h : PW D K sz b0 ws av v s) (hF : va_F (va_A wc sz) s t) (hP1 : va_P D classes u t.heap) (hD1 : va_D (va_A wc sz) u) (hu : (w' ++ u').Perm (wr ++ u)) : (va_P D classes u' t.heap ∧ va_D (va_A ws sz) u') ∧ va_F (va_A ws sz) s t := by
  obtain ⟨⟨g1, g2⟩, g3⟩ := use_post hp h hF hP1 hD1 hu
  exact ⟨xsub g1 g2, g3⟩
theorem CI_drop {l : Launch} {y : MethodName} {cc : ByteArray} {maxL : Nat} {ret : FieldType} {rm : Room} {D : va_G} {K : Nat → ClassId} {av : List Value} {ws wc : va_W} {post post' : Int32 → va_W → Prop} (wr : va_W) (hM : CI l y cc maxL ret rm D K av wc post) (hp : ws.Perm (wr ++ wc)) (hpost : ∀ (r : Int32) u, post r u → ∃ w' u' : va_W, (w' ++ u').Perm (wr ++ u) ∧ post' r u') : CI l y cc maxL ret rm D K av ws post' := by
  intro sz b0 p e ha hc hk s m args below hf happ hv hKK
  obtain ⟨n, o, h1, h2, h3, hq, L, hFE, hL⟩ := hM sz b0 p e ha hc hk s m args below hf happ (PW_sub hp hv) hKK
  have hm : ∀ q, va_A wc sz q → va_A ws sz q := A_mono fun q hq => hp.symm.subset (List.mem_append_right _ hq)
  obtain ⟨⟨r, u, rfl, q1, q2, q3⟩, q4⟩ := hq
  obtain ⟨w', u', e1, e2⟩ := hpost r u q1
  obtain ⟨g1, g2⟩ := use_drop hp hv q4 q2 q3 e1
  exact ⟨n, _, h1, h2, h3, ⟨⟨r, u', rfl, e2, g1⟩, g2⟩, L, hFE, fun q hq => hm _ (hL q hq)⟩
theorem CV_drop {l : Launch} {y : MethodName} {cc : ByteArray} {maxL : Nat} {rm : Room} {D : va_G} {K : Nat → ClassId} {av : List Value} {ws wc : va_W} {post post' : va_W → Prop} (wr : va_W) (hM : CV l y cc maxL rm D K av wc post) (hp : ws.Perm (wr ++ wc)) (hpost : ∀ u, post u → ∃ w' u' : va_W, (w' ++ u').Perm (wr ++ u) ∧ post' u') : CV l y cc maxL rm D K av ws post' := by
  intro sz b0 p e ha hc hk s m args below hf happ hv hKK
  obtain ⟨n, o, h1, h2, h3, hq, L, hFE, hL⟩ := hM sz b0 p e ha hc hk s m args below hf happ (PW_sub hp hv) hKK
  have hm : ∀ q, va_A wc sz q → va_A ws sz q := A_mono fun q hq => hp.symm.subset (List.mem_append_right _ hq)
  obtain ⟨⟨u, rfl, q1, q2, q3⟩, q4⟩ := hq
  obtain ⟨w', u', e1, e2⟩ := hpost u q1
  obtain ⟨g1, g2⟩ := use_drop hp hv q4 q2 q3 e1
  exact ⟨n, _, h1, h2, h3, ⟨⟨u', rfl, e2, g1⟩, g2⟩, L, hFE, fun q hq => hm _ (hL q hq)⟩
abbrev q_last4 (K : Nat → ClassId) (x0 : Nat) (s0 : Nat) (l0 : Nat) (p0 : Nat) (k0 : Nat) (bf : Nat) (mc : Int32) (el : Nat) (n : Nat) (ne : Nat) (ef : Nat → Option Nat) (L : List sgc) : Int32 → va_W → Prop := fun r u => u = (([(x0, .inr (6, [.ref s0, .ref l0, .ref p0, .ref k0, .int (nI bf)])), (l0, .inr (7, [.int mc, .ref el, .int (nI n)]))] : va_W) ++ (tlS K el ne ef L)) ∧ r = nI (bN (rf4 (lvL L) n))
theorem u_last4 (l : Launch) (D : va_G) (K : Nat → ClassId) (x0 : Nat) (s0 : Nat) (l0 : Nat) (p0 : Nat) (k0 : Nat) (bf : Nat) (mc : Int32) (el : Nat) (n : Nat) (ne : Nat) (ef : Nat → Option Nat) (L : List sgc) (hok : sgOk K el ne ef L n) (hlv : ∀ (i : Nat) (q : sgc), L[i]? = some q → q.2.2.1 < 2 ^ 31) : CI l y_SI_lastFourAreAlike b_SI_lastFourAreAlike 4 .boolean ({ frames := 3, cells := 0, slots := 0, locals := 80 } : Room) D K [.ref x0] (([(x0, .inr (6, [.ref s0, .ref l0, .ref p0, .ref k0, .int (nI bf)])), (l0, .inr (7, [.int mc, .ref el, .int (nI n)]))] : va_W) ++ (tlS K el ne ef L)) (q_last4 K x0 s0 l0 p0 k0 bf mc el n ne ef L) := by
  obtain ⟨h1, h2, h3, h4, h5⟩ := hok
  by_cases e0 : n < 4
  · refine CI_use (tlS K el ne ef L) (c_last4_few l D K x0 s0 l0 p0 k0 bf mc el n e0) (pm_tail _ _) ?_
    rintro r u ⟨rfl, rfl⟩
    exact ⟨_, pm_tail _ _, rfl, by rw [bN_f (fun w => by have := w.1; omega)]⟩
  · obtain ⟨L0, s1, s2, s3, s4, rfl⟩ := four_of (L := L) (by omega)
    have hl : L0.length + 4 = n := by rw [h1, List.length_append]; rfl
    have a1 : (L0 ++ [s1, s2, s3, s4])[n - 4]? = some s1 := by rw [List.getElem?_append_right (by omega), show n - 4 - L0.length = 0 by omega]; rfl
    have a2 : (L0 ++ [s1, s2, s3, s4])[n - 3]? = some s2 := by rw [List.getElem?_append_right (by omega), show n - 3 - L0.length = 1 by omega]; rfl
    have a3 : (L0 ++ [s1, s2, s3, s4])[n - 2]? = some s3 := by rw [List.getElem?_append_right (by omega), show n - 2 - L0.length = 2 by omega]; rfl
    have a4 : (L0 ++ [s1, s2, s3, s4])[n - 1]? = some s4 := by rw [List.getElem?_append_right (by omega), show n - 1 - L0.length = 3 by omega]; rfl
    have hp : ∀ X Y : Nat × va_E, ([X, Y] ++ tlS K el ne ef (L0 ++ [s1, s2, s3, s4])).Perm (sgW L0 ++ [X, Y, ((el, .inl (K 4, ne, .inr (.inr (.inr (.inr ef))))) : Nat × va_E), sgE s1, sgE s2, sgE s3, sgE s4]) := by
      intro X Y
      show ([_, _] ++ (EA K el ne ef ++ sgW _)).Perm _
      rw [EA_n (by omega), sgW_app]
      exact pm_in [_, _, _] _ _
    refine CI_use (sgW L0) (c_last4_four l D K x0 s0 l0 p0 k0 bf mc el n ne ef s1.1 s1.2.1 s1.2.2.1 s1.2.2.2.1 s1.2.2.2.2.1 s1.2.2.2.2.2 s2.1 s2.2.1 s2.2.2.1 s2.2.2.2.1 s2.2.2.2.2.1 s2.2.2.2.2.2 s3.1 s3.2.1 s3.2.2.1 s3.2.2.2.1 s3.2.2.2.2.1 s3.2.2.2.2.2 s4.1 s4.2.1 s4.2.2.1 s4.2.2.2.1 s4.2.2.2.2.1 s4.2.2.2.2.2 (by omega) h3 (by omega) (h5 _ _ a1) (h5 _ _ a2) (h5 _ _ a3) (h5 _ _ a4) (hlv _ _ a1) (hlv _ _ a2) (hlv _ _ a3) (hlv _ _ a4)) (hp _ _) ?_
    rintro r u ⟨rfl, rfl⟩
    refine ⟨_, hp _ _, rfl, congrArg nI (bN_congr ?_)⟩
    have b1 : lvL (L0 ++ [s1, s2, s3, s4]) (n - 4) = s1.2.2.1 := by rw [lvL, a1]; rfl
    have b2 : lvL (L0 ++ [s1, s2, s3, s4]) (n - 3) = s2.2.2.1 := by rw [lvL, a2]; rfl
    have b3 : lvL (L0 ++ [s1, s2, s3, s4]) (n - 2) = s3.2.2.1 := by rw [lvL, a3]; rfl
    have b4 : lvL (L0 ++ [s1, s2, s3, s4]) (n - 1) = s4.2.2.1 := by rw [lvL, a4]; rfl
    unfold rf4
    rw [b1, b2, b3, b4]
    omega

abbrev q_cut_0 (K : Nat → ClassId) (x0 : Nat) (s0 : Nat) (l0 : Nat) (p0 : Nat) (k0 : Nat) (bf : Nat) (mc : Int32) (el : Nat) : va_W → Prop := fun u => u = ([(x0, .inr (6, [.ref s0, .ref l0, .ref p0, .ref k0, .int (nI bf)])), (l0, .inr (7, [.int mc, .ref el, .int (nI 0)]))] : va_W)
set_option maxHeartbeats 4000000 in
set_option maxRecDepth 100000 in
theorem c_cut_0 (l : Launch) (D : va_G) (K : Nat → ClassId) (x0 : Nat) (s0 : Nat) (l0 : Nat) (p0 : Nat) (k0 : Nat) (bf : Nat) (mc : Int32) (el : Nat)  : CV l y_SI_cutSegments b_SI_cutSegments 3 ({ frames := 4, cells := 0, slots := 0, locals := 120 } : Room) D K [.ref x0, .int (nI 0)] ([(x0, .inr (6, [.ref s0, .ref l0, .ref p0, .ref k0, .int (nI bf)])), (l0, .inr (7, [.int mc, .ref el, .int (nI 0)]))] : va_W) (q_cut_0 K x0 s0 l0 p0 k0 bf mc el) := by
  refine CV_of (by decide) (Nat.le_of_ble_eq_true rfl) ?_
  intro p e s m below meth c A b0 ls hF hA hP hD hl
  have hF2 := hF
  obtain ⟨hx, hb, hr, hml, hown, htw, hK, hlocks, hname⟩ := hF
  have hS : va_S A s.heap s.heap [] := va_S.rf
  have hl : lv_has ls 3 [(0, .ref x0), (1, .int (nI 0))] := hl
  refine lv_aload_n hx hb d_SI_cutSegments_0 rfl (lv_at hl 0 rfl) ?_
  refine xg hx hb hown htw hK hP 0 1 rfl k_SI (by decide) fl_SI_19 rfl d_SI_cutSegments_1 ?_
  refine xcV_i (As := []) (rest := []) (wr := ([(x0, .inr (6, [.ref s0, .ref l0, .ref p0, .ref k0, .int (nI bf)]))] : va_W)) hx hb hml hown htw hK hA hl.1 hP hD hS (c_AL_size l D K l0 mc el 0 ) [1] [0] rfl rfl (by decide) (by decide) (by decide) 0 rfl k_AL ml_SI_115 w_AL_size rfl ⟨by decide, by decide⟩ rfl (Nat.le_of_ble_eq_true rfl) ⟨by decide, by decide⟩ d_SI_cutSegments_4 (fun r u H locs hpost hP hD hS => ?_)
  obtain ⟨rfl, rfl⟩ := hpost
  have hP : va_P D classes ([(x0, .inr (6, [.ref s0, .ref l0, .ref p0, .ref k0, .int (nI bf)])), (l0, .inr (7, [.int mc, .ref el, .int (nI 0)]))] : va_W) H := hP
  have hD : va_D A ([(x0, .inr (6, [.ref s0, .ref l0, .ref p0, .ref k0, .int (nI bf)])), (l0, .inr (7, [.int mc, .ref el, .int (nI 0)]))] : va_W) := hD
  refine lv_iconst (v := nI 1) hx hb d_SI_cutSegments_7 (by decide) ?_
  refine lv_isub hx hb d_SI_cutSegments_8 ?_
  refine xi (y := zI (((0 : Nat) : Int) - 1)) (nI_sub1 0) ?_
  refine lv_istore_n (lv' := [(2, .int (zI (((0 : Nat) : Int) - 1))), (0, .ref x0), (1, .int (nI 0))]) hx hb d_SI_cutSegments_9 rfl hl (by decide) rfl (fun ls hl => ?_)
  refine lv_iload_n hx hb d_SI_cutSegments_10 rfl (lv_at hl 0 rfl) ?_
  refine lv_iload_n hx hb d_SI_cutSegments_11 rfl (lv_at hl 2 rfl) ?_
  refine xcz_lt (tgt := 34) (a := ((0 : Nat) : Int) - 1) (b := ((0 : Nat) : Int)) hx hb (rfl) (nI_zI _) (by omega) (by omega) (by omega) (by omega) d_SI_cutSegments_12 (by decide) (fun c_12 => ?_) (fun c_12 => ?_)
  · exact xr_vret hx hb hr hlocks hP hD hS (Nat.le_of_ble_eq_true rfl) (Nat.le_of_ble_eq_true rfl) (rfl) d_SI_cutSegments_34
  · omega

abbrev q_cut (K : Nat → ClassId) (x0 : Nat) (s0 : Nat) (l0 : Nat) (p0 : Nat) (k0 : Nat) (bf : Nat) (mc : Int32) (el : Nat) (n : Nat) (ne : Nat) (ef : Nat → Option Nat) (lf : Nat) : va_W → Prop := fun u => ∃ mc' : Int32, ∃ ef' : Nat → Option Nat, u = ([(x0, .inr (6, [.ref s0, .ref l0, .ref p0, .ref k0, .int (nI bf)])), (l0, .inr (7, [.int mc', .ref el, .int (nI lf)])), (el, .inl (K 4, ne, .inr (.inr (.inr (.inr ef')))))] : va_W) ∧ (∀ i, i < lf → ef' i = ef i)
set_option maxHeartbeats 4000000 in
set_option maxRecDepth 100000 in
theorem lp_cut_10 {p : Program} {l : Launch} {e : Env} {s : State} {m : MethodId} {below : List Frame} {meth : Method} {c : Code} {A : Nat → Prop} {D : va_G} {K : Nat → ClassId} (x0 : Nat) (s0 : Nat) (l0 : Nat) (p0 : Nat) (k0 : Nat) (bf : Nat) (mc : Int32) (el : Nat) (n : Nat) (ne : Nat) (ef : Nat → Option Nat) (lf : Nat) (hne : ne < 2 ^ 20) (hnn : n ≤ ne) (hlf : lf ≤ n) (hall : ∀ i, i < n → ∃ v, ef i = some v) (hF : Fx p s m meth c y_SI_cutSegments b_SI_cutSegments 3 none D K) {b0 : Nat} (hA : AS K s A b0) : ∀ fuel : Nat, ∀ k : Nat, ∀ mm : Int32, ∀ gg : Nat → Option Nat, (lf ≤ k) → (k ≤ n) → (∀ i, i < k → gg i = ef i) → k < fuel → ∀ (H : Heap) (locs : List Loc), va_P D classes ([(x0, .inr (6, [.ref s0, .ref l0, .ref p0, .ref k0, .int (nI bf)])), (l0, .inr (7, [.int mm, .ref el, .int (nI k)])), (el, .inl (K 4, ne, .inr (.inr (.inr (.inr gg)))))] : va_W) H → va_D A ([(x0, .inr (6, [.ref s0, .ref l0, .ref p0, .ref k0, .int (nI bf)])), (l0, .inr (7, [.int mm, .ref el, .int (nI k)])), (el, .inl (K 4, ne, .inr (.inr (.inr (.inr gg)))))] : va_W) → va_S A s.heap H locs → ∀ ls : Array Slot, lv_has ls 3 [(0, .ref x0), (1, .int (nI lf)), (2, .int (zI (((k : Nat) : Int) - 1)))] → W p l e ({ frames := 4, cells := 0, slots := 0, locals := 120 } : Room) s m ([.ref x0, .int (nI lf)] : List Value).toArray below meth c H locs 0 0 (MQ below (va_Qv (q_cut K x0 s0 l0 p0 k0 bf mc el n ne ef lf) (fun u t => va_P D classes u t.heap ∧ va_D A u) A) ([.ref x0, .int (nI lf)] : List Value).toArray s 0 0 A) (F0 m 10 ls []) := by
  have hF2 := hF
  obtain ⟨hx, hb, hr, hml, hown, htw, hK, hlocks, hname⟩ := hF
  intro fuel
  induction fuel with
  | zero => intros; omega
  | succ fuel ih =>
    intro k mm gg h1 h2 hg hfu H locs hP hD hS ls hl
    refine lv_iload_n hx hb d_SI_cutSegments_10 rfl (lv_at hl 2 rfl) ?_
    refine lv_iload_n hx hb d_SI_cutSegments_11 rfl (lv_at hl 1 rfl) ?_
    refine xcz_lt (tgt := 34) (a := ((k : Nat) : Int) - 1) (b := ((lf : Nat) : Int)) hx hb (rfl) (nI_zI _) (by omega) (by omega) (by omega) (by omega) d_SI_cutSegments_12 (by decide) (fun c_12 => ?_) (fun c_12 => ?_)
    · have hk2 : lf = k := by omega
      subst hk2
      exact xr_vret hx hb hr hlocks hP hD hS (Nat.le_of_ble_eq_true rfl) (Nat.le_of_ble_eq_true rfl) (⟨_, _, rfl, hg⟩) d_SI_cutSegments_34
    · have hk0 : lf < k := by omega
      rw [show zI (((k : Nat) : Int) - 1) = nI (k - 1) from zI_pred (by omega)] at hl
      obtain ⟨v9, hv9⟩ := hall (k - 1) (by omega)
      refine lv_iload_n hx hb d_SI_cutSegments_15 rfl (lv_at hl 2 rfl) ?_
      refine xz_lt (a := k - 1) hx hb (by omega) d_SI_cutSegments_16 34 (by decide) ?_
      refine lv_aload_n hx hb d_SI_cutSegments_19 rfl (lv_at hl 0 rfl) ?_
      refine xg hx hb hown htw hK hP 0 1 rfl k_SI (by decide) fl_SI_19 rfl d_SI_cutSegments_20 ?_
      refine lv_iload_n hx hb d_SI_cutSegments_23 rfl (lv_at hl 2 rfl) ?_
      refine xcV_r (As := [.int (nI (k - 1))]) (rest := []) (wr := ([(x0, .inr (6, [.ref s0, .ref l0, .ref p0, .ref k0, .int (nI bf)]))] : va_W)) hx hb hml hown htw hK hA hl.1 hP hD hS (c_AL_remove l D K l0 mm el k ne gg (k - 1) v9 (by first | assumption | omega) (by first | assumption | omega) (by first | assumption | omega) (by rw [hg _ (by omega)]; exact hv9)) [1, 2] [0] rfl rfl (by decide) (by decide) (by decide) 0 rfl k_AL ml_SI_227 w_AL_remove rfl ⟨by decide, by decide⟩ rfl (Nat.le_of_ble_eq_true rfl) ⟨by decide, by decide⟩ d_SI_cutSegments_24 (fun r_24 u H locs hpost hP hD hS => ?_)
      obtain ⟨rfl, hr_24⟩ := hpost
      replace hr_24 := hr_24.symm
      subst hr_24
      have hP : va_P D classes ([(x0, .inr (6, [.ref s0, .ref l0, .ref p0, .ref k0, .int (nI bf)])), (l0, .inr (7, [.int (mm + nI 1), .ref el, .int (nI (k - 1))])), (el, .inl (K 4, ne, .inr (.inr (.inr (.inr (va_up gg (k - 1) none))))))] : va_W) H := hP
      have hD : va_D A ([(x0, .inr (6, [.ref s0, .ref l0, .ref p0, .ref k0, .int (nI bf)])), (l0, .inr (7, [.int (mm + nI 1), .ref el, .int (nI (k - 1))])), (el, .inl (K 4, ne, .inr (.inr (.inr (.inr (va_up gg (k - 1) none))))))] : va_W) := hD
      refine lv_pop hx hb d_SI_cutSegments_27 rfl ?_
      refine lv_iinc (v := zI ((((k - 1) : Nat) : Int) - 1)) (lv' := [(2, .int (zI ((((k - 1) : Nat) : Int) - 1))), (0, .ref x0), (1, .int (nI lf))]) hx hb d_SI_cutSegments_28 hl (k := 2) rfl (dec_z _) (by decide) rfl (fun ls hl => ?_)
      refine lv_goto (tgt := 10) hx hb d_SI_cutSegments_31 (by decide) ?_
      exact ih (k - 1) (mm + nI 1) (va_up gg (k - 1) none) (by first | assumption | omega) (by first | assumption | omega) (by exact fun i hi => by rw [va_up, if_neg (by omega)]; exact hg i (by omega)) (by omega) _ _ hP hD hS _ (lv_sub hl [1, 2, 0] rfl)
set_option maxHeartbeats 4000000 in
set_option maxRecDepth 100000 in
theorem c_cut (l : Launch) (D : va_G) (K : Nat → ClassId) (x0 : Nat) (s0 : Nat) (l0 : Nat) (p0 : Nat) (k0 : Nat) (bf : Nat) (mc : Int32) (el : Nat) (n : Nat) (ne : Nat) (ef : Nat → Option Nat) (lf : Nat) (hne : ne < 2 ^ 20) (hnn : n ≤ ne) (hlf : lf ≤ n) (hall : ∀ i, i < n → ∃ v, ef i = some v) : CV l y_SI_cutSegments b_SI_cutSegments 3 ({ frames := 4, cells := 0, slots := 0, locals := 120 } : Room) D K [.ref x0, .int (nI lf)] ([(x0, .inr (6, [.ref s0, .ref l0, .ref p0, .ref k0, .int (nI bf)])), (l0, .inr (7, [.int mc, .ref el, .int (nI n)])), (el, .inl (K 4, ne, .inr (.inr (.inr (.inr ef)))))] : va_W) (q_cut K x0 s0 l0 p0 k0 bf mc el n ne ef lf) := by
  refine CV_of (by decide) (Nat.le_of_ble_eq_true rfl) ?_
  intro p e s m below meth c A b0 ls hF hA hP hD hl
  have hF2 := hF
  obtain ⟨hx, hb, hr, hml, hown, htw, hK, hlocks, hname⟩ := hF
  have hS : va_S A s.heap s.heap [] := va_S.rf
  have hl : lv_has ls 3 [(0, .ref x0), (1, .int (nI lf))] := hl
  refine lv_aload_n hx hb d_SI_cutSegments_0 rfl (lv_at hl 0 rfl) ?_
  refine xg hx hb hown htw hK hP 0 1 rfl k_SI (by decide) fl_SI_19 rfl d_SI_cutSegments_1 ?_
  refine xcV_i (As := []) (rest := []) (wr := ([(x0, .inr (6, [.ref s0, .ref l0, .ref p0, .ref k0, .int (nI bf)])), (el, .inl (K 4, ne, .inr (.inr (.inr (.inr ef)))))] : va_W)) hx hb hml hown htw hK hA hl.1 hP hD hS (c_AL_size l D K l0 mc el n ) [1] [0, 2] rfl rfl (by decide) (by decide) (by decide) 0 rfl k_AL ml_SI_115 w_AL_size rfl ⟨by decide, by decide⟩ rfl (Nat.le_of_ble_eq_true rfl) ⟨by decide, by decide⟩ d_SI_cutSegments_4 (fun r u H locs hpost hP hD hS => ?_)
  obtain ⟨rfl, rfl⟩ := hpost
  have hP : va_P D classes ([(x0, .inr (6, [.ref s0, .ref l0, .ref p0, .ref k0, .int (nI bf)])), (el, .inl (K 4, ne, .inr (.inr (.inr (.inr ef))))), (l0, .inr (7, [.int mc, .ref el, .int (nI n)]))] : va_W) H := hP
  have hD : va_D A ([(x0, .inr (6, [.ref s0, .ref l0, .ref p0, .ref k0, .int (nI bf)])), (el, .inl (K 4, ne, .inr (.inr (.inr (.inr ef))))), (l0, .inr (7, [.int mc, .ref el, .int (nI n)]))] : va_W) := hD
  refine lv_iconst (v := nI 1) hx hb d_SI_cutSegments_7 (by decide) ?_
  refine lv_isub hx hb d_SI_cutSegments_8 ?_
  refine xi (y := zI (((n : Nat) : Int) - 1)) (nI_sub1 n) ?_
  refine lv_istore_n (lv' := [(2, .int (zI (((n : Nat) : Int) - 1))), (0, .ref x0), (1, .int (nI lf))]) hx hb d_SI_cutSegments_9 rfl hl (by decide) rfl (fun ls hl => ?_)
  obtain ⟨hP9, hD9⟩ := xp (ws' := [(x0, .inr (6, [.ref s0, .ref l0, .ref p0, .ref k0, .int (nI bf)])), (l0, .inr (7, [.int mc, .ref el, .int (nI n)])), (el, .inl (K 4, ne, .inr (.inr (.inr (.inr ef)))))]) hP hD [0, 2, 1] (by decide) rfl
  exact lp_cut_10 (l := l) x0 s0 l0 p0 k0 bf mc el n ne ef lf hne hnn hlf hall hF2 hA _ n mc ef (by first | assumption | omega) (by first | assumption | omega) (by exact fun _ _ => rfl) (Nat.lt_succ_self _) _ _ hP9 hD9 hS _ (lv_sub hl [1, 2, 0] rfl)


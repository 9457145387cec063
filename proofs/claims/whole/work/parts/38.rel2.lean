/-! pure: the sets of class and reference: the same rows below ht; every hit is a token's -/
def seR (za : Nat → Nat) (ga : Nat → Nat → Nat) (ht : Nat) (rh sz : Nat → Nat) (ch : Nat → Nat) (T : Nat) : Prop :=
  ∀ j, j < ht → za j = sz j ∧ st_inc (sz j) (rw_ rh j) ∧ (∀ k, k < sz j → ga j k = rh (520 * j + k)) ∧ ∀ v, st_mem (sz j) (rw_ rh j) v → st_mem T ch v
section SER
variable {za : Nat → Nat} {ga : Nat → Nat → Nat} {ht : Nat} {rh sz : Nat → Nat} {ch : Nat → Nat} {T : Nat}
theorem seR_le (h : seR za ga ht rh sz ch T) {j : Nat} (hj : j < ht) : sz j ≤ T := st_card (h j hj).2.1 (h j hj).2.2.2
theorem seR_bd (h : seR za ga ht rh sz ch T) (hB : ∀ i, i < T → ch i < 2 ^ 24) {j : Nat} (hj : j < ht) : ∀ k, k < sz j → rh (520 * j + k) < 2 ^ 24 := by
  intro k hk
  obtain ⟨i, a, b⟩ := (h j hj).2.2.2 _ ⟨k, hk, rfl⟩
  rw [← show ch i = rh (520 * j + k) from b]
  exact hB i a
theorem seR_gbd (h : seR za ga ht rh sz ch T) (hB : ∀ i, i < T → ch i < 2 ^ 24) {j : Nat} (hj : j < ht) : ∀ k, k < za j → ga j k < 2 ^ 24 := by
  intro k hk
  rw [(h j hj).1] at hk
  rw [(h j hj).2.2.1 k hk]
  exact seR_bd h hB hj k hk
theorem seR_ginc (h : seR za ga ht rh sz ch T) {j : Nat} (hj : j < ht) : st_inc (za j) (ga j) := by
  intro i k a b
  rw [(h j hj).1] at b
  rw [(h j hj).2.2.1 i (by omega), (h j hj).2.2.1 k b]
  exact (h j hj).2.1 i k a b
theorem seR_mem (h : seR za ga ht rh sz ch T) {j : Nat} (hj : j < ht) (v : Nat) : st_mem (za j) (ga j) v ↔ st_mem (sz j) (rw_ rh j) v := by
  obtain ⟨h1, h2, h3, h4⟩ := h j hj
  rw [h1]
  constructor
  · rintro ⟨k, a, b⟩
    exact ⟨k, a, by show rh (520 * j + k) = v; rw [← h3 k a]; exact b⟩
  · rintro ⟨k, a, b⟩
    exact ⟨k, a, by rw [h3 k a]; exact b⟩
/-- one set is new, the rest below ht' stays -/
theorem seR_put (h : seR za ga ht rh sz ch T) {za' : Nat → Nat} {ga' : Nat → Nat → Nat} {ht' : Nat} {rh' sz' : Nat → Nat} {q z z' : Nat} {g : Nat → Nat} {M N : Nat → Prop} (hq : ht' = q + 1) (hqt : q ≤ ht)
    (hi : st_inc z g) (hm : ∀ v, st_mem z g v ↔ M v) (hi' : st_inc z' (rw_ rh' q)) (hm' : ∀ v, st_mem z' (rw_ rh' q) v ↔ N v) (hMN : ∀ v, M v ↔ N v) (hT : ∀ v, M v → st_mem T ch v) (hs : T ≤ 520)
    (hza : za' q = z) (hga : ga' q = g) (hsz : sz' q = z') (hzo : ∀ j, j < q → za' j = za j ∧ ga' j = ga j ∧ sz' j = sz j) (hro : ∀ j, j < 520 * q → rh' j = rh j) : z = z' ∧ seR za' ga' ht' rh' sz' ch T := by
  obtain ⟨e1, e2⟩ := st_uniq hi hi' (fun v => by rw [hm, hm', hMN])
  refine ⟨e1, fun j hj => ?_⟩
  by_cases e : j = q
  · subst e
    rw [hza, hga, hsz]
    refine ⟨e1, hi', fun k hk => e2 k (by omega), fun v hv => hT v ((hMN v).mpr ((hm' v).mp hv))⟩
  · obtain ⟨h1, h2, h3, h4⟩ := h j (by omega)
    obtain ⟨o1, o2, o3⟩ := hzo j (by omega)
    have hl := seR_le h (show j < ht by omega)
    have er : ∀ k, k < sz j → rh' (520 * j + k) = rh (520 * j + k) := fun k hk => hro _ (by omega)
    rw [o1, o2, o3]
    refine ⟨h1, fun i k a b => ?_, fun k hk => by rw [er k hk]; exact h3 k hk, fun v hv => h4 v ?_⟩
    · show rh' (520 * j + i) < rh' (520 * j + k)
      rw [er i (by omega), er k b]
      exact h2 i k a b
    · obtain ⟨k, a, b⟩ := hv
      exact ⟨k, a, by show rh (520 * j + k) = v; rw [← er k a]; exact b⟩
theorem seR_less (h : seR za ga ht rh sz ch T) {ht' : Nat} (hle : ht' ≤ ht) : seR za ga ht' rh sz ch T := fun j hj => h j (by omega)
theorem seR_tok (h : seR za ga ht rh sz ch T) {ch' : Nat → Nat} {T' : Nat} (hmm : ∀ v, st_mem T ch v → st_mem T' ch' v) : seR za ga ht rh sz ch' T' := fun j hj => ⟨(h j hj).1, (h j hj).2.1, (h j hj).2.2.1, fun v hv => hmm v ((h j hj).2.2.2 v hv)⟩
end SER
theorem mem_ins {ch : Nat → Nat} {pp T x : Nat} (hp : pp ≤ T) : ∀ v, st_mem T ch v → st_mem (T + 1) (insN ch pp T x) v := by
  rintro v ⟨i, a, b⟩
  rcases Nat.lt_or_ge i pp with q | q
  · exact ⟨i, by omega, by rw [insN_lt q]; exact b⟩
  · exact ⟨i + 1, by omega, by rw [insN_gt (by omega) (by omega)]; exact b⟩
/-- what follows n behind a hit of a set -/
theorem fol_iff {z : Nat} {g : Nat → Nat} {sz : Nat} {r : Nat → Nat} (hm : ∀ v, st_mem z g v ↔ st_mem sz r v) {n v : Nat} (hn : 1 ≤ n) : (∃ k, k < z ∧ g k / 2 ^ 12 = v / 2 ^ 12 ∧ (-(n : Int)) ≤ ((g k : Nat) : Int) - v ∧ ((g k : Nat) : Int) - v ≤ (-(n : Int))) ↔ n ≤ v % 4096 ∧ st_mem sz r (v - n) := by
  rw [← hm]
  constructor
  · rintro ⟨k, a, b, c, d⟩
    exact ⟨by omega, k, a, by omega⟩
  · rintro ⟨a, k, b, c⟩
    exact ⟨k, b, by omega, by omega, by omega⟩
theorem near_iff {z : Nat} {g : Nat → Nat} {rh sz : Nat → Nat} {q : Nat} (hm : ∀ v, st_mem z g v ↔ st_mem (sz q) (rw_ rh q) v) {v : Nat} : (∃ k, k < z ∧ g k / 2 ^ 12 = v / 2 ^ 12 ∧ (-10) ≤ ((g k : Nat) : Int) - v ∧ ((g k : Nat) : Int) - v ≤ 10) ↔ rnear rh sz q v := by
  unfold rnear
  constructor
  · rintro ⟨k, a, b, c, d⟩
    refine ⟨((g k : Nat) : Int) - v, c, d, by omega, by omega, ?_⟩
    rw [← hm]
    exact ⟨k, a, by omega⟩
  · rintro ⟨e, a, b, c, d, f⟩
    rw [← hm] at f
    obtain ⟨k, f1, f2⟩ := f
    exact ⟨k, f1, by omega, by omega, by omega⟩
theorem doc_iff {z : Nat} {g : Nat → Nat} {rh sz : Nat → Nat} {q : Nat} (hm : ∀ v, st_mem z g v ↔ st_mem (sz q) (rw_ rh q) v) {d : Nat} : (∃ k, k < z ∧ g k / 2 ^ 14 = d) ↔ 0 < rcnt rh sz q d := by
  unfold rcnt
  rw [cnP_pos_iff]
  constructor
  · rintro ⟨k, a, b⟩
    obtain ⟨i, c, e⟩ := (hm (g k)).mp ⟨k, a, rfl⟩
    exact ⟨i, c, by rw [show rh (520 * q + i) = g k from e]; exact b⟩
  · rintro ⟨k, a, b⟩
    obtain ⟨i, c, e⟩ := (hm (rh (520 * q + k))).mpr ⟨k, a, rfl⟩
    exact ⟨i, c, by rw [e]; exact b⟩
theorem bN_1 {b : Prop} : 1 = bN b ↔ b := by
  by_cases h : b
  · rw [bN_t h]; exact ⟨fun _ => h, fun _ => rfl⟩
  · rw [bN_f h]; exact ⟨fun q => absurd q (by decide), fun q => absurd q h⟩
theorem bN_0' {b : Prop} : 0 = bN b ↔ ¬ b := by
  rw [eq_comm]
  exact bN_0
section JN
variable {zx zy : Nat} {gx gy : Nat → Nat} {rh sz : Nat → Nat} {sn : Nat}
theorem jnM1_iff {hw v : Nat} : jnM1 rh sz sn hw (sz (sn - 2)) v ↔ st_mem (sz (sn - 2)) (rw_ rh (sn - 2)) v ∧ jnP1 hw (rcnt rh sz (sn - 1) (v / 2 ^ 14)) := by
  constructor
  · rintro ⟨i, a, b, c⟩
    rw [c] at b
    exact ⟨⟨i, a, c⟩, b⟩
  · rintro ⟨⟨i, a, c⟩, b⟩
    have c : rh (520 * (sn - 2) + i) = v := c
    exact ⟨i, a, by rw [c]; exact b, c⟩
theorem jnM2_iff {hw v : Nat} : jnM2 rh sz sn hw (sz (sn - 1)) v ↔ (st_mem (sz (sn - 2)) (rw_ rh (sn - 2)) v ∧ jnP1 hw (rcnt rh sz (sn - 1) (v / 2 ^ 14))) ∨ (st_mem (sz (sn - 1)) (rw_ rh (sn - 1)) v ∧ jnP2 hw (rcnt rh sz (sn - 2) (v / 2 ^ 14)) (rnear rh sz (sn - 2) v)) := by
  unfold jnM2
  rw [jnM1_iff]
  refine or_congr Iff.rfl ?_
  constructor
  · rintro ⟨i, a, b, c⟩
    rw [c] at b
    exact ⟨⟨i, a, c⟩, b⟩
  · rintro ⟨⟨i, a, c⟩, b⟩
    have c : rh (520 * (sn - 1) + i) = v := c
    exact ⟨i, a, by rw [c]; exact b, c⟩
theorem jn_0 (hx : ∀ v, st_mem zx gx v ↔ st_mem (sz (sn - 2)) (rw_ rh (sn - 2)) v) (hy : ∀ v, st_mem zy gy v ↔ st_mem (sz (sn - 1)) (rw_ rh (sn - 1)) v) (v : Nat) : ((st_mem zx gx v ∨ st_mem zy gy v) ∧ 1 = bN (∃ k, k < zx ∧ gx k / 2 ^ 14 = v / 2 ^ 14)) ∧ 1 = bN (∃ k, k < zy ∧ gy k / 2 ^ 14 = v / 2 ^ 14) ↔ jnM2 rh sz sn 0 (sz (sn - 1)) v := by
  rw [jnM2_iff, bN_1, bN_1, ← hx, ← hy]
  have ex := doc_iff hx (d := v / 2 ^ 14)
  have ey := doc_iff hy (d := v / 2 ^ 14)
  constructor
  · rintro ⟨⟨a | a, b⟩, c⟩
    · exact Or.inl ⟨a, Or.inr (Or.inl ⟨rfl, ey.mp c⟩)⟩
    · exact Or.inr ⟨a, Or.inr (Or.inl ⟨rfl, ex.mp b⟩)⟩
  · rintro (⟨a, b⟩ | ⟨a, b⟩)
    · refine ⟨⟨Or.inl a, ?_⟩, ?_⟩
      · obtain ⟨k, k1, k2⟩ := a
        exact ⟨k, k1, by rw [k2]⟩
      · rcases b with b | b | b
        · exact absurd b (by decide)
        · exact ey.mpr b.2
        · exact absurd b.1 (by decide)
    · refine ⟨⟨Or.inr a, ?_⟩, ?_⟩
      · rcases b with b | b | b
        · exact absurd b (by decide)
        · exact ex.mpr b.2
        · exact absurd b.1 (by decide)
      · obtain ⟨k, k1, k2⟩ := a
        exact ⟨k, k1, by rw [k2]⟩
theorem jn_1 (hx : ∀ v, st_mem zx gx v ↔ st_mem (sz (sn - 2)) (rw_ rh (sn - 2)) v) (hy : ∀ v, st_mem zy gy v ↔ st_mem (sz (sn - 1)) (rw_ rh (sn - 1)) v) (v : Nat) : (st_mem zx gx v ∨ st_mem zy gy v) ↔ jnM2 rh sz sn 1 (sz (sn - 1)) v := by
  rw [jnM2_iff, ← hx, ← hy]
  constructor
  · rintro (a | a)
    · exact Or.inl ⟨a, Or.inl rfl⟩
    · exact Or.inr ⟨a, Or.inl rfl⟩
  · rintro (⟨a, b⟩ | ⟨a, b⟩)
    · exact Or.inl a
    · exact Or.inr a
theorem jn_2 (hx : ∀ v, st_mem zx gx v ↔ st_mem (sz (sn - 2)) (rw_ rh (sn - 2)) v) (hy : ∀ v, st_mem zy gy v ↔ st_mem (sz (sn - 1)) (rw_ rh (sn - 1)) v) (v : Nat) : (st_mem zx gx v ∧ 0 = bN (∃ k, k < zy ∧ gy k / 2 ^ 14 = v / 2 ^ 14)) ↔ jnM2 rh sz sn 2 (sz (sn - 1)) v := by
  rw [jnM2_iff, bN_0', ← hx, ← hy]
  have ey := doc_iff hy (d := v / 2 ^ 14)
  constructor
  · rintro ⟨a, c⟩
    refine Or.inl ⟨a, Or.inr (Or.inr ⟨rfl, ?_⟩)⟩
    rw [ey] at c
    omega
  · rintro (⟨a, b⟩ | ⟨a, b⟩)
    · refine ⟨a, ?_⟩
      rw [ey]
      rcases b with b | b | b
      · exact absurd b (by decide)
      · exact absurd b.1 (by decide)
      · omega
    · rcases b with b | b | b
      · exact absurd b (by decide)
      · exact absurd b.1 (by decide)
      · exact absurd b.1 (by decide)
theorem jn_3 (hx : ∀ v, st_mem zx gx v ↔ st_mem (sz (sn - 2)) (rw_ rh (sn - 2)) v) (hy : ∀ v, st_mem zy gy v ↔ st_mem (sz (sn - 1)) (rw_ rh (sn - 1)) v) (v : Nat) : (st_mem zy gy v ∧ (∃ k, k < zx ∧ gx k / 2 ^ 12 = v / 2 ^ 12 ∧ (-10) ≤ ((gx k : Nat) : Int) - v ∧ ((gx k : Nat) : Int) - v ≤ 10)) ↔ jnM2 rh sz sn 3 (sz (sn - 1)) v := by
  rw [jnM2_iff, ← hx, ← hy, near_iff hx]
  constructor
  · rintro ⟨a, c⟩
    exact Or.inr ⟨a, Or.inr (Or.inr ⟨rfl, c⟩)⟩
  · rintro (⟨a, b⟩ | ⟨a, b⟩)
    · rcases b with b | b | b
      · exact absurd b (by decide)
      · exact absurd b.1 (by decide)
      · exact absurd b.1 (by decide)
    · refine ⟨a, ?_⟩
      rcases b with b | b | b
      · exact absurd b (by decide)
      · exact absurd b.1 (by decide)
      · exact b.2
end JN
/-! pure: documents of a set, and the best of them -/
theorem cnP_one {P : Nat → Prop} : ∀ {n : Nat}, (∀ i j, i < n → j < n → P i → P j → i = j) → cnP P n = bN (∃ i, i < n ∧ P i)
  | 0, _ => by rw [bN_f (fun ⟨i, h, _⟩ => absurd h (Nat.not_lt_zero i))]; rfl
  | n + 1, h => by
    have ih := cnP_one (P := P) (n := n) (fun i j a b => h i j (by omega) (by omega))
    by_cases q : P n
    · rw [cnP_y q, ih, bN_f, bN_t ⟨n, by omega, q⟩]
      rintro ⟨i, a, b⟩
      have := h i n (by omega) (by omega) b q
      omega
    · rw [cnP_n q, ih]
      refine bN_congr ⟨fun ⟨i, a, b⟩ => ⟨i, by omega, b⟩, fun ⟨i, a, b⟩ => ⟨i, ?_, b⟩⟩
      rcases Nat.lt_or_ge i n with w | w
      · exact w
      · have e : i = n := by omega
        rw [e] at b
        exact absurd b q
theorem cnP_lt {P : Nat → Prop} {e : Nat → Nat} {c : Nat} : ∀ {n : Nat}, cnP (fun i => P i ∧ e i < c + 1) n = cnP (fun i => P i ∧ e i < c) n + cnP (fun i => P i ∧ e i = c) n
  | 0 => rfl
  | n + 1 => by
    have ih := cnP_lt (P := P) (e := e) (c := c) (n := n)
    show _ + bN (P n ∧ e n < c + 1) = _ + bN (P n ∧ e n < c) + (_ + bN (P n ∧ e n = c))
    have hb : bN (P n ∧ e n < c + 1) = bN (P n ∧ e n < c) + bN (P n ∧ e n = c) := by
      by_cases q : P n
      · rcases Nat.lt_trichotomy (e n) c with w | w | w
        · rw [bN_t ⟨q, by omega⟩, bN_t ⟨q, w⟩, bN_f (fun z => by omega)]
        · rw [bN_t ⟨q, by omega⟩, bN_f (fun z => by omega), bN_t ⟨q, w⟩]
        · rw [bN_f (fun z => by omega), bN_f (fun z => by omega), bN_f (fun z => by omega)]
      · rw [bN_f (fun z => q z.1), bN_f (fun z => q z.1), bN_f (fun z => q z.1)]
    omega
/-- the last hit of each document -/
theorem rkE_one {z : Nat} {g : Nat → Nat} (hm : ∀ i j, i ≤ j → j < z → g i / 2 ^ 14 ≤ g j / 2 ^ 14) {d i j : Nat} (hi : i < z) (hj : j < z) (ei : rkE z g i) (ej : rkE z g j) (di : g i / 2 ^ 14 = d) (dj : g j / 2 ^ 14 = d) : i = j := by
  have key : ∀ i j, i < z → j < z → rkE z g i → g i / 2 ^ 14 = d → g j / 2 ^ 14 = d → ¬ i < j := by
    intro i j hi hj ei di dj hij
    rcases ei with q | q
    · omega
    · have h1 := hm i (i + 1) (by omega) (by omega)
      have h2 := hm (i + 1) j (by omega) hj
      omega
  have := key i j hi hj ei di dj
  have := key j i hj hi ej dj di
  omega
theorem rkE_last {z : Nat} {g : Nat → Nat} {d : Nat} : ∀ {n : Nat}, n ≤ z → (∃ k, z ≤ k + n ∧ k < z ∧ g k / 2 ^ 14 = d) → ∃ k, k < z ∧ rkE z g k ∧ g k / 2 ^ 14 = d
  | 0, _, ⟨k, h, _⟩ => by omega
  | n + 1, hn, ⟨k, a, b, c⟩ => by
    by_cases q : rkE z g k
    · exact ⟨k, b, q, c⟩
    · have q1 : ¬ z ≤ k + 1 := fun w => q (Or.inl w)
      have q2 : g (k + 1) / 2 ^ 14 = g k / 2 ^ 14 := Classical.byContradiction fun w => q (Or.inr w)
      exact rkE_last (n := n) (by omega) ⟨k + 1, by omega, by omega, by rw [q2]; exact c⟩
theorem rkE_docs {z : Nat} {g : Nat → Nat} (hm : ∀ i j, i ≤ j → j < z → g i / 2 ^ 14 ≤ g j / 2 ^ 14) (Q : Nat → Prop) : ∀ c, cnP (fun k => (rkE z g k ∧ Q (g k / 2 ^ 14)) ∧ g k / 2 ^ 14 < c) z = cnP (fun d => 0 < cnP (fun j => g j / 2 ^ 14 = d) z ∧ Q d) c
  | 0 => cnP_zero (fun i hi w => absurd w.2 (Nat.not_lt_zero _))
  | c + 1 => by
    have ih := rkE_docs hm Q c
    rw [cnP_lt (P := fun k => rkE z g k ∧ Q (g k / 2 ^ 14)) (e := fun k => g k / 2 ^ 14), ih]
    show _ = _ + bN (0 < cnP (fun j => g j / 2 ^ 14 = c) z ∧ Q c)
    congr 1
    rw [cnP_one (fun i j hi hj a b => rkE_one hm hi hj a.1.1 b.1.1 a.2 b.2)]
    refine bN_congr ⟨fun ⟨i, a, b⟩ => ⟨cnP_pos a b.2, by rw [← b.2]; exact b.1.2⟩, fun ⟨a, b⟩ => ?_⟩
    obtain ⟨k, k1, k2⟩ := cnP_pos_iff.mp a
    obtain ⟨j, j1, j2, j3⟩ := rkE_last (g := g) (n := z) (Nat.le_refl _) ⟨k, by omega, k1, k2⟩
    exact ⟨j, j1, ⟨j2, by rw [j3]; exact b⟩, j3⟩
theorem rkE_docs2 {z cm : Nat} {g : Nat → Nat} (hm : ∀ i j, i ≤ j → j < z → g i / 2 ^ 14 ≤ g j / 2 ^ 14) (hc : ∀ k, k < z → g k / 2 ^ 14 < cm) (Q : Nat → Prop) : cnP (fun k => rkE z g k ∧ Q (g k / 2 ^ 14)) z = cnP (fun d => 0 < cnP (fun j => g j / 2 ^ 14 = d) z ∧ Q d) cm := by
  rw [← rkE_docs hm Q cm]
  exact cnP_congr fun i hi => ⟨fun w => ⟨w, hc i hi⟩, fun w => w.1⟩
/-- what has been ranked -/
theorem rkS_at {f : Nat → Int64} {z : Nat} {g : Nat → Nat} (hm : ∀ i j, i ≤ j → j < z → g i / 2 ^ 14 ≤ g j / 2 ^ 14) : ∀ i, i ≤ z → (i < z → (rkS f z g i).1 = cnP (fun k => g k / 2 ^ 14 = g i / 2 ^ 14) i) ∧ (∀ v, hp_cnt (rkS f z g i).2.2 v (rkS f z g i).2.1 = cnP (fun k => rkE z g k ∧ rkK (cnP (fun j => g j / 2 ^ 14 = g k / 2 ^ 14) z) (g k / 2 ^ 14) = v) i) ∧ (rkS f z g i).2.1 = cnP (rkE z g) i
  | 0, _ => ⟨fun _ => rfl, fun _ => rfl, rfl⟩
  | i + 1, hi => by
    obtain ⟨i1, i2, i3⟩ := rkS_at (f := f) hm i (by omega)
    have i1 := i1 (by omega)
    by_cases q : rkE z g i
    · rw [rkS_y q]
      have hall : cnP (fun j => g j / 2 ^ 14 = g i / 2 ^ 14) z = (rkS f z g i).1 + 1 := by
        obtain ⟨m, hmz⟩ := Nat.le.dest (show i + 1 ≤ z from hi)
        rw [i1, ← hmz, cnP_skip (a := i + 1) (fun k a b => ?_), cnP_y (P := fun j => g j / 2 ^ 14 = g i / 2 ^ 14) rfl]
        rcases q with q | q
        · omega
        · have h1 := hm i (i + 1) (by omega) (by omega)
          have h2 := hm (i + 1) k (by omega) (by omega)
          omega
      refine ⟨fun hlt => ?_, fun v => ?_, ?_⟩
      · show 0 = _
        refine (cnP_zero fun k hk w => ?_).symm
        have h1 := hm k i (by omega) (by omega)
        have h2 := hm i (i + 1) (by omega) (by omega)
        rcases q with q | q <;> omega
      · show hp_cnt (vp_updL (rkS f z g i).2.2 (rkS f z g i).2.1 (rkK ((rkS f z g i).1 + 1) (g i / 2 ^ 14))) v (rkS f z g i).2.1 + (if vp_updL (rkS f z g i).2.2 (rkS f z g i).2.1 (rkK ((rkS f z g i).1 + 1) (g i / 2 ^ 14)) (rkS f z g i).2.1 = v then 1 else 0) = _
        rw [pk_uLs, hp_cnt_congr (g := (rkS f z g i).2.2) (fun j hj => pk_uLn (by omega)), i2 v]
        by_cases e : rkK ((rkS f z g i).1 + 1) (g i / 2 ^ 14) = v
        · rw [if_pos e, cnP_y (P := fun k => rkE z g k ∧ rkK (cnP (fun j => g j / 2 ^ 14 = g k / 2 ^ 14) z) (g k / 2 ^ 14) = v) ⟨q, by rw [hall]; exact e⟩]
        · rw [if_neg e, cnP_n (P := fun k => rkE z g k ∧ rkK (cnP (fun j => g j / 2 ^ 14 = g k / 2 ^ 14) z) (g k / 2 ^ 14) = v) (fun w => e (by rw [← hall]; exact w.2))]
          rfl
      · show _ + 1 = _
        rw [i3, cnP_y q]
    · rw [rkS_n q]
      have q1 : ¬ z ≤ i + 1 := fun w => q (Or.inl w)
      have q2 : g (i + 1) / 2 ^ 14 = g i / 2 ^ 14 := Classical.byContradiction fun w => q (Or.inr w)
      refine ⟨fun hlt => ?_, fun v => ?_, ?_⟩
      · show (rkS f z g i).1 + 1 = _
        rw [q2, i1, cnP_y (P := fun j => g j / 2 ^ 14 = g i / 2 ^ 14) rfl]
      · show hp_cnt (rkS f z g i).2.2 v (rkS f z g i).2.1 = _
        rw [i2 v, cnP_n (P := fun k => rkE z g k ∧ rkK (cnP (fun j => g j / 2 ^ 14 = g k / 2 ^ 14) z) (g k / 2 ^ 14) = v) (fun w => q w.1)]
      · show (rkS f z g i).2.1 = _
        rw [i3, cnP_n q]
theorem lsA_countP {f : Nat → Int64} {A : Nat → Prop} {w : Int64} : ∀ {n : Nat}, (lsA f A n).countP (fun v => decide (v < w)) = cnP (fun i => A i ∧ f i < w) n
  | 0 => rfl
  | n + 1 => by
    have ih := lsA_countP (f := f) (A := A) (w := w) (n := n)
    by_cases q : A n
    · rw [lsA_y q, List.countP_cons, ih]
      by_cases r : f n < w
      · rw [cnP_y (P := fun i => A i ∧ f i < w) ⟨q, r⟩, if_pos (by simp [r])]
      · rw [cnP_n (P := fun i => A i ∧ f i < w) (fun w => r w.2), if_neg (by simp [r])]
        rfl
    · rw [lsA_n q, cnP_n (P := fun i => A i ∧ f i < w) (fun w => q w.1), ih]
/-- a sorted row without repetition: the place is the number of smaller ones -/
theorem rank_at {g f : Nat → Int64} {A : Nat → Prop} {z n : Nat} (hs : ∀ i j, i ≤ j → j < z → g i ≤ g j) (hc : ∀ v, hp_cnt g v z = cnP (fun i => A i ∧ f i = v) n) (hi : ∀ i j, i < n → j < n → A i → A j → f i = f j → i = j) {k : Nat} (hk : k < z) : cnP (fun i => A i ∧ f i < g k) n = k := by
  have hp : (lsA g (fun _ => True) z).Perm (lsA f A n) := List.perm_iff_count.mpr fun v => by rw [lsA_count, lsA_count, ← hc, hp_cnt_cnP]
  have h1 := hp.countP_eq (fun v => decide (v < g k))
  rw [lsA_countP, lsA_countP] at h1
  rw [← h1]
  have hone : ∀ v, hp_cnt g v z ≤ 1 := by
    intro v
    rw [hc, cnP_one (fun i j a b c d => hi i j a b c.1 d.1 (c.2.trans d.2.symm))]
    exact bN_le _
  have hne : ∀ i j, i < j → j < z → g i < g j := by
    intro i j hij hj
    rcases Int64.lt_or_eq_of_le (hs i j (by omega) hj) with q | q
    · exact q
    · exfalso
      have := hone (g j)
      rw [hp_cnt_cnP] at this
      have h2 : 2 ≤ cnP (fun x => True ∧ g x = g j) z := by
        have a1 : 0 < cnP (fun x => True ∧ g x = g j) j := cnP_pos hij ⟨trivial, q⟩
        have a2 : cnP (fun x => True ∧ g x = g j) (j + 1) = cnP (fun x => True ∧ g x = g j) j + 1 := cnP_y (P := fun x => True ∧ g x = g j) ⟨trivial, rfl⟩
        have a3 : ∀ m, cnP (fun x => True ∧ g x = g j) (j + 1) ≤ cnP (fun x => True ∧ g x = g j) (j + 1 + m) := by
          intro m
          induction m with
          | zero => exact Nat.le_refl _
          | succ m ih => exact Nat.le_trans ih (Nat.le_add_right _ _)
        obtain ⟨m, hm⟩ := Nat.le.dest (show j + 1 ≤ z from hj)
        have := a3 m
        rw [hm] at this
        omega
      omega
  have hlt : ∀ m, k + m ≤ z → cnP (fun i => True ∧ g i < g k) (k + m) = k := by
    intro m
    induction m with
    | zero =>
      intro _
      clear h1
      have : ∀ m, m ≤ k → cnP (fun i => True ∧ g i < g k) m = m := by
        intro m
        induction m with
        | zero => intro _; rfl
        | succ m ih =>
          intro hm
          rw [cnP_y (P := fun i => True ∧ g i < g k) ⟨trivial, hne m k hm hk⟩, ih (by omega)]
      exact this k (Nat.le_refl _)
    | succ m ih =>
      intro hm
      show cnP (fun i => True ∧ g i < g k) (k + m + 1) = k
      rw [cnP_n (P := fun i => True ∧ g i < g k) (fun w => ?_), ih (by omega)]
      exact absurd w.2 (Int64.not_lt.mpr (hs k (k + m) (by omega) (by omega)))
  obtain ⟨m, hm⟩ := Nat.le.dest (Nat.le_of_lt hk)
  have := hlt m (by omega)
  rw [hm] at this
  exact this

theorem rkK_bv {h d : Nat} (hh : h ≤ 1000) (hd : d < 1024) : (rkK h d).toBitVec = (BitVec.ofInt 64 (-(h : Int)) <<< 10) ||| BitVec.ofNat 64 d := by
  have e1 : ((nI 10).toInt64 &&& 63) = 10 := by decide
  have e2 : (-(nI h)).toInt64 = Int64.ofInt (-(h : Int)) := by
    apply Int64.toInt_inj.mp
    rw [Int32.toInt_toInt64]
    have : -(nI h) = Int32.ofInt (-(h : Int)) := by
      rw [Int32.ofInt_neg]
      rw [show Int32.ofInt (h : Int) = nI h from Int32.ofInt_eq_ofNat]
    rw [this, Int32.toInt_ofInt_of_le (by omega) (by omega), Int64.toInt_ofInt_of_le (by omega) (by omega)]
  have e3 : (nI d).toInt64 = Int64.ofNat d := by
    apply Int64.toInt_inj.mp
    rw [Int32.toInt_toInt64]
    have : nI d = Int32.ofInt (d : Int) := (Int32.ofInt_eq_ofNat).symm
    rw [this, Int32.toInt_ofInt_of_le (by omega) (by omega), Int64.toInt_ofNat_of_lt (by omega)]
  unfold rkK
  rw [e1, e2, e3, Int64.toBitVec_or, Int64.toBitVec_shiftLeft]
  have e4 : (10 : Int64).toBitVec.smod 64 = 10#64 := by decide
  rw [e4]
  rfl
theorem rkK_int {h d : Nat} (hh : h ≤ 1000) (hd : d < 1024) : (rkK h d).toInt = (d : Int) - 1024 * h := by
  show (rkK h d).toBitVec.toInt = _
  rw [rkK_bv hh hd, ← BitVec.add_eq_or_of_and_eq_zero]
  · rw [← BitVec.mul_twoPow_eq_shiftLeft, show BitVec.twoPow 64 10 = BitVec.ofInt 64 1024 by decide, ← BitVec.ofInt_mul, show BitVec.ofNat 64 d = BitVec.ofInt 64 (d : Int) from (BitVec.ofInt_natCast 64 d).symm, ← BitVec.ofInt_add]
    rw [BitVec.toInt_ofInt_eq_self (by omega) (by omega) (by omega)]
    omega
  · apply BitVec.eq_of_getLsbD_eq
    intro i hi
    rw [BitVec.getLsbD_and, BitVec.getLsbD_shiftLeft, BitVec.getLsbD_ofNat]
    by_cases q : i < 10
    · simp [q]
    · rw [Nat.testBit_lt_two_pow (Nat.lt_of_lt_of_le hd (Nat.pow_le_pow_right (n := 2) (by decide) (show 10 ≤ i by omega)))]
      simp
theorem rkK_doc {h d : Nat} (hh : h ≤ 1000) (hd : d < 1024) : (rkK h d &&& 1023).toInt32 = nI d := by
  apply Int32.toBitVec_inj.1
  apply BitVec.eq_of_getLsbD_eq
  intro i hi
  show ((rkK h d &&& 1023).toBitVec.signExtend 32).getLsbD i = (BitVec.ofNat 32 d).getLsbD i
  rw [BitVec.getLsbD_signExtend, Int64.toBitVec_and, rkK_bv hh hd]
  have e : (1023 : Int64).toBitVec.getLsbD i = decide (i < 10) := by
    have : ∀ i : Fin 64, (1023 : Int64).toBitVec.getLsbD i.1 = decide (i.1 < 10) := by decide
    exact this ⟨i, by omega⟩
  rw [if_pos (by omega), BitVec.getLsbD_and, e, BitVec.getLsbD_or, BitVec.getLsbD_shiftLeft, BitVec.getLsbD_ofNat, BitVec.getLsbD_ofNat]
  by_cases q : i < 10
  · simp [q, hi]
    omega
  · rw [Nat.testBit_lt_two_pow (Nat.lt_of_lt_of_le hd (Nat.pow_le_pow_right (n := 2) (by decide) (show 10 ≤ i by omega)))]
    simp [q]
theorem rkK_lt {h d h' d' : Nat} (hh : h ≤ 1000) (hd : d < 1024) (hh' : h' ≤ 1000) (hd' : d' < 1024) : rkK h d < rkK h' d' ↔ h' < h ∨ (h = h' ∧ d < d') := by
  rw [Int64.lt_iff_toInt_lt, rkK_int hh hd, rkK_int hh' hd']
  omega
theorem rkK_inj {h d h' d' : Nat} (hh : h ≤ 1000) (hd : d < 1024) (hh' : h' ≤ 1000) (hd' : d' < 1024) (e : rkK h d = rkK h' d') : d = d' := by
  have := congrArg Int64.toInt e
  rw [rkK_int hh hd, rkK_int hh' hd'] at this
  omega
/-- the documents ranked: the one at place k has k before it -/
theorem best_at {f f' : Nat → Int64} {z cm : Nat} {g : Nat → Nat} (hz : z ≤ 1000) (hcm : cm ≤ 600) (hm : ∀ i j, i ≤ j → j < z → g i / 2 ^ 14 ≤ g j / 2 ^ 14) (hc : ∀ k, k < z → g k / 2 ^ 14 < cm)
    (hcnt : ∀ v, hp_cnt f' v (rkS f z g z).2.1 = hp_cnt (rkS f z g z).2.2 v (rkS f z g z).2.1) (hsrt : ∀ i j, i ≤ j → j < (rkS f z g z).2.1 → f' i ≤ f' j) :
    (rkS f z g z).2.1 = cnP (fun d => 0 < cnP (fun j => g j / 2 ^ 14 = d) z) cm ∧
    (∀ k, k < (rkS f z g z).2.1 → ∃ d, d < cm ∧ 0 < cnP (fun j => g j / 2 ^ 14 = d) z ∧ f' k = rkK (cnP (fun j => g j / 2 ^ 14 = d) z) d ∧ cnP (fun e => cnP (fun j => g j / 2 ^ 14 = d) z < cnP (fun j => g j / 2 ^ 14 = e) z ∨ (cnP (fun j => g j / 2 ^ 14 = e) z = cnP (fun j => g j / 2 ^ 14 = d) z ∧ e < d)) cm = k) ∧
    (∀ d, d < cm → 0 < cnP (fun j => g j / 2 ^ 14 = d) z → ∃ k, k < (rkS f z g z).2.1 ∧ f' k = rkK (cnP (fun j => g j / 2 ^ 14 = d) z) d) := by
  obtain ⟨-, r2, r3⟩ := rkS_at (f := f) hm z (Nat.le_refl _)
  have hle : ∀ d, cnP (fun j => g j / 2 ^ 14 = d) z ≤ 1000 := fun d => Nat.le_trans (cnP_le _ _) hz
  have hcv : ∀ v, hp_cnt f' v (rkS f z g z).2.1 = cnP (fun d => 0 < cnP (fun j => g j / 2 ^ 14 = d) z ∧ rkK (cnP (fun j => g j / 2 ^ 14 = d) z) d = v) cm := by
    intro v
    rw [hcnt, r2 v]
    exact rkE_docs2 hm hc (fun d => rkK (cnP (fun j => g j / 2 ^ 14 = d) z) d = v)
  refine ⟨?_, fun k hk => ?_, fun d hd hp => ?_⟩
  · rw [r3]
    have := rkE_docs2 hm hc (fun _ => True)
    rw [cnP_congr (P := fun k => rkE z g k ∧ True) (Q := rkE z g) (fun i _ => ⟨fun w => w.1, fun w => ⟨w, trivial⟩⟩), cnP_congr (P := fun d => 0 < cnP (fun j => g j / 2 ^ 14 = d) z ∧ True) (Q := fun d => 0 < cnP (fun j => g j / 2 ^ 14 = d) z) (fun i _ => ⟨fun w => w.1, fun w => ⟨w, trivial⟩⟩)] at this
    exact this
  · have hp := hp_cnt_pos (f := f') hk
    rw [hcv] at hp
    obtain ⟨d, d1, d2, d3⟩ := cnP_pos_iff.mp hp
    refine ⟨d, d1, d2, d3.symm, ?_⟩
    have hr := rank_at (A := fun d => 0 < cnP (fun j => g j / 2 ^ 14 = d) z) (f := fun d => rkK (cnP (fun j => g j / 2 ^ 14 = d) z) d) hsrt hcv (fun i j a b _ _ e => rkK_inj (hle i) (by omega) (hle j) (by omega) e) hk
    rw [← hr]
    refine cnP_congr fun e he => ?_
    rw [← d3, rkK_lt (hle e) (by omega) (hle d) (by omega)]
    constructor
    · rintro (w | w)
      · exact ⟨by omega, Or.inl w⟩
      · exact ⟨by omega, Or.inr w⟩
    · rintro ⟨_, w⟩
      exact w
  · have : 0 < hp_cnt f' (rkK (cnP (fun j => g j / 2 ^ 14 = d) z) d) (rkS f z g z).2.1 := by
      rw [hcv]
      exact cnP_pos hd ⟨hp, rfl⟩
    obtain ⟨k, a, b⟩ := hp_cnt_ex this
    exact ⟨k, a, b⟩

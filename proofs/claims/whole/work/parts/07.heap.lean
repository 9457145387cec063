/-! pure: counting, and the heap of longs -/
def dI (k : Nat) : Int32 := nI k - 1
theorem dI_pos {k : Nat} (h : 0 < k) : dI k = nI (k - 1) := by
  have := nI_sub (a := k) (b := 1) h
  exact this
theorem dI_0 : dI 0 = -1 := by decide
theorem dI_lt {k : Nat} (hk : k < 2 ^ 31) : dI k < 0 ↔ k = 0 := by
  constructor
  · intro h
    rcases Nat.eq_zero_or_pos k with q | q
    · exact q
    · rw [dI_pos q] at h
      exact absurd h (nI_pos (by omega))
  · intro h
    rw [h, dI_0]
    decide
theorem dI_le {k : Nat} (hk : k < 2 ^ 31) : dI k ≤ 0 ↔ k ≤ 1 := by
  constructor
  · intro h
    rcases Nat.eq_zero_or_pos k with q | q
    · omega
    · rw [dI_pos q] at h
      rcases Nat.eq_zero_or_pos (k - 1) with q2 | q2
      · omega
      · exact absurd h (nI_nle q2 (by omega))
  · intro h
    rcases (show k = 0 ∨ k = 1 by omega) with rfl | rfl <;> decide
theorem dI_inc (k : Nat) : nI k + Int32.ofInt (-1) = dI k := by
  show nI k + Int32.ofInt (-1) = nI k - 1
  rw [Int32.sub_eq_add_neg]
  rfl
def hp_cnt (f : Nat → Int64) (v : Int64) : Nat → Nat
  | 0 => 0
  | n + 1 => hp_cnt f v n + (if f n = v then 1 else 0)
theorem hp_cnt_congr {f g : Nat → Int64} {v : Int64} : ∀ {n : Nat}, (∀ i, i < n → f i = g i) → hp_cnt f v n = hp_cnt g v n
  | 0, _ => rfl
  | n + 1, h => by
    show hp_cnt f v n + _ = hp_cnt g v n + _
    rw [hp_cnt_congr (fun i hi => h i (by omega)), h n (by omega)]
theorem hp_cnt_upd {f : Nat → Int64} {v x : Int64} {i : Nat} : ∀ {n : Nat}, i < n → hp_cnt (vp_updL f i x) v n + (if f i = v then 1 else 0) = hp_cnt f v n + (if x = v then 1 else 0)
  | 0, h => absurd h (Nat.not_lt_zero _)
  | n + 1, h => by
    show hp_cnt (vp_updL f i x) v n + (if vp_updL f i x n = v then 1 else 0) + _ = hp_cnt f v n + (if f n = v then 1 else 0) + _
    by_cases e : n = i
    · subst e
      rw [pk_uLs, hp_cnt_congr (g := f) (fun j hj => pk_uLn (by omega))]
      omega
    · rw [pk_uLn e]
      have := hp_cnt_upd (v := v) (x := x) (f := f) (n := n) (i := i) (by omega)
      omega
def hp_ge (g : Nat → Int64) (e i : Nat) : Prop := (2 * i + 1 < e → g (2 * i + 1) ≤ g i) ∧ (2 * i + 2 < e → g (2 * i + 2) ≤ g i)
def hp_sunk (f : Nat → Int64) (root e : Nat) (f' : Nat → Int64) : Prop := (∀ v, hp_cnt f' v e = hp_cnt f v e) ∧ (∀ j, (j < root ∨ e ≤ j) → f' j = f j) ∧ ((∀ i, root < i → hp_ge f e i) → ∀ i, root ≤ i → hp_ge f' e i)
def hp_sinking (f0 : Nat → Int64) (root e : Nat) (key : Int64) (f : Nat → Int64) (p : Nat) : Prop :=
  (∀ v, hp_cnt (vp_updL f p key) v e = hp_cnt f0 v e) ∧ (∀ j, (j < root ∨ e ≤ j) → f j = f0 j) ∧
  ((∀ i, root < i → hp_ge f0 e i) → (∀ i, root ≤ i → i ≠ p → hp_ge (vp_updL f p key) e i) ∧ (root < p → ∃ q, (p = 2 * q + 1 ∨ p = 2 * q + 2) ∧ root ≤ q ∧ (2 * p + 1 < e → f (2 * p + 1) ≤ f q) ∧ (2 * p + 2 < e → f (2 * p + 2) ≤ f q)))
def hp_max (f : Nat → Int64) (e p c : Nat) : Prop := (c = 2 * p + 1 ∨ c = 2 * p + 2) ∧ c < e ∧ (2 * p + 1 < e → f (2 * p + 1) ≤ f c) ∧ (2 * p + 2 < e → f (2 * p + 2) ≤ f c)
theorem hp_start (f : Nat → Int64) (root e : Nat) : hp_sinking f root e (f root) f root := by
  have e1 : vp_updL f root (f root) = f := by
    funext j
    by_cases q : j = root
    · subst q; rw [pk_uLs]
    · rw [pk_uLn q]
  refine ⟨fun v => by rw [e1], fun _ _ => rfl, fun h => ⟨fun i h1 h2 => ?_, fun h => absurd h (Nat.lt_irrefl _)⟩⟩
  rw [e1]
  exact h i (by omega)
theorem hp_done {f0 f : Nat → Int64} {root e p : Nat} {key : Int64} (h : hp_sinking f0 root e key f p) (hr : root ≤ p) (hp : p < e) (hg : (2 * p + 1 < e → f (2 * p + 1) ≤ key) ∧ (2 * p + 2 < e → f (2 * p + 2) ≤ key)) : hp_sunk f0 root e (vp_updL f p key) := by
  obtain ⟨h1, h2, h3⟩ := h
  refine ⟨h1, fun j hj => ?_, fun hh i hi => ?_⟩
  · rw [pk_uLn (by omega)]
    exact h2 j hj
  · by_cases q : i = p
    · subst q
      refine ⟨fun z => ?_, fun z => ?_⟩
      · rw [pk_uLs, pk_uLn (by omega)]; exact hg.1 z
      · rw [pk_uLs, pk_uLn (by omega)]; exact hg.2 z
    · exact (h3 hh).1 i hi q
theorem hp_step {f0 f : Nat → Int64} {root e p c : Nat} {key : Int64} (h : hp_sinking f0 root e key f p) (hr : root ≤ p) (hp : p < e) (hc : hp_max f e p c) (hk : key < f c) : hp_sinking f0 root e key (vp_updL f p (f c)) c := by
  obtain ⟨h1, h2, h3⟩ := h
  obtain ⟨c1, c2, c3, c4⟩ := hc
  have hpc : p ≠ c := by omega
  have key_at : ∀ j, vp_updL (vp_updL f p (f c)) c key j = if j = c then key else if j = p then f c else f j := fun j => by
    by_cases q : j = c
    · subst q; rw [pk_uLs, if_pos rfl]
    · rw [pk_uLn q, if_neg q]
      by_cases q2 : j = p
      · subst q2; rw [pk_uLs, if_pos rfl]
      · rw [pk_uLn q2, if_neg q2]
  have g_at : ∀ j, vp_updL f p key j = if j = p then key else f j := fun j => by
    by_cases q : j = p
    · subst q; rw [pk_uLs, if_pos rfl]
    · rw [pk_uLn q, if_neg q]
  refine ⟨fun v => ?_, fun j hj => ?_, fun hh => ⟨fun i hi hne => ?_, fun _ => ?_⟩⟩
  · have a1 := hp_cnt_upd (f := vp_updL f p (f c)) (v := v) (x := key) c2
    have a2 := hp_cnt_upd (f := f) (v := v) (x := f c) hp
    have a3 := hp_cnt_upd (f := f) (v := v) (x := key) hp
    rw [pk_uLn (f := f) (k := p) (x := f c) (show c ≠ p from fun q => hpc q.symm)] at a1
    have := h1 v
    omega
  · rw [pk_uLn (by omega)]
    exact h2 j hj
  · obtain ⟨k1, k2⟩ := h3 hh
    by_cases q : i = p
    · subst q
      refine ⟨fun z => ?_, fun z => ?_⟩
      · rw [key_at, key_at, if_neg hpc, if_pos rfl]
        split
        · exact Int64.le_of_lt hk
        · rw [if_neg (by omega)]; exact c3 z
      · rw [key_at, key_at, if_neg hpc, if_pos rfl]
        split
        · exact Int64.le_of_lt hk
        · rw [if_neg (by omega)]; exact c4 z
    · have hgi := k1 i hi q
      have ei : vp_updL (vp_updL f p (f c)) c key i = vp_updL f p key i := by rw [key_at, g_at, if_neg hne, if_neg q, if_neg q]
      have side : ∀ j, (j = 2 * i + 1 ∨ j = 2 * i + 2) → j < e → vp_updL f p key j ≤ vp_updL f p key i → vp_updL (vp_updL f p (f c)) c key j ≤ vp_updL (vp_updL f p (f c)) c key i := by
        intro j hj hje hle
        rw [ei]
        have hjc : j ≠ c := by clear k2 k1 hgi h3; omega
        by_cases qj : j = p
        · subst qj
          obtain ⟨w, w1, w2, w3, w4⟩ := k2 (by omega)
          have hwi : w = i := by clear k2 k1 hgi h3 w3 w4; omega
          subst hwi
          rw [key_at, if_neg hjc, if_pos rfl, g_at, if_neg q]
          rcases c1 with rfl | rfl
          · exact w3 c2
          · exact w4 c2
        · rw [key_at, if_neg hjc, if_neg qj]
          rw [g_at, if_neg qj] at hle
          exact hle
      exact ⟨fun z => side _ (Or.inl rfl) z (hgi.1 z), fun z => side _ (Or.inr rfl) z (hgi.2 z)⟩
  · obtain ⟨k1, k2⟩ := h3 hh
    have hgc := k1 c (by omega) (fun q => hpc q.symm)
    refine ⟨p, c1, hr, fun z => ?_, fun z => ?_⟩
    · rw [pk_uLn (by omega), pk_uLs]
      have := hgc.1 z
      rw [g_at, g_at, if_neg (by omega), if_neg (by omega)] at this
      exact this
    · rw [pk_uLn (by omega), pk_uLs]
      have := hgc.2 z
      rw [g_at, g_at, if_neg (by omega), if_neg (by omega)] at this
      exact this

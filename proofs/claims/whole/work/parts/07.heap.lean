/-! pure: counting, and the heap of longs -/
def dI (k : Nat) : Int32 := nI k - 1
theorem dI_pos {k : Nat} (h : 0 < k) : dI k = nI (k - 1) := by
  have := nI_sub (a := k) (b := 1) h
  exact this
theorem dI_0 : dI 0 = -1 := by decide
theorem dI_lt {k : Nat} (hk : k < 2 ^ 31) : dI k < 0 ↔ k = 0 := by
  constructor
  · intro h
    rcases Nat.eq_zero_or_pos k with q | q
    · exact q
    · rw [dI_pos q] at h
      exact absurd h (nI_pos (by omega))
  · intro h
    rw [h, dI_0]
    decide
theorem dI_le {k : Nat} (hk : k < 2 ^ 31) : dI k ≤ 0 ↔ k ≤ 1 := by
  constructor
  · intro h
    rcases Nat.eq_zero_or_pos k with q | q
    · omega
    · rw [dI_pos q] at h
      rcases Nat.eq_zero_or_pos (k - 1) with q2 | q2
      · omega
      · exact absurd h (nI_nle q2 (by omega))
  · intro h
    rcases (show k = 0 ∨ k = 1 by omega) with rfl | rfl <;> decide
theorem dI_inc (k : Nat) : nI k + Int32.ofInt (-1) = dI k := by
  show nI k + Int32.ofInt (-1) = nI k - 1
  rw [Int32.sub_eq_add_neg]
  rfl
def hp_cnt (f : Nat → Int64) (v : Int64) : Nat → Nat
  | 0 => 0
  | n + 1 => hp_cnt f v n + (if f n = v then 1 else 0)
theorem hp_cnt_congr {f g : Nat → Int64} {v : Int64} : ∀ {n : Nat}, (∀ i, i < n → f i = g i) → hp_cnt f v n = hp_cnt g v n
  | 0, _ => rfl
  | n + 1, h => by
    show hp_cnt f v n + _ = hp_cnt g v n + _
    rw [hp_cnt_congr (fun i hi => h i (by omega)), h n (by omega)]
theorem hp_cnt_upd {f : Nat → Int64} {v x : Int64} {i : Nat} : ∀ {n : Nat}, i < n → hp_cnt (vp_updL f i x) v n + (if f i = v then 1 else 0) = hp_cnt f v n + (if x = v then 1 else 0)
  | 0, h => absurd h (Nat.not_lt_zero _)
  | n + 1, h => by
    show hp_cnt (vp_updL f i x) v n + (if vp_updL f i x n = v then 1 else 0) + _ = hp_cnt f v n + (if f n = v then 1 else 0) + _
    by_cases e : n = i
    · subst e
      rw [pk_uLs, hp_cnt_congr (g := f) (fun j hj => pk_uLn (by omega))]
      omega
    · rw [pk_uLn e]
      have := hp_cnt_upd (v := v) (x := x) (f := f) (n := n) (i := i) (by omega)
      omega
def hp_ge (g : Nat → Int64) (e i : Nat) : Prop := (2 * i + 1 < e → g (2 * i + 1) ≤ g i) ∧ (2 * i + 2 < e → g (2 * i + 2) ≤ g i)
def hp_sunk (f : Nat → Int64) (root e : Nat) (f' : Nat → Int64) : Prop := (∀ v, hp_cnt f' v e = hp_cnt f v e) ∧ (∀ j, (j < root ∨ e ≤ j) → f' j = f j) ∧ ((∀ i, root < i → hp_ge f e i) → ∀ i, root ≤ i → hp_ge f' e i)
def hp_sinking (f0 : Nat → Int64) (root e : Nat) (key : Int64) (f : Nat → Int64) (p : Nat) : Prop :=
  (∀ v, hp_cnt (vp_updL f p key) v e = hp_cnt f0 v e) ∧ (∀ j, (j < root ∨ e ≤ j) → f j = f0 j) ∧
  ((∀ i, root < i → hp_ge f0 e i) → (∀ i, root ≤ i → i ≠ p → hp_ge (vp_updL f p key) e i) ∧ (root < p → ∃ q, (p = 2 * q + 1 ∨ p = 2 * q + 2) ∧ root ≤ q ∧ (2 * p + 1 < e → f (2 * p + 1) ≤ f q) ∧ (2 * p + 2 < e → f (2 * p + 2) ≤ f q)))
def hp_max (f : Nat → Int64) (e p c : Nat) : Prop := (c = 2 * p + 1 ∨ c = 2 * p + 2) ∧ c < e ∧ (2 * p + 1 < e → f (2 * p + 1) ≤ f c) ∧ (2 * p + 2 < e → f (2 * p + 2) ≤ f c)
theorem hp_start (f : Nat → Int64) (root e : Nat) : hp_sinking f root e (f root) f root := by
  have e1 : vp_updL f root (f root) = f := by
    funext j
    by_cases q : j = root
    · subst q; rw [pk_uLs]
    · rw [pk_uLn q]
  refine ⟨fun v => by rw [e1], fun _ _ => rfl, fun h => ⟨fun i h1 h2 => ?_, fun h => absurd h (Nat.lt_irrefl _)⟩⟩
  rw [e1]
  exact h i (by omega)
theorem hp_done {f0 f : Nat → Int64} {root e p : Nat} {key : Int64} (h : hp_sinking f0 root e key f p) (hr : root ≤ p) (hp : p < e) (hg : (2 * p + 1 < e → f (2 * p + 1) ≤ key) ∧ (2 * p + 2 < e → f (2 * p + 2) ≤ key)) : hp_sunk f0 root e (vp_updL f p key) := by
  obtain ⟨h1, h2, h3⟩ := h
  refine ⟨h1, fun j hj => ?_, fun hh i hi => ?_⟩
  · rw [pk_uLn (by omega)]
    exact h2 j hj
  · by_cases q : i = p
    · subst q
      refine ⟨fun z => ?_, fun z => ?_⟩
      · rw [pk_uLs, pk_uLn (by omega)]; exact hg.1 z
      · rw [pk_uLs, pk_uLn (by omega)]; exact hg.2 z
    · exact (h3 hh).1 i hi q
theorem hp_step {f0 f : Nat → Int64} {root e p c : Nat} {key : Int64} (h : hp_sinking f0 root e key f p) (hr : root ≤ p) (hp : p < e) (hc : hp_max f e p c) (hk : key < f c) : hp_sinking f0 root e key (vp_updL f p (f c)) c := by
  obtain ⟨h1, h2, h3⟩ := h
  obtain ⟨c1, c2, c3, c4⟩ := hc
  have hpc : p ≠ c := by omega
  have key_at : ∀ j, vp_updL (vp_updL f p (f c)) c key j = if j = c then key else if j = p then f c else f j := fun j => by
    by_cases q : j = c
    · subst q; rw [pk_uLs, if_pos rfl]
    · rw [pk_uLn q, if_neg q]
      by_cases q2 : j = p
      · subst q2; rw [pk_uLs, if_pos rfl]
      · rw [pk_uLn q2, if_neg q2]
  have g_at : ∀ j, vp_updL f p key j = if j = p then key else f j := fun j => by
    by_cases q : j = p
    · subst q; rw [pk_uLs, if_pos rfl]
    · rw [pk_uLn q, if_neg q]
  refine ⟨fun v => ?_, fun j hj => ?_, fun hh => ⟨fun i hi hne => ?_, fun _ => ?_⟩⟩
  · have a1 := hp_cnt_upd (f := vp_updL f p (f c)) (v := v) (x := key) c2
    have a2 := hp_cnt_upd (f := f) (v := v) (x := f c) hp
    have a3 := hp_cnt_upd (f := f) (v := v) (x := key) hp
    rw [pk_uLn (f := f) (k := p) (x := f c) (show c ≠ p from fun q => hpc q.symm)] at a1
    have := h1 v
    omega
  · rw [pk_uLn (by omega)]
    exact h2 j hj
  · obtain ⟨k1, k2⟩ := h3 hh
    by_cases q : i = p
    · subst q
      refine ⟨fun z => ?_, fun z => ?_⟩
      · rw [key_at, key_at, if_neg hpc, if_pos rfl]
        split
        · exact Int64.le_of_lt hk
        · rw [if_neg (by omega)]; exact c3 z
      · rw [key_at, key_at, if_neg hpc, if_pos rfl]
        split
        · exact Int64.le_of_lt hk
        · rw [if_neg (by omega)]; exact c4 z
    · have hgi := k1 i hi q
      have ei : vp_updL (vp_updL f p (f c)) c key i = vp_updL f p key i := by rw [key_at, g_at, if_neg hne, if_neg q, if_neg q]
      have side : ∀ j, (j = 2 * i + 1 ∨ j = 2 * i + 2) → j < e → vp_updL f p key j ≤ vp_updL f p key i → vp_updL (vp_updL f p (f c)) c key j ≤ vp_updL (vp_updL f p (f c)) c key i := by
        intro j hj hje hle
        rw [ei]
        have hjc : j ≠ c := by clear k2 k1 hgi h3; omega
        by_cases qj : j = p
        · subst qj
          obtain ⟨w, w1, w2, w3, w4⟩ := k2 (by omega)
          have hwi : w = i := by clear k2 k1 hgi h3 w3 w4; omega
          subst hwi
          rw [key_at, if_neg hjc, if_pos rfl, g_at, if_neg q]
          rcases c1 with rfl | rfl
          · exact w3 c2
          · exact w4 c2
        · rw [key_at, if_neg hjc, if_neg qj]
          rw [g_at, if_neg qj] at hle
          exact hle
      exact ⟨fun z => side _ (Or.inl rfl) z (hgi.1 z), fun z => side _ (Or.inr rfl) z (hgi.2 z)⟩
  · obtain ⟨k1, k2⟩ := h3 hh
    have hgc := k1 c (by omega) (fun q => hpc q.symm)
    refine ⟨p, c1, hr, fun z => ?_, fun z => ?_⟩
    · rw [pk_uLn (by omega), pk_uLs]
      have := hgc.1 z
      rw [g_at, g_at, if_neg (by omega), if_neg (by omega)] at this
      exact this
    · rw [pk_uLn (by omega), pk_uLs]
      have := hgc.2 z
      rw [g_at, g_at, if_neg (by omega), if_neg (by omega)] at this
      exact this
theorem hp_root_max {g : Nat → Int64} {k : Nat} (h : ∀ i, hp_ge g k i) : ∀ i, i < k → g i ≤ g 0 := by
  intro i
  induction i using Nat.strongRecOn with
  | _ i ih =>
    intro hi
    rcases Nat.eq_zero_or_pos i with q | q
    · subst q; exact Int64.le_refl _
    · have hp : (i - 1) / 2 < i := by omega
      have h1 := ih ((i - 1) / 2) hp (by omega)
      rcases (show i = 2 * ((i - 1) / 2) + 1 ∨ i = 2 * ((i - 1) / 2) + 2 by omega) with q | q
      · have := (h ((i - 1) / 2)).1 (by omega)
        rw [← q] at this
        exact Int64.le_trans this h1
      · have := (h ((i - 1) / 2)).2 (by omega)
        rw [← q] at this
        exact Int64.le_trans this h1
theorem hp_cnt_ext {f g : Nat → Int64} {v : Int64} {e : Nat} (h : hp_cnt f v e = hp_cnt g v e) (ho : ∀ j, e ≤ j → f j = g j) : ∀ z, e ≤ z → hp_cnt f v z = hp_cnt g v z := by
  intro z
  induction z with
  | zero => intro hz; have : e = 0 := by omega
            subst this; exact h
  | succ z ih =>
    intro hz
    rcases Nat.lt_or_ge z e with q | q
    · have : e = z + 1 := by omega
      subst this; exact h
    · show hp_cnt f v z + _ = hp_cnt g v z + _
      rw [ih q, ho z q]
theorem hp_cnt_pos {f : Nat → Int64} : ∀ {e i : Nat}, i < e → 0 < hp_cnt f (f i) e
  | 0, _, h => absurd h (Nat.not_lt_zero _)
  | e + 1, i, h => by
    show 0 < hp_cnt f (f i) e + (if f e = f i then 1 else 0)
    rcases Nat.lt_or_ge i e with q | q
    · have := hp_cnt_pos (f := f) q; omega
    · have : i = e := by omega
      subst this
      rw [if_pos rfl]; omega
theorem hp_cnt_ex {f : Nat → Int64} {v : Int64} : ∀ {e : Nat}, 0 < hp_cnt f v e → ∃ i, i < e ∧ f i = v
  | 0, h => absurd h (Nat.lt_irrefl _)
  | e + 1, h => by
    have h : 0 < hp_cnt f v e + (if f e = v then 1 else 0) := h
    by_cases q : f e = v
    · exact ⟨e, by omega, q⟩
    · rw [if_neg q] at h
      obtain ⟨i, h1, h2⟩ := hp_cnt_ex (f := f) (v := v) (e := e) h
      exact ⟨i, by omega, h2⟩
def hp_srt (f g : Nat → Int64) (z k : Nat) : Prop := (∀ v, hp_cnt g v z = hp_cnt f v z) ∧ (∀ i, hp_ge g k i) ∧ (∀ i j, k ≤ i → i ≤ j → j < z → g i ≤ g j) ∧ (∀ i j, i < k → k ≤ j → j < z → g i ≤ g j)
theorem hp_srt_end {f g : Nat → Int64} {z k : Nat} (h : hp_srt f g z k) (hk : k ≤ 1) : ∀ i j, i ≤ j → j < z → g i ≤ g j := by
  obtain ⟨-, -, h3, h4⟩ := h
  intro i j h1 h2
  rcases Nat.lt_or_ge i k with q | q
  · rcases Nat.lt_or_ge j k with q2 | q2
    · have : i = j := by omega
      subst this; exact Int64.le_refl _
    · exact h4 i j q q2 h2
  · exact h3 i j q h1 h2
theorem hp_srt_next {f g f' : Nat → Int64} {z k : Nat} (h : hp_srt f g z k) (hk : 2 ≤ k) (hz : k ≤ z) (hs : hp_sunk (vp_updL (vp_updL g 0 (g (k - 1))) (k - 1) (g 0)) 0 (k - 1) f') : hp_srt f f' z (k - 1) := by
  obtain ⟨h1, h2, h3, h4⟩ := h
  obtain ⟨s1, s2, s3⟩ := hs
  have at1 : ∀ j, vp_updL (vp_updL g 0 (g (k - 1))) (k - 1) (g 0) j = if j = k - 1 then g 0 else if j = 0 then g (k - 1) else g j := fun j => by
    by_cases q : j = k - 1
    · subst q; rw [pk_uLs, if_pos rfl]
    · rw [pk_uLn q, if_neg q]
      by_cases q2 : j = 0
      · subst q2; rw [pk_uLs, if_pos rfl]
      · rw [pk_uLn q2, if_neg q2]
  generalize hg1 : vp_updL (vp_updL g 0 (g (k - 1))) (k - 1) (g 0) = g1 at s1 s2 s3 at1
  have hmax := hp_root_max h2
  have hf' : ∀ j, k - 1 ≤ j → f' j = g1 j := fun j hj => s2 j (Or.inr hj)
  have hlow : ∀ i, i < k - 1 → f' i ≤ g 0 ∧ ∃ w, w < k ∧ f' i = g w := by
    intro i hi
    have hp := hp_cnt_pos (f := f') hi
    rw [s1] at hp
    obtain ⟨i', q1, q2⟩ := hp_cnt_ex hp
    rw [← q2, at1, if_neg (by omega)]
    split
    · exact ⟨hmax _ (by omega), k - 1, by omega, rfl⟩
    · exact ⟨hmax _ (by omega), i', by omega, rfl⟩
  refine ⟨fun v => ?_, fun i => ?_, fun i j a1 a2 a3 => ?_, fun i j a1 a2 a3 => ?_⟩
  · have e1 := hp_cnt_ext (s1 v) hf' z (by omega)
    have e2 := hp_cnt_upd (f := vp_updL g 0 (g (k - 1))) (v := v) (x := g 0) (i := k - 1) (n := z) (by omega)
    have e3 := hp_cnt_upd (f := g) (v := v) (x := g (k - 1)) (i := 0) (n := z) (by omega)
    rw [pk_uLn (f := g) (k := 0) (x := g (k - 1)) (show k - 1 ≠ 0 by omega)] at e2
    rw [hg1] at e2
    have := h1 v
    omega
  · have hr : ∀ i, 0 < i → hp_ge g1 (k - 1) i := by
      intro i hi
      refine ⟨fun q => ?_, fun q => ?_⟩
      · rw [at1, at1, if_neg (by omega), if_neg (by omega), if_neg (by omega), if_neg (by omega)]
        exact (h2 i).1 (by omega)
      · rw [at1, at1, if_neg (by omega), if_neg (by omega), if_neg (by omega), if_neg (by omega)]
        exact (h2 i).2 (by omega)
    exact s3 hr i (Nat.zero_le i)
  · rw [hf' i a1, hf' j (by omega), at1, at1]
    by_cases q : i = k - 1
    · rw [if_pos q]
      by_cases q2 : j = k - 1
      · rw [if_pos q2]; exact Int64.le_refl _
      · rw [if_neg q2, if_neg (by omega)]
        exact h4 0 j (by omega) (by omega) a3
    · rw [if_neg q, if_neg (by omega), if_neg (by omega), if_neg (by omega)]
      exact h3 i j (by omega) a2 a3
  · obtain ⟨b1, w, b2, b3⟩ := hlow i a1
    rw [hf' j a2, at1]
    by_cases q2 : j = k - 1
    · rw [if_pos q2]; exact b1
    · rw [if_neg q2, if_neg (by omega), b3]
      exact h4 w j b2 (by omega) a3
/-- how many places differ from the one before -/
def hp_dif (g : Nat → Int64) : Nat → Nat
  | 0 => 0
  | n + 1 => hp_dif g n + (if n = 0 ∨ ¬ g n = g (n - 1) then 1 else 0)
theorem hp_dif_le (g : Nat → Int64) : ∀ n, hp_dif g n ≤ n
  | 0 => Nat.le_refl _
  | n + 1 => by
    have := hp_dif_le g n
    show hp_dif g n + (if n = 0 ∨ ¬ g n = g (n - 1) then 1 else 0) ≤ n + 1
    split <;> omega
theorem hp_dif_eq {g : Nat → Int64} {i : Nat} (h : 0 < i) (e : g i = g (i - 1)) : hp_dif g (i + 1) = hp_dif g i := by
  show hp_dif g i + (if i = 0 ∨ ¬ g i = g (i - 1) then 1 else 0) = _
  rw [if_neg (fun q => q.elim (fun z => by omega) (fun z => z e))]
  rfl
theorem hp_dif_ne {g : Nat → Int64} {i : Nat} (h : i = 0 ∨ ¬ g i = g (i - 1)) : hp_dif g (i + 1) = hp_dif g i + 1 := by
  show hp_dif g i + (if i = 0 ∨ ¬ g i = g (i - 1) then 1 else 0) = _
  rw [if_pos h]

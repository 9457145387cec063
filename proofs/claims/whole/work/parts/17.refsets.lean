/-! pure: the reference's rows of hits -/
theorem va_up_id {α : Type} (f : Nat → α) (k : Nat) : va_up f k (f k) = f := by
  funext j
  unfold va_up
  split
  · next h => rw [h]
  · rfl
theorem up_up {α : Type} (f : Nat → α) (k : Nat) (v w : α) : va_up (va_up f k v) k w = va_up f k w := by
  funext j
  unfold va_up
  split <;> rfl
def shf (g : Nat → Nat) (i E : Nat) : Nat → Nat := fun j => if i < j ∧ j ≤ E then g (j - 1) else g j
theorem shf_0 (g : Nat → Nat) (E : Nat) : shf g E E = g := by
  funext j
  unfold shf
  rw [if_neg (by omega)]
theorem shf_step {g : Nat → Nat} {i E : Nat} (h : 0 < i) (hE : i ≤ E) : va_up (shf g i E) i (shf g i E (i - 1)) = shf g (i - 1) E := by
  funext j
  unfold va_up shf
  by_cases q : j = i
  · subst q; rw [if_pos rfl, if_neg (by omega), if_pos (by omega)]
  · rw [if_neg q]
    by_cases w : i < j ∧ j ≤ E
    · rw [if_pos w, if_pos (by omega)]
    · rw [if_neg w, if_neg (by omega)]
theorem shf_ins {g : Nat → Nat} {k E x : Nat} (h : k ≤ E) : va_up (shf g k E) k x = insN g k E x := by
  funext j
  unfold va_up shf insN
  by_cases q : j = k
  · subst q; rw [if_pos rfl, if_neg (Nat.lt_irrefl _), if_pos rfl]
  · rw [if_neg q, if_neg (c := j = k) q]
    by_cases w : j < k
    · rw [if_pos w, if_neg (by omega)]
    · rw [if_neg w]
      by_cases v : j ≤ E
      · rw [if_pos v, if_pos (by omega)]
      · rw [if_neg v, if_neg (by omega)]
/-- a number set into a rising row at its place -/
theorem ins_ok {rh : Nat → Nat} {B z k x : Nat} (hin : st_inc z (fun i => rh (B + i))) (h1 : B ≤ k) (h2 : k ≤ B + z) (hgt : ∀ i, k ≤ i → i < B + z → x < rh i) (hlt : B < k → rh (k - 1) < x) :
    st_inc (z + 1) (fun i => insN rh k (B + z) x (B + i)) ∧ ∀ v, st_mem (z + 1) (fun i => insN rh k (B + z) x (B + i)) v ↔ st_mem z (fun i => rh (B + i)) v ∨ v = x := by
  have at_ : ∀ i, i ≤ z → insN rh k (B + z) x (B + i) = if B + i < k then rh (B + i) else if B + i = k then x else rh (B + i - 1) := by
    intro i hi
    unfold insN
    split
    · rfl
    · split
      · rfl
      · rw [if_pos (by omega)]
  have hlow : ∀ i, B + i < k → rh (B + i) < x := by
    intro i hi
    have h0 := hlt (by omega)
    rcases Nat.lt_or_ge (B + i) (k - 1) with q | q
    · have := hin i (k - 1 - B) (by omega) (by omega)
      have e : B + (k - 1 - B) = k - 1 := by omega
      simp only [e] at this
      omega
    · have e : B + i = k - 1 := by omega
      rw [e]; exact h0
  refine ⟨fun i j hij hj => ?_, fun v => ⟨fun q => ?_, fun q => ?_⟩⟩
  · show insN rh k (B + z) x (B + i) < insN rh k (B + z) x (B + j)
    rw [at_ i (by omega), at_ j (by omega)]
    split
    · next a =>
      split
      · next b => exact hin i j hij (by omega)
      · split
        · exact hlow i a
        · next b c =>
          have := hlow i a
          have := hgt (B + j - 1) (by omega) (by omega)
          omega
    · split
      · next a b =>
        rw [if_neg (by omega), if_neg (by omega)]
        exact hgt (B + j - 1) (by omega) (by omega)
      · next a b =>
        rw [if_neg (by omega), if_neg (by omega)]
        have := hin (i - 1) (j - 1) (by omega) (by omega)
        have e1 : B + (i - 1) = B + i - 1 := by omega
        have e2 : B + (j - 1) = B + j - 1 := by omega
        simp only [e1, e2] at this
        exact this
  · obtain ⟨i, hi, e⟩ := q
    have e : insN rh k (B + z) x (B + i) = v := e
    rw [at_ i (by omega)] at e
    by_cases a : B + i < k
    · rw [if_pos a] at e; exact Or.inl ⟨i, by omega, e⟩
    · rw [if_neg a] at e
      by_cases b : B + i = k
      · rw [if_pos b] at e; exact Or.inr e.symm
      · rw [if_neg b] at e
        refine Or.inl ⟨i - 1, by omega, ?_⟩
        have e1 : B + (i - 1) = B + i - 1 := by omega
        show rh (B + (i - 1)) = v
        rw [e1]; exact e
  · rcases q with ⟨i, hi, e⟩ | q
    · have e : rh (B + i) = v := e
      by_cases a : B + i < k
      · refine ⟨i, by omega, ?_⟩
        show insN rh k (B + z) x (B + i) = v
        rw [at_ i (by omega), if_pos a]; exact e
      · refine ⟨i + 1, by omega, ?_⟩
        show insN rh k (B + z) x (B + (i + 1)) = v
        rw [at_ (i + 1) (by omega), if_neg (by omega), if_neg (by omega)]
        have e1 : B + (i + 1) - 1 = B + i := by omega
        rw [e1]; exact e
    · refine ⟨k - B, by omega, ?_⟩
      show insN rh k (B + z) x (B + (k - B)) = v
      rw [at_ (k - B) (by omega), if_neg (by omega), if_pos (by omega)]; exact q.symm
theorem insN_out {rh : Nat → Nat} {k E x j : Nat} (h : j < k ∨ E < j) (hk : k ≤ E) : insN rh k E x j = rh j := by
  unfold insN
  rcases h with h | h
  · rw [if_pos h]
  · rw [if_neg (by omega), if_neg (by omega), if_neg (by omega)]
def byA (a b : Int32) (k : Nat) : Int32 := (if k < 4 then (a.toUInt32 >>> ((nI (24 - 8 * k)).toUInt32 &&& Int32.toUInt32 31)).toInt32 else (b.toUInt32 >>> ((nI (56 - 8 * k)).toUInt32 &&& Int32.toUInt32 31)).toInt32) &&& nI 255
def rbit (fs : Int32) (x : Nat) : Prop := (fs >>> (nI (x / 4096) &&& 31)) &&& nI 1 = nI 1
/-- what a set of the reference is while it is filled -/
def rf_fill (rh0 rh : Nat → Nat) (q z : Nat) (M : Nat → Prop) : Prop := st_inc z (rw_ rh q) ∧ (∀ v, st_mem z (rw_ rh q) v ↔ M v) ∧ ∀ j, (j < 520 * q ∨ 520 * q + 520 ≤ j) → rh j = rh0 j
theorem rf_fill_0 {rh : Nat → Nat} {q : Nat} {M : Nat → Prop} (h : ∀ v, ¬ M v) : rf_fill rh rh q 0 M :=
  ⟨fun _ _ _ h => absurd h (Nat.not_lt_zero _), fun v => ⟨fun w => absurd w.choose_spec.1 (Nat.not_lt_zero _), fun w => absurd w (h v)⟩, fun _ _ => rfl⟩
theorem rf_fill_put {rh0 rh rh' : Nat → Nat} {q z z' x : Nat} {M M' : Nat → Prop} (h : rf_fill rh0 rh q z M) (h1 : st_inc z' (rw_ rh' q)) (h2 : ∀ v, st_mem z' (rw_ rh' q) v ↔ st_mem z (rw_ rh q) v ∨ v = x) (h3 : ∀ j, (j < 520 * q ∨ 520 * q + 520 ≤ j) → rh' j = rh j) (hM : ∀ v, M' v ↔ M v ∨ v = x) : rf_fill rh0 rh' q z' M' :=
  ⟨h1, fun v => by rw [h2, h.2.1, hM], fun j hj => (h3 j hj).trans (h.2.2 j hj)⟩
theorem rf_fill_congr {rh0 rh : Nat → Nat} {q z : Nat} {M M' : Nat → Prop} (h : rf_fill rh0 rh q z M) (hM : ∀ v, M' v ↔ M v) : rf_fill rh0 rh q z M' := ⟨h.1, fun v => by rw [h.2.1, hM], h.2.2⟩
theorem sel_n {S : Nat → Prop} {f : Nat → Nat} {k : Nat} (h : ¬ S k) : ∀ v, (∃ i, i < k + 1 ∧ S i ∧ f i = v) ↔ ∃ i, i < k ∧ S i ∧ f i = v := fun v =>
  ⟨fun ⟨i, a, b, d⟩ => by
    rcases Nat.lt_or_ge i k with q | q
    · exact ⟨i, q, b, d⟩
    · have e : i = k := by omega
      subst e; exact absurd b h, fun ⟨i, a, b⟩ => ⟨i, by omega, b⟩⟩
theorem sel_y {S : Nat → Prop} {f : Nat → Nat} {k : Nat} (h : S k) : ∀ v, (∃ i, i < k + 1 ∧ S i ∧ f i = v) ↔ (∃ i, i < k ∧ S i ∧ f i = v) ∨ v = f k := fun v =>
  ⟨fun ⟨i, a, b, d⟩ => by
    rcases Nat.lt_or_ge i k with q | q
    · exact Or.inl ⟨i, q, b, d⟩
    · have e : i = k := by omega
      subst e; exact Or.inr d.symm, fun q => q.elim (fun ⟨i, a, b⟩ => ⟨i, by omega, b⟩) (fun q => ⟨k, by omega, h, q.symm⟩)⟩
theorem sel_bd {S : Nat → Prop} {rd rs tkn : Nat → Nat} {hd k : Nat} {g : Nat → Nat} {z : Nat} (hm : ∀ v, st_mem z g v ↔ ∃ i, i < k ∧ S i ∧ 16384 * rd i + rs i = v) (hrd : ∀ i, i < hd → rd i < 600 ∧ tkn (rd i) ≤ 1) (hrs : ∀ i, i < hd → rs i < 16384) (hk : k ≤ hd) {v : Nat} (h : st_mem z g v) : v < 2 ^ 24 := by
  obtain ⟨i, a, b, d⟩ := (hm v).mp h
  have := hrd i (by omega)
  have := hrs i (by omega)
  omega
theorem zn_add {h : Nat} {e : Int} (hp : 0 ≤ (h : Int) + e) : nI h + zI e = nI ((h : Int) + e).toNat := by
  rw [zadd_nz, nI_zI]
  congr 1
  omega
theorem mem_same {rh gg sz : Nat → Nat} {q zz : Nat} (h : ∀ j, (j < 520 * 8 ∨ 520 * 8 + 520 ≤ j) → gg j = rh j) (hq : q < 8) (hz : sz q ≤ 520) {x : Nat} : st_mem ((va_up sz 8 zz) q) (rw_ gg q) x ↔ st_mem (sz q) (rw_ rh q) x := by
  rw [va_up_ne sz _ (show q ≠ 8 by omega)]
  constructor
  · rintro ⟨i, a, b⟩
    exact ⟨i, a, by show rh (520 * q + i) = x; rw [← h _ (by omega)]; exact b⟩
  · rintro ⟨i, a, b⟩
    exact ⟨i, a, by show gg (520 * q + i) = x; rw [h _ (by omega)]; exact b⟩
theorem placed {rh gg rh' : Nat → Nat} {q zz : Nat} {M : Nat → Prop} (h : rf_fill rh gg 8 zz M) (hq : q < 8) (hcp : ∀ k, k < zz → rh' (520 * q + k) = gg (4160 + k)) (hot : ∀ j, (j < 520 * q ∨ 520 * q + 520 ≤ j) → rh' j = gg j) :
    st_inc zz (rw_ rh' q) ∧ (∀ v, st_mem zz (rw_ rh' q) v ↔ M v) ∧ ∀ j, j < 4160 → (j < 520 * q ∨ 520 * q + 520 ≤ j) → rh' j = rh j := by
  obtain ⟨h1, h2, h3⟩ := h
  refine ⟨fun i j hij hj => ?_, fun v => ?_, fun j hj hj2 => ?_⟩
  · show rh' (520 * q + i) < rh' (520 * q + j)
    rw [hcp i (by omega), hcp j hj]
    exact h1 i j hij hj
  · rw [← h2]
    constructor
    · rintro ⟨i, a, b⟩
      exact ⟨i, a, by show gg (520 * 8 + i) = v; rw [← hcp i a]; exact b⟩
    · rintro ⟨i, a, b⟩
      exact ⟨i, a, by show rh' (520 * q + i) = v; rw [hcp i a]; exact b⟩
  · rw [hot j hj2]
    exact h3 j (by omega)

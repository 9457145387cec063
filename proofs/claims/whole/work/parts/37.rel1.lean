/-! pure: what class and reference have in common: counting -/
theorem cnP_pos_iff {P : Nat → Prop} {n : Nat} : 0 < cnP P n ↔ ∃ i, i < n ∧ P i := by
  constructor
  · intro h
    induction n with
    | zero => exact absurd h (Nat.lt_irrefl _)
    | succ n ih =>
      by_cases q : P n
      · exact ⟨n, Nat.lt_succ_self n, q⟩
      · rw [cnP_n q] at h
        obtain ⟨i, a, b⟩ := ih h
        exact ⟨i, Nat.lt_succ_of_lt a, b⟩
  · rintro ⟨i, a, b⟩
    exact cnP_pos a b
theorem cnP_0_iff {P : Nat → Prop} {n : Nat} : cnP P n = 0 ↔ ∀ i, i < n → ¬ P i := by
  constructor
  · intro h i hi hp
    have := cnP_pos hi hp
    omega
  · exact cnP_zero
theorem cnz_cnP (w : Nat → Int) (x : Int) : ∀ n, cnz w x n = cnP (fun d => w d = x) n
  | 0 => rfl
  | n + 1 => by
    by_cases q : w n = x
    · rw [cnz_y q, cnP_y (P := fun d => w d = x) q, cnz_cnP]
    · rw [cnz_n q, cnP_n (P := fun d => w d = x) q, cnz_cnP]
theorem insN_lt {α : Type} {g : Nat → α} {p T k : Nat} {x : α} (h : k < p) : insN g p T x k = g k := if_pos h
theorem insN_at {α : Type} {g : Nat → α} {p T : Nat} {x : α} : insN g p T x p = x := by
  unfold insN
  rw [if_neg (Nat.lt_irrefl _), if_pos rfl]
theorem insN_gt {α : Type} {g : Nat → α} {p T k : Nat} {x : α} (h : p < k) (hk : k ≤ T) : insN g p T x k = g (k - 1) := by
  unfold insN
  rw [if_neg (by omega), if_neg (by omega), if_pos hk]
theorem cnP_ins {ch : Nat → Nat} {ct : Nat → Int64} {P : Nat → Int64 → Prop} {pp T x : Nat} {y : Int64} (h : pp ≤ T) : cnP (fun i => P (insN ch pp T x i) (insN ct pp T y i)) (T + 1) = cnP (fun i => P (ch i) (ct i)) T + bN (P x y) := by
  have key : ∀ m, pp + m ≤ T → cnP (fun i => P (insN ch pp T x i) (insN ct pp T y i)) (pp + m + 1) = cnP (fun i => P (ch i) (ct i)) (pp + m) + bN (P x y) := by
    intro m
    induction m with
    | zero =>
      intro _
      show cnP (fun i => P (insN ch pp T x i) (insN ct pp T y i)) pp + bN (P (insN ch pp T x pp) (insN ct pp T y pp)) = _
      rw [insN_at, insN_at]
      rw [cnP_congr (Q := fun i => P (ch i) (ct i)) (fun i hi => by rw [insN_lt hi, insN_lt hi])]
      rfl
    | succ m ih =>
      intro hm
      show cnP (fun i => P (insN ch pp T x i) (insN ct pp T y i)) (pp + m + 1) + bN (P (insN ch pp T x (pp + m + 1)) (insN ct pp T y (pp + m + 1))) = cnP (fun i => P (ch i) (ct i)) (pp + m) + bN (P (ch (pp + m)) (ct (pp + m))) + _
      rw [ih (by omega), insN_gt (by omega) (by omega), insN_gt (by omega) (by omega)]
      show _ + bN (P (ch (pp + m + 1 - 1)) (ct (pp + m + 1 - 1))) = _
      rw [Nat.add_sub_cancel]
      omega
  obtain ⟨m, rfl⟩ := Nat.le.dest h
  exact key m (Nat.le_refl _)
/-- the same tokens, in whatever order -/
def tq (ch : Nat → Nat) (ct : Nat → Int64) (rd rs : Nat → Nat) (ru rl : Nat → Int32) (n : Nat) : Prop := ∀ P : Nat → Int64 → Prop, cnP (fun i => P (ch i) (ct i)) n = cnP (fun i => P (16384 * rd i + rs i) (tmL (ru i) (rl i))) n
theorem tq_ex {ch : Nat → Nat} {ct : Nat → Int64} {rd rs : Nat → Nat} {ru rl : Nat → Int32} {n : Nat} (h : tq ch ct rd rs ru rl n) (P : Nat → Int64 → Prop) : (∃ i, i < n ∧ P (ch i) (ct i)) ↔ ∃ i, i < n ∧ P (16384 * rd i + rs i) (tmL (ru i) (rl i)) := by
  have := h P
  rw [← cnP_pos_iff (P := fun i => P (ch i) (ct i)), ← cnP_pos_iff (P := fun i => P (16384 * rd i + rs i) (tmL (ru i) (rl i))), this]
theorem tq_new {ch : Nat → Nat} {ct : Nat → Int64} {rd rs : Nat → Nat} {ru rl : Nat → Int32} {T pp x d s : Nat} {a b : Int32} (h : tq ch ct rd rs ru rl T) (hp : pp ≤ T) (hx : x = 16384 * d + s) : tq (insN ch pp T x) (insN ct pp T (tmL a b)) (va_up rd T d) (va_up rs T s) (upd ru T a) (upd rl T b) (T + 1) := by
  intro P
  rw [cnP_ins hp, h P]
  show _ = cnP (fun i => P (16384 * va_up rd T d i + va_up rs T s i) (tmL (upd ru T a i) (upd rl T b i))) T + bN (P (16384 * va_up rd T d T + va_up rs T s T) (tmL (upd ru T a T) (upd rl T b T)))
  have e1 : upd ru T a T = a := if_pos rfl
  have e2 : upd rl T b T = b := if_pos rfl
  rw [va_up_self, va_up_self, e1, e2, ← hx]
  congr 1
  refine cnP_congr fun i hi => ?_
  have e3 : upd ru T a i = ru i := if_neg (by omega)
  have e4 : upd rl T b i = rl i := if_neg (by omega)
  rw [va_up_ne _ _ (by omega), va_up_ne _ _ (by omega), e3, e4]
theorem tq_same {ch ch' : Nat → Nat} {ct ct' : Nat → Int64} {rd rs rd' rs' : Nat → Nat} {ru rl ru' rl' : Nat → Int32} {n : Nat} (h : tq ch ct rd rs ru rl n) (h1 : ∀ i, i < n → ch' i = ch i ∧ ct' i = ct i ∧ rd' i = rd i ∧ rs' i = rs i ∧ ru' i = ru i ∧ rl' i = rl i) : tq ch' ct' rd' rs' ru' rl' n := by
  intro P
  rw [cnP_congr (P := fun i => P (ch' i) (ct' i)) (Q := fun i => P (ch i) (ct i)) (fun i hi => by obtain ⟨a, b, _⟩ := h1 i hi; rw [a, b]), h P]
  exact cnP_congr fun i hi => by
    obtain ⟨_, _, c, d, e, f⟩ := h1 i hi
    rw [c, d, e, f]
/-! how many different ones -/
def ndl : List Int64 → Nat
  | [] => 0
  | a :: l => if a ∈ l then ndl l else ndl l + 1
theorem ndl_perm {l m : List Int64} (h : l.Perm m) : ndl l = ndl m := by
  induction h with
  | nil => rfl
  | @cons a l1 l2 h ih =>
    show (if _ then _ else _) = (if _ then _ else _)
    rw [ih]
    by_cases q : a ∈ l1
    · rw [if_pos q, if_pos (h.mem_iff.mp q)]
    · rw [if_neg q, if_neg (fun w => q (h.mem_iff.mpr w))]
  | swap a b l =>
    show (if b ∈ a :: l then (if a ∈ l then ndl l else ndl l + 1) else (if a ∈ l then ndl l else ndl l + 1) + 1) = (if a ∈ b :: l then (if b ∈ l then ndl l else ndl l + 1) else (if b ∈ l then ndl l else ndl l + 1) + 1)
    by_cases e : a = b
    · subst e
      rfl
    · have e' : ¬ b = a := fun w => e w.symm
      simp only [List.mem_cons, e, e', false_or]
      by_cases q : a ∈ l <;> by_cases r : b ∈ l <;> simp [q, r]
  | trans _ _ i1 i2 => exact i1.trans i2
noncomputable def lsA (f : Nat → Int64) (A : Nat → Prop) : Nat → List Int64
  | 0 => []
  | n + 1 => @ite (List Int64) (A n) (Classical.propDecidable _) (f n :: lsA f A n) (lsA f A n)
theorem lsA_y {f : Nat → Int64} {A : Nat → Prop} {n : Nat} (h : A n) : lsA f A (n + 1) = f n :: lsA f A n := if_pos h
theorem lsA_n {f : Nat → Int64} {A : Nat → Prop} {n : Nat} (h : ¬ A n) : lsA f A (n + 1) = lsA f A n := if_neg h
theorem lsA_mem {f : Nat → Int64} {A : Nat → Prop} {v : Int64} : ∀ {n : Nat}, v ∈ lsA f A n ↔ ∃ j, j < n ∧ A j ∧ f j = v
  | 0 => ⟨fun h => absurd h (List.not_mem_nil), fun ⟨j, h, _⟩ => absurd h (Nat.not_lt_zero _)⟩
  | n + 1 => by
    have ih := lsA_mem (f := f) (A := A) (v := v) (n := n)
    have key : (∃ j, j < n + 1 ∧ A j ∧ f j = v) ↔ (∃ j, j < n ∧ A j ∧ f j = v) ∨ (A n ∧ f n = v) := by
      constructor
      · rintro ⟨j, a, b⟩
        rcases Nat.lt_or_ge j n with q | q
        · exact Or.inl ⟨j, q, b⟩
        · have : j = n := by omega
          subst this
          exact Or.inr b
      · rintro (⟨j, a, b⟩ | b)
        · exact ⟨j, by omega, b⟩
        · exact ⟨n, by omega, b⟩
    rw [key]
    by_cases q : A n
    · rw [lsA_y q, List.mem_cons, ih]
      constructor
      · rintro (h | h)
        · exact Or.inr ⟨q, h.symm⟩
        · exact Or.inl h
      · rintro (h | h)
        · exact Or.inr h
        · exact Or.inl h.2.symm
    · rw [lsA_n q, ih]
      exact ⟨Or.inl, fun h => h.elim id (fun w => absurd w.1 q)⟩
theorem lsA_count {f : Nat → Int64} {A : Nat → Prop} {v : Int64} : ∀ {n : Nat}, (lsA f A n).count v = cnP (fun i => A i ∧ f i = v) n
  | 0 => rfl
  | n + 1 => by
    have ih := lsA_count (f := f) (A := A) (v := v) (n := n)
    by_cases q : A n
    · rw [lsA_y q, List.count_cons, ih]
      by_cases r : f n = v
      · rw [cnP_y (P := fun i => A i ∧ f i = v) ⟨q, r⟩, if_pos (by simp [r])]
      · rw [cnP_n (P := fun i => A i ∧ f i = v) (fun w => r w.2), if_neg (by simp [r])]
        rfl
    · rw [lsA_n q, cnP_n (P := fun i => A i ∧ f i = v) (fun w => q w.1), ih]
theorem ndl_lsA {f : Nat → Int64} {A : Nat → Prop} : ∀ {n : Nat}, ndl (lsA f A n) = cnP (fun k => A k ∧ ∀ j, j < k → ¬ (A j ∧ f j = f k)) n
  | 0 => rfl
  | n + 1 => by
    have ih := ndl_lsA (f := f) (A := A) (n := n)
    by_cases q : A n
    · rw [lsA_y q]
      show (if f n ∈ lsA f A n then ndl (lsA f A n) else ndl (lsA f A n) + 1) = _
      by_cases r : f n ∈ lsA f A n
      · rw [if_pos r, ih]
        obtain ⟨j, a, b⟩ := lsA_mem.mp r
        rw [cnP_n (P := fun k => A k ∧ ∀ j, j < k → ¬ (A j ∧ f j = f k)) (fun w => w.2 j a b)]
      · rw [if_neg r, ih, cnP_y (P := fun k => A k ∧ ∀ j, j < k → ¬ (A j ∧ f j = f k)) ⟨q, fun j a b => r (lsA_mem.mpr ⟨j, a, b⟩)⟩]
    · rw [lsA_n q, cnP_n (P := fun k => A k ∧ ∀ j, j < k → ¬ (A j ∧ f j = f k)) (fun w => q w.1), ih]
theorem hp_cnt_cnP {g : Nat → Int64} {v : Int64} : ∀ {n : Nat}, hp_cnt g v n = cnP (fun i => True ∧ g i = v) n
  | 0 => rfl
  | n + 1 => by
    show hp_cnt g v n + (if g n = v then 1 else 0) = _
    by_cases q : g n = v
    · rw [if_pos q, cnP_y (P := fun i => True ∧ g i = v) ⟨trivial, q⟩, hp_cnt_cnP]
    · rw [if_neg q, cnP_n (P := fun i => True ∧ g i = v) (fun w => q w.2), hp_cnt_cnP]
      rfl
theorem hp_dif_cnP {g : Nat → Int64} : ∀ {n : Nat}, (∀ i j, i ≤ j → j < n → g i ≤ g j) → hp_dif g n = cnP (fun k => True ∧ ∀ j, j < k → ¬ (True ∧ g j = g k)) n
  | 0, _ => rfl
  | n + 1, h => by
    have ih := hp_dif_cnP (g := g) (n := n) (fun i j a b => h i j a (by omega))
    by_cases q : n = 0 ∨ ¬ g n = g (n - 1)
    · rw [hp_dif_ne q, cnP_y (P := fun k => True ∧ ∀ j, j < k → ¬ (True ∧ g j = g k)) ⟨trivial, fun j a b => ?_⟩, ih]
      rcases q with q | q
      · omega
      · apply q
        refine (Int64.le_antisymm ?_ (h (n - 1) n (by omega) (by omega)))
        rw [← b.2]
        exact h j (n - 1) (by omega) (by omega)
    · have q1 : ¬ n = 0 := fun w => q (Or.inl w)
      have q2 : g n = g (n - 1) := Classical.byContradiction fun w => q (Or.inr w)
      rw [hp_dif_eq (by omega) q2, cnP_n (P := fun k => True ∧ ∀ j, j < k → ¬ (True ∧ g j = g k)) (fun w => w.2 (n - 1) (by omega) ⟨trivial, q2.symm⟩), ih]
/-- the number of different terms, counted in whatever order -/
theorem dif_same {g f : Nat → Int64} {A : Nat → Prop} {z n : Nat} (hs : ∀ i j, i ≤ j → j < z → g i ≤ g j) (hc : ∀ v, hp_cnt g v z = cnP (fun i => A i ∧ f i = v) n) : hp_dif g z = cnP (fun k => A k ∧ ∀ j, j < k → ¬ (A j ∧ f j = f k)) n := by
  rw [hp_dif_cnP hs, ← ndl_lsA (f := g) (A := fun _ => True), ← ndl_lsA]
  refine ndl_perm (List.perm_iff_count.mpr fun v => ?_)
  rw [lsA_count, lsA_count, ← hc, hp_cnt_cnP]
/-! pure: terms and their bytes -/
theorem tmL_bv (a b : Int32) : (tmL a b).toBitVec = a.toBitVec ++ b.toBitVec := by
  have e1 : ((nI 32).toInt64 &&& 63) = 32 := by decide
  unfold tmL
  rw [e1]
  apply BitVec.eq_of_getLsbD_eq
  intro i hi
  have e2 : (32 : Int64).toBitVec.smod 64 = 32#64 := by decide
  simp only [Int64.toBitVec_or, Int64.toBitVec_shiftLeft, Int64.toBitVec_and, Int32.toBitVec_toInt64, BitVec.getLsbD_or, BitVec.getLsbD_and, BitVec.getLsbD_append, e2]
  have e3 : (4294967295 : Int64).toBitVec.getLsbD i = decide (i < 32) := by
    have : ∀ i : Fin 64, (4294967295 : Int64).toBitVec.getLsbD i.1 = decide (i.1 < 32) := by decide
    exact this ⟨i, hi⟩
  rw [e3]
  simp [BitVec.getLsbD_signExtend, hi]
  by_cases q : i < 32
  · simp [q, BitVec.getElem_signExtend]
  · have q2 : i - 32 < 32 := by omega
    simp [q, q2, BitVec.getElem_signExtend, BitVec.getLsbD_eq_getElem]
theorem tmL_inj {a b c d : Int32} (h : tmL a b = tmL c d) : a = c ∧ b = d := by
  have h2 : (tmL a b).toBitVec = (tmL c d).toBitVec := by rw [h]
  rw [tmL_bv, tmL_bv] at h2
  constructor
  · apply Int32.toBitVec_inj.1
    apply BitVec.eq_of_getLsbD_eq
    intro i hi
    have := congrArg (fun v => v.getLsbD (i + 32)) h2
    simp only [BitVec.getLsbD_append] at this
    have q : ¬ i + 32 < 32 := by omega
    simpa [q] using this
  · apply Int32.toBitVec_inj.1
    apply BitVec.eq_of_getLsbD_eq
    intro i hi
    have := congrArg (fun v => v.getLsbD i) h2
    simp only [BitVec.getLsbD_append] at this
    simpa [hi] using this

theorem shr_bit (x : Int32) {n j : Nat} (hn : n = 0 ∨ n = 8 ∨ n = 16 ∨ n = 24) : (x.toUInt32 >>> ((nI n).toUInt32 &&& Int32.toUInt32 31)).toInt32.toBitVec.getLsbD j = x.toBitVec.getLsbD (n + j) := by
  show (x.toUInt32 >>> ((nI n).toUInt32 &&& Int32.toUInt32 31)).toBitVec.getLsbD j = _
  rw [UInt32.toBitVec_shiftRight]
  have e : ((nI n).toUInt32 &&& Int32.toUInt32 31).toBitVec % 32 = BitVec.ofNat 32 n := by
    rcases hn with rfl | rfl | rfl | rfl <;> decide
  rw [e, BitVec.ushiftRight_eq', BitVec.getLsbD_ushiftRight]
  have e2 : (BitVec.ofNat 32 n).toNat = n := by
    rcases hn with rfl | rfl | rfl | rfl <;> decide
  rw [e2]
  rfl
theorem byA_bit (a b : Int32) {k j : Nat} (hk : k < 8) (hj : j < 8) : (byA a b k).toBitVec.getLsbD j = (tmL a b).toBitVec.getLsbD (56 - 8 * k + j) := by
  rw [tmL_bv, BitVec.getLsbD_append]
  have e255 : (nI 255).toBitVec.getLsbD j = true := by
    have : ∀ j : Fin 8, (nI 255).toBitVec.getLsbD j.1 = true := by decide
    exact this ⟨j, hj⟩
  unfold byA
  rw [Int32.toBitVec_and, BitVec.getLsbD_and, e255, Bool.and_true]
  by_cases q : k < 4
  · rw [if_pos q, shr_bit a (by omega), if_neg (by omega)]
    congr 1
    omega
  · rw [if_neg q, shr_bit b (by omega), if_pos (by omega)]
theorem byA_hi (a b : Int32) (k : Nat) {j : Nat} (hj : 8 ≤ j) : (byA a b k).toBitVec.getLsbD j = false := by
  unfold byA
  rw [Int32.toBitVec_and, BitVec.getLsbD_and]
  have e : (nI 255).toBitVec.getLsbD j = false := by
    rcases Nat.lt_or_ge j 32 with q | q
    · have : ∀ j : Fin 32, 8 ≤ j.1 → (nI 255).toBitVec.getLsbD j.1 = false := by decide
      exact this ⟨j, q⟩ hj
    · exact BitVec.getLsbD_of_ge _ _ q
  rw [e, Bool.and_false]
theorem mkL_bit {n i : Nat} (hn : n ≤ 8) (hi : i < 64) : (mkL n).toBitVec.getLsbD i = decide (64 - 8 * n ≤ i) := by
  have : ∀ (n : Fin 9) (i : Fin 64), (mkL n.1).toBitVec.getLsbD i.1 = decide (64 - 8 * n.1 ≤ i.1) := by decide +kernel
  exact this ⟨n, by omega⟩ ⟨i, hi⟩
/-- the first n bytes are alike -/
theorem bytes_iff {u v a b : Int32} {n : Nat} (hn : n ≤ 8) : tmL u v &&& mkL n = tmL a b &&& mkL n ↔ ∀ k, k < n → byA u v k = byA a b k := by
  constructor
  · intro h k hk
    apply Int32.toBitVec_inj.1
    apply BitVec.eq_of_getLsbD_eq
    intro j hj
    rcases Nat.lt_or_ge j 8 with q | q
    · rw [byA_bit u v (by omega) q, byA_bit a b (by omega) q]
      have := congrArg (fun x => x.toBitVec.getLsbD (56 - 8 * k + j)) h
      simp only [Int64.toBitVec_and, BitVec.getLsbD_and] at this
      rw [mkL_bit hn (by omega), decide_eq_true (by omega), Bool.and_true, Bool.and_true] at this
      exact this
    · rw [byA_hi _ _ _ q, byA_hi _ _ _ q]
  · intro h
    apply Int64.toBitVec_inj.1
    apply BitVec.eq_of_getLsbD_eq
    intro i hi
    rw [Int64.toBitVec_and, Int64.toBitVec_and, BitVec.getLsbD_and, BitVec.getLsbD_and, mkL_bit hn hi]
    by_cases q : 64 - 8 * n ≤ i
    · rw [decide_eq_true q, Bool.and_true, Bool.and_true]
      have hk : (63 - i) / 8 < n := by omega
      have := congrArg (fun x => x.toBitVec.getLsbD (i % 8)) (h ((63 - i) / 8) hk)
      rw [byA_bit u v (by omega) (by omega), byA_bit a b (by omega) (by omega)] at this
      have e : 56 - 8 * ((63 - i) / 8) + i % 8 = i := by omega
      rw [e] at this
      exact this
    · rw [decide_eq_false q, Bool.and_false, Bool.and_false]
theorem and1 (v : Int32) : v &&& nI 1 = 0 ∨ v &&& nI 1 = nI 1 := by
  have hb : ∀ j : Nat, (v &&& nI 1).toBitVec.getLsbD j = (decide (j = 0) && v.toBitVec.getLsbD 0) := by
    intro j
    rw [Int32.toBitVec_and, BitVec.getLsbD_and]
    rcases Nat.lt_or_ge j 32 with q | q
    · have e : (nI 1).toBitVec.getLsbD j = decide (j = 0) := by
        have : ∀ j : Fin 32, (nI 1).toBitVec.getLsbD j.1 = decide (j.1 = 0) := by decide
        exact this ⟨j, q⟩
      rw [e]
      by_cases z : j = 0
      · subst z; simp
      · simp [z]
    · rw [BitVec.getLsbD_of_ge _ _ q]
      simp
      omega
  by_cases q : v.toBitVec.getLsbD 0 = true
  · right
    apply Int32.toBitVec_inj.1
    apply BitVec.eq_of_getLsbD_eq
    intro j hj
    rw [hb, q, Bool.and_true]
    have : ∀ j : Fin 32, (nI 1).toBitVec.getLsbD j.1 = decide (j.1 = 0) := by decide
    exact (this ⟨j, hj⟩).symm
  · left
    apply Int32.toBitVec_inj.1
    apply BitVec.eq_of_getLsbD_eq
    intro j hj
    rw [hb]
    have q : v.toBitVec.getLsbD 0 = false := by simpa using q
    rw [q, Bool.and_false]
    have : ∀ j : Fin 32, (0 : Int32).toBitVec.getLsbD j.1 = false := by decide
    exact (this ⟨j, hj⟩).symm
theorem bit_iff {fs : Int32} {d x : Nat} (hx : x < 16384) : fbit fs (16384 * d + x) ↔ rbit fs x := by
  unfold fbit rbit
  have e : (16384 * d + x) / 2 ^ 12 % 2 ^ 2 = x / 4096 := by
    have : (16384 * d + x) / 2 ^ 12 = 4 * d + x / 4096 := by omega
    rw [this]
    omega
  rw [e]
  rcases and1 (fs >>> (nI (x / 4096) &&& 31)) with h | h
  · rw [h]
    exact ⟨fun w => absurd rfl w, fun w => absurd w (by decide)⟩
  · rw [h]
    exact ⟨fun _ => rfl, fun _ => by decide⟩
theorem bit_15 {h : Nat} : fbit (nI 15) h := by
  unfold fbit
  have : h / 2 ^ 12 % 2 ^ 2 < 4 := by omega
  generalize h / 2 ^ 12 % 2 ^ 2 = k at this ⊢
  rcases (show k = 0 ∨ k = 1 ∨ k = 2 ∨ k = 3 by omega) with rfl | rfl | rfl | rfl <;> decide
/-! pure: the tokens of class and reference -/
def tkR (ch : Nat → Nat) (ct : Nat → Int64) (st : Nat → Nat) (cm T : Nat) (rd rs : Nat → Nat) (ru rl : Nat → Int32) : Prop :=
  (∀ d, d < cm → st d ≤ st (d + 1)) ∧ st 0 = 0 ∧ st cm ≤ T ∧ (∀ d, d < cm → ∀ i, st d ≤ i → i < st (d + 1) → ch i / 2 ^ 14 = d) ∧ (∀ i, st cm ≤ i → i < T → ch i / 2 ^ 14 = cm) ∧
  (∀ i j, i < j → j < T → ch i < ch j ∨ (ch i = ch j ∧ ct i < ct j)) ∧ (∀ i, i < T → rs i < 16384) ∧ (∀ i, i < st cm → rd i < cm) ∧ (∀ i, st cm ≤ i → i < T → rd i = cm) ∧ tq ch ct rd rs ru rl T ∧ tq ch ct rd rs ru rl (st cm)
theorem st_find {st : Nat → Nat} (h0 : st 0 = 0) : ∀ {cm i : Nat}, i < st cm → ∃ d, d < cm ∧ st d ≤ i ∧ i < st (d + 1)
  | 0, i, h => by omega
  | cm + 1, i, h => by
    rcases Nat.lt_or_ge i (st cm) with q | q
    · obtain ⟨d, a, b⟩ := st_find h0 q
      exact ⟨d, by omega, b⟩
    · exact ⟨cm, by omega, q, h⟩
section TKR
variable {ch : Nat → Nat} {ct : Nat → Int64} {st : Nat → Nat} {cm T : Nat} {rd rs : Nat → Nat} {ru rl : Nat → Int32}
theorem tkR_doc (h : tkR ch ct st cm T rd rs ru rl) {i : Nat} (hi : i < st cm) : ch i / 2 ^ 14 < cm := by
  obtain ⟨h1, h2, h3, h4, h5, h6, h7, h8, h9, h10, h11⟩ := h
  obtain ⟨d, a, b, c⟩ := st_find h2 hi
  rw [h4 d a i b c]
  exact a
theorem tkR_doc2 (h : tkR ch ct st cm T rd rs ru rl) {i : Nat} (hi : i < T) : ch i / 2 ^ 14 ≤ cm := by
  rcases Nat.lt_or_ge i (st cm) with q | q
  · exact Nat.le_of_lt (tkR_doc h q)
  · rw [h.2.2.2.2.1 i q hi]
    exact Nat.le_refl _
theorem tkR_24 (h : tkR ch ct st cm T rd rs ru rl) (hcm : cm ≤ 600) : ∀ i, i < T → ch i < 2 ^ 24 := by
  intro i hi
  have := tkR_doc2 h hi
  omega
theorem tkR_mono (h : tkR ch ct st cm T rd rs ru rl) : ∀ i j, i ≤ j → j < T → ch i ≤ ch j := by
  intro i j hij hj
  rcases Nat.lt_or_ge i j with q | q
  · rcases h.2.2.2.2.2.1 i j q hj with w | w <;> omega
  · have : i = j := by omega
    subst this
    exact Nat.le_refl _
theorem tkR_st (h : tkR ch ct st cm T rd rs ru rl) : ∀ d, d ≤ cm → st d ≤ T := fun d hd => Nat.le_trans (st_mono h.1 hd (Nat.le_refl _)) h.2.2.1
theorem tkR_rd (h : tkR ch ct st cm T rd rs ru rl) : ∀ i, i < T → rd i ≤ cm := by
  intro i hi
  rcases Nat.lt_or_ge i (st cm) with q | q
  · exact Nat.le_of_lt (h.2.2.2.2.2.2.2.1 i q)
  · rw [h.2.2.2.2.2.2.2.2.1 i q hi]
    exact Nat.le_refl _
/-- the token is in hand in the class if it is in the reference -/
theorem tkR_dup (h : tkR ch ct st cm T rd rs ru rl) {fi pl : Nat} {a b : Int32} (hfi : fi ≤ 3) (hpl : pl ≤ 4095) : (∃ i, st cm ≤ i ∧ i < T ∧ ch i = (cm * 2 ^ 2 + fi) * 2 ^ 12 + pl ∧ ct i = tmL a b) ↔ ∃ i, st cm ≤ i ∧ i < T ∧ rs i = 4096 * fi + pl ∧ ru i = a ∧ rl i = b := by
  have key := tq_ex h.2.2.2.2.2.2.2.2.2.1 (fun x t => x = (cm * 2 ^ 2 + fi) * 2 ^ 12 + pl ∧ t = tmL a b)
  constructor
  · rintro ⟨i, _, i2, i3⟩
    obtain ⟨j, j1, j2, j3⟩ := key.mp ⟨i, i2, i3⟩
    have hs := h.2.2.2.2.2.2.1 j j1
    refine ⟨j, ?_, j1, ?_, tmL_inj j3⟩
    · rcases Nat.lt_or_ge j (st cm) with q | q
      · have := h.2.2.2.2.2.2.2.1 j q
        omega
      · exact q
    · have := tkR_rd h j j1
      omega
  · rintro ⟨i, i1, i2, i3, i4, i5⟩
    obtain ⟨j, j1, j2, j3⟩ := key.mpr ⟨i, i2, by rw [h.2.2.2.2.2.2.2.2.1 i i1 i2, i3]; omega, by rw [i4, i5]⟩
    refine ⟨j, ?_, j1, j2, j3⟩
    rcases Nat.lt_or_ge j (st cm) with q | q
    · have := tkR_doc h q
      omega
    · exact q
theorem tkR_new (h : tkR ch ct st cm T rd rs ru rl) {fi pl pp : Nat} {a b : Int32} (hfi : fi ≤ 3) (hpl : pl ≤ 4095) (hno : ¬ ∃ i, st cm ≤ i ∧ i < T ∧ ch i = (cm * 2 ^ 2 + fi) * 2 ^ 12 + pl ∧ ct i = tmL a b)
    (hp1 : st cm ≤ pp) (hp2 : pp ≤ T) (hp3 : ∀ k, pp ≤ k → k < T → ((cm * 2 ^ 2 + fi) * 2 ^ 12 + pl < ch k ∨ (ch k = (cm * 2 ^ 2 + fi) * 2 ^ 12 + pl ∧ tmL a b < ct k))) (hp4 : st cm < pp → ¬ ((cm * 2 ^ 2 + fi) * 2 ^ 12 + pl < ch (pp - 1) ∨ (ch (pp - 1) = (cm * 2 ^ 2 + fi) * 2 ^ 12 + pl ∧ tmL a b < ct (pp - 1)))) :
    tkR (insN ch pp T ((cm * 2 ^ 2 + fi) * 2 ^ 12 + pl)) (insN ct pp T (tmL a b)) st cm (T + 1) (va_up rd T cm) (va_up rs T (4096 * fi + pl)) (upd ru T a) (upd rl T b) := by
  obtain ⟨h1, h2, h3, h4, h5, h6, h7, h8, h9, h10, h11⟩ := id h
  have hdoc : ((cm * 2 ^ 2 + fi) * 2 ^ 12 + pl) / 2 ^ 14 = cm := by omega
  have hlow : ∀ k, k < pp → ch k < (cm * 2 ^ 2 + fi) * 2 ^ 12 + pl ∨ (ch k = (cm * 2 ^ 2 + fi) * 2 ^ 12 + pl ∧ ct k < tmL a b) := by
    have top : st cm < pp → ch (pp - 1) < (cm * 2 ^ 2 + fi) * 2 ^ 12 + pl ∨ (ch (pp - 1) = (cm * 2 ^ 2 + fi) * 2 ^ 12 + pl ∧ ct (pp - 1) < tmL a b) := by
      intro q
      have q1 := hp4 q
      rcases Nat.lt_trichotomy (ch (pp - 1)) ((cm * 2 ^ 2 + fi) * 2 ^ 12 + pl) with w | w | w
      · exact Or.inl w
      · refine Or.inr ⟨w, ?_⟩
        have q2 : ¬ tmL a b < ct (pp - 1) := fun z => q1 (Or.inr ⟨w, z⟩)
        rcases Int64.lt_or_eq_of_le (Int64.not_lt.mp q2) with z | z
        · exact z
        · exact absurd ⟨pp - 1, by omega, by omega, w, z⟩ hno
      · exact absurd (Or.inl w) q1
    intro k hk
    rcases Nat.lt_or_ge k (st cm) with q | q
    · have := tkR_doc h q
      exact Or.inl (by omega)
    · have tp := top (by omega)
      rcases Nat.lt_or_ge k (pp - 1) with w | w
      · rcases h6 k (pp - 1) w (by omega) with z | z
        · rcases tp with y | y
          · exact Or.inl (by omega)
          · exact Or.inl (by omega)
        · rcases tp with y | y
          · exact Or.inl (by omega)
          · exact Or.inr ⟨by omega, Int64.lt_trans z.2 y.2⟩
      · have e : k = pp - 1 := by omega
        rw [e]
        exact tp
  refine ⟨h1, h2, by omega, fun d hd i a1 a2 => ?_, fun i a1 a2 => ?_, fun i j hij hj => ?_, fun i hi => ?_, fun i hi => ?_, fun i a1 a2 => ?_, tq_new h10 hp2 (by omega), tq_same h11 (fun i hi => ?_)⟩
  · have := st_mono h1 (show d + 1 ≤ cm from hd) (Nat.le_refl _)
    rw [insN_lt (by omega)]
    exact h4 d hd i a1 a2
  · rcases Nat.lt_trichotomy i pp with q | q | q
    · rw [insN_lt q]
      exact h5 i a1 (by omega)
    · subst q
      rw [insN_at]
      exact hdoc
    · rw [insN_gt q (by omega)]
      exact h5 (i - 1) (by omega) (by omega)
  · rcases Nat.lt_trichotomy j pp with q | q | q
    · rw [insN_lt q, insN_lt (show i < pp by omega), insN_lt q, insN_lt (show i < pp by omega)]
      exact h6 i j hij (by omega)
    · subst q
      rw [insN_at, insN_at, insN_lt hij, insN_lt hij]
      exact hlow i hij
    · rw [insN_gt q (by omega), insN_gt q (by omega)]
      rcases Nat.lt_trichotomy i pp with w | w | w
      · rw [insN_lt w, insN_lt w]
        exact h6 i (j - 1) (by omega) (by omega)
      · subst w
        rw [insN_at, insN_at]
        rcases hp3 (j - 1) (by omega) (by omega) with z | z
        · exact Or.inl z
        · exact Or.inr ⟨z.1.symm, z.2⟩
      · rw [insN_gt w (by omega), insN_gt w (by omega)]
        exact h6 (i - 1) (j - 1) (by omega) (by omega)
  · unfold va_up
    split
    · omega
    · exact h7 i (by omega)
  · rw [va_up_ne _ _ (by omega)]
    exact h8 i hi
  · unfold va_up
    split
    · rfl
    · exact h9 i a1 (by omega)
  · refine ⟨insN_lt (by omega), insN_lt (by omega), va_up_ne _ _ (by omega), va_up_ne _ _ (by omega), if_neg (by omega), if_neg (by omega)⟩
theorem tkR_add (h : tkR ch ct st cm T rd rs ru rl) : tkR ch ct (va_up st (cm + 1) T) (cm + 1) T rd rs ru rl := by
  obtain ⟨h1, h2, h3, h4, h5, h6, h7, h8, h9, h10, h11⟩ := id h
  have e : va_up st (cm + 1) T (cm + 1) = T := va_up_self _ _ _
  refine ⟨fun d hd => ?_, ?_, by rw [e]; exact Nat.le_refl _, fun d hd i a1 a2 => ?_, fun i a1 a2 => ?_, h6, h7, fun i hi => ?_, fun i a1 a2 => ?_, h10, by rw [e]; exact h10⟩
  · rw [va_up_ne st _ (show d ≠ cm + 1 by omega)]
    rcases Nat.lt_or_ge d cm with q | q
    · rw [va_up_ne st _ (show d + 1 ≠ cm + 1 by omega)]
      exact h1 d q
    · have : d = cm := by omega
      subst this
      rw [e]
      exact h3
  · rw [va_up_ne st _ (by omega)]
    exact h2
  · rw [va_up_ne st _ (show d ≠ cm + 1 by omega)] at a1
    rcases Nat.lt_or_ge d cm with q | q
    · rw [va_up_ne st _ (show d + 1 ≠ cm + 1 by omega)] at a2
      exact h4 d q i a1 a2
    · have : d = cm := by omega
      subst this
      rw [e] at a2
      exact h5 i a1 a2
  · rw [e] at a1
    omega
  · rw [e] at hi
    have := tkR_rd h i hi
    omega
  · rw [e] at a1
    omega
/-- the tokens of documents that are there, with the first n bytes and a field, in class and reference -/
theorem tkR_sel (h : tkR ch ct st cm T rd rs ru rl) {sa tkn : Nat → Nat} (hts : ∀ d, d < cm → (tkn d = 0 ↔ sa d ≤ 1)) {n : Nat} (hn : n ≤ 8) {a b fs : Int32} (v : Nat) :
    (∃ i, i < st cm ∧ (sa (ch i / 2 ^ 14) ≤ 1 ∧ ct i &&& mkL n = tmL a b &&& mkL n ∧ fbit fs (ch i)) ∧ ch i = v) ↔ ∃ i, i < st cm ∧ (tkn (rd i) = 0 ∧ rbit fs (rs i) ∧ ∀ k, k < n → byA (ru i) (rl i) k = byA a b k) ∧ 16384 * rd i + rs i = v := by
  have key := tq_ex h.2.2.2.2.2.2.2.2.2.2 (fun x t => (sa (x / 2 ^ 14) ≤ 1 ∧ t &&& mkL n = tmL a b &&& mkL n ∧ fbit fs x) ∧ x = v)
  refine key.trans ?_
  have conv : ∀ i, i < st cm → (((sa ((16384 * rd i + rs i) / 2 ^ 14) ≤ 1 ∧ tmL (ru i) (rl i) &&& mkL n = tmL a b &&& mkL n ∧ fbit fs (16384 * rd i + rs i)) ∧ 16384 * rd i + rs i = v) ↔ ((tkn (rd i) = 0 ∧ rbit fs (rs i) ∧ ∀ k, k < n → byA (ru i) (rl i) k = byA a b k) ∧ 16384 * rd i + rs i = v)) := by
    intro i hi
    have hs := h.2.2.2.2.2.2.1 i (Nat.lt_of_lt_of_le hi h.2.2.1)
    have hr := h.2.2.2.2.2.2.2.1 i hi
    have e : (16384 * rd i + rs i) / 2 ^ 14 = rd i := by omega
    rw [e, bytes_iff hn, bit_iff hs, hts _ hr]
    constructor
    · rintro ⟨⟨x, y, z⟩, w⟩
      exact ⟨⟨x, z, y⟩, w⟩
    · rintro ⟨⟨x, z, y⟩, w⟩
      exact ⟨⟨x, y, z⟩, w⟩
  constructor
  · rintro ⟨i, hi, w⟩
    exact ⟨i, hi, (conv i hi).mp w⟩
  · rintro ⟨i, hi, w⟩
    exact ⟨i, hi, (conv i hi).mpr w⟩
end TKR

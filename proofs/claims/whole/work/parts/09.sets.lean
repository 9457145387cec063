/-! pure: sets of numbers as rising rows; truth as a number; ints of whole numbers -/
noncomputable def bN (b : Prop) : Nat := @ite Nat b (Classical.propDecidable b) 1 0
theorem bN_t {b : Prop} (h : b) : bN b = 1 := if_pos h
theorem bN_f {b : Prop} (h : ¬ b) : bN b = 0 := if_neg h
theorem bN_le (b : Prop) : bN b ≤ 1 := by
  by_cases h : b
  · rw [bN_t h]; exact Nat.le_refl _
  · rw [bN_f h]; exact Nat.zero_le _
theorem bN_31 (b : Prop) : bN b < 2 ^ 31 := Nat.lt_of_le_of_lt (bN_le b) (by decide)
theorem bN_pos {b : Prop} : 0 < bN b ↔ b := by
  by_cases h : b
  · rw [bN_t h]; exact ⟨fun _ => h, fun _ => Nat.one_pos⟩
  · rw [bN_f h]; exact ⟨fun q => absurd q (Nat.lt_irrefl _), fun q => absurd q h⟩
theorem bN_0 {b : Prop} : bN b = 0 ↔ ¬ b := by
  by_cases h : b
  · rw [bN_t h]; exact ⟨fun q => absurd q (by decide), fun q => absurd h q⟩
  · rw [bN_f h]; exact ⟨fun _ => h, fun _ => rfl⟩
theorem bN_congr {a b : Prop} (h : a ↔ b) : bN a = bN b := by rw [propext h]
theorem bN_v (b : Prop) : nI (bN b) = 0 ∨ nI (bN b) = 1 := by
  by_cases h : b
  · rw [bN_t h]; exact Or.inr rfl
  · rw [bN_f h]; exact Or.inl rfl
def zI (a : Int) : Int32 := Int32.ofInt a
theorem nI_zI (a : Nat) : nI a = zI (a : Int) := (Int32.ofInt_eq_ofNat (n := a)).symm
theorem zI_add (a b : Int) : zI a + zI b = zI (a + b) := (Int32.ofInt_add a b).symm
theorem zI_int {a : Int} (h1 : -(2 ^ 31) ≤ a) (h2 : a < 2 ^ 31) : (zI a).toInt = a := Int32.toInt_ofInt_of_le h1 h2
theorem zI_le {a b : Int} (h1 : -(2 ^ 31) ≤ a) (h2 : a < 2 ^ 31) (h3 : -(2 ^ 31) ≤ b) (h4 : b < 2 ^ 31) : zI a ≤ zI b ↔ a ≤ b := by
  rw [Int32.le_iff_toInt_le, zI_int h1 h2, zI_int h3 h4]
theorem zI_lt {a b : Int} (h1 : -(2 ^ 31) ≤ a) (h2 : a < 2 ^ 31) (h3 : -(2 ^ 31) ≤ b) (h4 : b < 2 ^ 31) : zI a < zI b ↔ a < b := by
  rw [Int32.lt_iff_toInt_lt, zI_int h1 h2, zI_int h3 h4]
theorem zI_eq {a b : Int} (h1 : -(2 ^ 31) ≤ a) (h2 : a < 2 ^ 31) (h3 : -(2 ^ 31) ≤ b) (h4 : b < 2 ^ 31) : zI a = zI b ↔ a = b := by
  rw [← Int32.toInt_inj, zI_int h1 h2, zI_int h3 h4]
def mxI (x y : Int32) : Int32 := if x < y then y else x
def mnI (x y : Int32) : Int32 := if y < x then y else x
theorem nI_or {q k b : Nat} (hb : b < 2 ^ k) : nI (q * 2 ^ k) ||| nI b = nI (q * 2 ^ k + b) := by
  rw [← Nat.shiftLeft_eq, Nat.shiftLeft_add_eq_or_of_lt hb]
  apply Int32.toBitVec_inj.1
  show BitVec.ofNat 32 _ ||| BitVec.ofNat 32 b = BitVec.ofNat 32 _
  apply BitVec.eq_of_getLsbD_eq
  intro i hi
  simp [hi]
def tmL (a b : Int32) : Int64 := (a.toInt64 <<< ((nI 32).toInt64 &&& 63)) ||| (b.toInt64 &&& 4294967295)
def st_mem (z : Nat) (g : Nat → Nat) (x : Nat) : Prop := ∃ k, k < z ∧ g k = x
def st_inc (z : Nat) (g : Nat → Nat) : Prop := ∀ i j, i < j → j < z → g i < g j
theorem st_le {z : Nat} {g : Nat → Nat} (h : st_inc z g) {i j : Nat} (hij : i ≤ j) (hj : j < z) : g i ≤ g j := by
  rcases Nat.lt_or_ge i j with q | q
  · exact Nat.le_of_lt (h i j q hj)
  · have : i = j := by omega
    subst this; exact Nat.le_refl _
theorem st_card : ∀ {z t : Nat} {g T : Nat → Nat}, st_inc z g → (∀ x, st_mem z g x → st_mem t T x) → z ≤ t := by
  intro z t
  induction t generalizing z with
  | zero =>
    intro g T hi hm
    rcases Nat.eq_zero_or_pos z with q | q
    · omega
    · obtain ⟨k, hk, -⟩ := hm (g 0) ⟨0, q, rfl⟩
      omega
  | succ t ih =>
    intro g T hi hm
    by_cases hx : st_mem z g (T t)
    · obtain ⟨k, hk, ek⟩ := hx
      -- drop place k
      have := ih (z := z - 1) (g := fun i => if i < k then g i else g (i + 1)) (T := T) (by
        intro i j hij hj
        show (if i < k then g i else g (i + 1)) < (if j < k then g j else g (j + 1))
        split
        · split
          · exact hi i j hij (by omega)
          · exact hi i (j + 1) (by omega) (by omega)
        · split
          · omega
          · exact hi (i + 1) (j + 1) (by omega) (by omega)) (by
        intro x hx
        obtain ⟨i, hi1, hi2⟩ := hx
        have hi2 : (if i < k then g i else g (i + 1)) = x := hi2
        have hxm : st_mem z g x ∧ x ≠ T t := by
          by_cases q : i < k
          · rw [if_pos q] at hi2
            refine ⟨⟨i, by omega, hi2⟩, ?_⟩
            have := hi i k q hk
            omega
          · rw [if_neg q] at hi2
            refine ⟨⟨i + 1, by omega, hi2⟩, ?_⟩
            have := hi k (i + 1) (by omega) (by omega)
            omega
        obtain ⟨w, hw, ew⟩ := hm x hxm.1
        refine ⟨w, ?_, ew⟩
        rcases Nat.lt_or_ge w t with q | q
        · exact q
        · have : w = t := by omega
          subst this
          exact absurd ew.symm hxm.2)
      omega
    · have := ih (z := z) (g := g) (T := T) hi (by
        intro x hxm
        obtain ⟨w, hw, ew⟩ := hm x hxm
        refine ⟨w, ?_, ew⟩
        rcases Nat.lt_or_ge w t with q | q
        · exact q
        · have : w = t := by omega
          subst this
          exact absurd (ew ▸ hxm) hx)
      omega
theorem st_uniq {z y : Nat} {g h : Nat → Nat} (h1 : st_inc z g) (h2 : st_inc y h) (hm : ∀ x, st_mem z g x ↔ st_mem y h x) : z = y ∧ ∀ k, k < z → g k = h k := by
  have hz : z = y := Nat.le_antisymm (st_card h1 (fun x hx => (hm x).mp hx)) (st_card h2 (fun x hx => (hm x).mpr hx))
  subst hz
  refine ⟨rfl, ?_⟩
  intro k
  induction k using Nat.strongRecOn with
  | _ k ih =>
    intro hk
    rcases Nat.lt_trichotomy (g k) (h k) with q | q | q
    · obtain ⟨j, hj, ej⟩ := (hm (g k)).mp ⟨k, hk, rfl⟩
      rcases Nat.lt_trichotomy j k with a | a | a
      · have := ih j a (by omega)
        have := h1 j k a hk
        omega
      · subst a; omega
      · have := h2 k j a hj
        omega
    · exact q
    · obtain ⟨j, hj, ej⟩ := (hm (h k)).mpr ⟨k, hk, rfl⟩
      rcases Nat.lt_trichotomy j k with a | a | a
      · have := ih j a (by omega)
        have := h2 j k a hk
        omega
      · subst a; omega
      · have := h1 k j a hj
        omega
/-- one more at the end, if it isn't there -/
noncomputable def pz (z : Nat) (g : Nat → Nat) (x : Nat) : Nat := @ite Nat (0 < z ∧ g (z - 1) = x) (Classical.propDecidable _) z (z + 1)
noncomputable def pg (z : Nat) (g : Nat → Nat) (x : Nat) : Nat → Nat := @ite (Nat → Nat) (0 < z ∧ g (z - 1) = x) (Classical.propDecidable _) g (va_up g z x)
theorem pz_d {z : Nat} {g : Nat → Nat} {x : Nat} (h : 0 < z ∧ g (z - 1) = x) : pz z g x = z := if_pos h
theorem pg_d {z : Nat} {g : Nat → Nat} {x : Nat} (h : 0 < z ∧ g (z - 1) = x) : pg z g x = g := if_pos h
theorem pz_n {z : Nat} {g : Nat → Nat} {x : Nat} (h : ¬ (0 < z ∧ g (z - 1) = x)) : pz z g x = z + 1 := if_neg h
theorem pg_n {z : Nat} {g : Nat → Nat} {x : Nat} (h : ¬ (0 < z ∧ g (z - 1) = x)) : pg z g x = va_up g z x := if_neg h
theorem st_put {z : Nat} {g : Nat → Nat} {x : Nat} (hi : st_inc z g) (hx : ∀ k, k < z → g k ≤ x) : st_inc (pz z g x) (pg z g x) ∧ (∀ y, st_mem (pz z g x) (pg z g x) y ↔ st_mem z g y ∨ y = x) := by
  by_cases h : 0 < z ∧ g (z - 1) = x
  · rw [pz_d h, pg_d h]
    refine ⟨hi, fun y => ⟨Or.inl, fun q => q.elim id (fun q => ⟨z - 1, by omega, by rw [q]; exact h.2⟩)⟩⟩
  · rw [pz_n h, pg_n h]
    have hlt : ∀ k, k < z → g k < x := by
      intro k hk
      rcases Nat.lt_or_ge (g k) x with q | q
      · exact q
      · have e : g k = x := Nat.le_antisymm (hx k hk) q
        rcases Nat.lt_or_ge k (z - 1) with q2 | q2
        · have := hi k (z - 1) q2 (by omega)
          have := hx (z - 1) (by omega)
          omega
        · have : k = z - 1 := by omega
          subst this
          exact absurd ⟨by omega, e⟩ h
    refine ⟨fun i j hij hj => ?_, fun y => ⟨fun q => ?_, fun q => ?_⟩⟩
    · rw [va_up_ne g x (show i ≠ z by omega)]
      by_cases e : j = z
      · subst e; rw [va_up_self]; exact hlt i hij
      · rw [va_up_ne g x e]; exact hi i j hij (by omega)
    · obtain ⟨k, hk, ek⟩ := q
      by_cases e : k = z
      · subst e; rw [va_up_self] at ek; exact Or.inr ek.symm
      · rw [va_up_ne g x e] at ek; exact Or.inl ⟨k, by omega, ek⟩
    · rcases q with ⟨k, hk, ek⟩ | q
      · exact ⟨k, by omega, by rw [va_up_ne g x (show k ≠ z by omega)]; exact ek⟩
      · exact ⟨z, by omega, by rw [va_up_self]; exact q.symm⟩
theorem up_agree {gg go : Nat → Nat} {i : Nat} (hc : ∀ k, k < i → gg k = go k) : ∀ k, k < i + 1 → va_up gg i (go i) k = go k := fun k hk => by
  by_cases q : k = i
  · subst q; rw [va_up_self]
  · rw [va_up_ne gg _ q]; exact hc k (by omega)
/-- two rising rows while they are united: i of one and j of the other are in -/
def st_un (zx : Nat) (gx : Nat → Nat) (zy : Nat) (gy : Nat → Nat) (i j z : Nat) (g : Nat → Nat) : Prop :=
  st_inc z g ∧ (∀ v, st_mem z g v ↔ st_mem i gx v ∨ st_mem j gy v) ∧ (i < zx → ∀ k, k < z → g k ≤ gx i) ∧ (j < zy → ∀ k, k < z → g k ≤ gy j)
theorem st_un_0 {zx zy : Nat} {gx gy g : Nat → Nat} : st_un zx gx zy gy 0 0 0 g :=
  ⟨fun _ _ _ h => absurd h (Nat.not_lt_zero _), fun _ => ⟨fun h => absurd h.choose_spec.1 (Nat.not_lt_zero _), fun h => h.elim (fun q => absurd q.choose_spec.1 (Nat.not_lt_zero _)) (fun q => absurd q.choose_spec.1 (Nat.not_lt_zero _))⟩, fun _ _ h => absurd h (Nat.not_lt_zero _), fun _ _ h => absurd h (Nat.not_lt_zero _)⟩
theorem st_mem_up {z i : Nat} {g : Nat → Nat} {v : Nat} (hi : i ≤ z) (h : st_mem i g v) : st_mem z g v := by
  obtain ⟨k, hk, e⟩ := h
  exact ⟨k, by omega, e⟩
theorem st_mem_succ {i : Nat} {g : Nat → Nat} {v : Nat} : st_mem (i + 1) g v ↔ st_mem i g v ∨ v = g i := by
  constructor
  · intro h
    obtain ⟨k, hk, e⟩ := h
    rcases Nat.lt_or_ge k i with q | q
    · exact Or.inl ⟨k, q, e⟩
    · have : k = i := by omega
      subst this; exact Or.inr e.symm
  · intro h
    rcases h with ⟨k, hk, e⟩ | h
    · exact ⟨k, by omega, e⟩
    · exact ⟨i, by omega, h.symm⟩
theorem st_un_card {zx zy i j z t : Nat} {gx gy g T : Nat → Nat} (h : st_un zx gx zy gy i j z g) (hi : i ≤ zx) (hj : j ≤ zy) (hT : ∀ v, (st_mem zx gx v ∨ st_mem zy gy v) → st_mem t T v) : z ≤ t :=
  st_card h.1 (fun v hv => hT v (((h.2.1 v).mp hv).elim (fun q => Or.inl (st_mem_up hi q)) (fun q => Or.inr (st_mem_up hj q))))
theorem st_un_lt {zx zy i j z : Nat} {gx gy g : Nat → Nat} (h : st_un zx gx zy gy i j z g) (hi : i ≤ zx) (hj : j ≤ zy) (hgx : ∀ k, k < zx → gx k < 2 ^ 31) (hgy : ∀ k, k < zy → gy k < 2 ^ 31) : ∀ k, k < z → g k < 2 ^ 31 := by
  intro k hk
  rcases (h.2.1 (g k)).mp ⟨k, hk, rfl⟩ with ⟨w, h1, h2⟩ | ⟨w, h1, h2⟩
  · rw [← h2]; exact hgx w (by omega)
  · rw [← h2]; exact hgy w (by omega)
theorem st_un_x {zx zy i j z : Nat} {gx gy g : Nat → Nat} (hix : st_inc zx gx) (hiy : st_inc zy gy) (h : st_un zx gx zy gy i j z g) (hi : i < zx) (hj : j ≤ zy) (hle : j < zy → gx i ≤ gy j) : st_un zx gx zy gy (i + 1) j (pz z g (gx i)) (pg z g (gx i)) := by
  obtain ⟨h1, h2, h3, h4⟩ := h
  obtain ⟨p1, p2⟩ := st_put h1 (h3 hi)
  refine ⟨p1, fun v => ?_, fun q k hk => ?_, fun q k hk => ?_⟩
  · rw [p2, h2, st_mem_succ]
    constructor
    · rintro ((a | a) | a)
      · exact Or.inl (Or.inl a)
      · exact Or.inr a
      · exact Or.inl (Or.inr a)
    · rintro ((a | a) | a)
      · exact Or.inl (Or.inl a)
      · exact Or.inr a
      · exact Or.inl (Or.inr a)
  · rcases (p2 _).mp ⟨k, hk, rfl⟩ with ⟨w, w1, w2⟩ | e
    · have := h3 hi w w1
      have := hix i (i + 1) (by omega) q
      omega
    · have := hix i (i + 1) (by omega) q
      omega
  · rcases (p2 _).mp ⟨k, hk, rfl⟩ with ⟨w, w1, w2⟩ | e
    · have := h4 q w w1
      omega
    · have := hle q
      omega
theorem st_un_y {zx zy i j z : Nat} {gx gy g : Nat → Nat} (hix : st_inc zx gx) (hiy : st_inc zy gy) (h : st_un zx gx zy gy i j z g) (hi : i ≤ zx) (hj : j < zy) (hle : i < zx → gy j ≤ gx i) : st_un zx gx zy gy i (j + 1) (pz z g (gy j)) (pg z g (gy j)) := by
  obtain ⟨h1, h2, h3, h4⟩ := h
  obtain ⟨p1, p2⟩ := st_put h1 (h4 hj)
  refine ⟨p1, fun v => ?_, fun q k hk => ?_, fun q k hk => ?_⟩
  · rw [p2, h2, st_mem_succ, or_assoc]
  · rcases (p2 _).mp ⟨k, hk, rfl⟩ with ⟨w, w1, w2⟩ | e
    · have := h3 q w w1
      omega
    · have := hle q
      omega
  · rcases (p2 _).mp ⟨k, hk, rfl⟩ with ⟨w, w1, w2⟩ | e
    · have := h4 hj w w1
      have := hiy j (j + 1) (by omega) q
      omega
    · have := hiy j (j + 1) (by omega) q
      omega
theorem mx_zI {u : Int} (h1 : -(2 ^ 31) ≤ u) (h2 : u < 2 ^ 31) : (if zI u < nI 0 then nI 0 else zI u) = nI u.toNat := by
  rw [nI_zI 0]
  show (if zI u < zI 0 then zI 0 else zI u) = nI u.toNat
  by_cases q : u < 0
  · rw [if_pos ((zI_lt h1 h2 (by decide) (by decide)).mpr q), nI_zI]
    congr 1
    omega
  · rw [if_neg (fun w => q ((zI_lt h1 h2 (by decide) (by decide)).mp w)), nI_zI]
    congr 1
    omega
theorem mn_zI {u : Int} (h1 : -(2 ^ 31) ≤ u) (h2 : u < 2 ^ 31) : (if nI 4095 < zI u then nI 4095 else zI u) = zI (min u 4095) := by
  rw [nI_zI 4095]
  show (if zI 4095 < zI u then zI 4095 else zI u) = zI (min u 4095)
  by_cases q : 4095 < u
  · rw [if_pos ((zI_lt (by decide) (by decide) h1 h2).mpr q)]
    congr 1
    omega
  · rw [if_neg (fun w => q ((zI_lt (by decide) (by decide) h1 h2).mp w))]
    congr 1
    omega
/-- while a row is sifted: of its first i places those with P stand in front, the rest of it is as it was -/
def st_kp (z : Nat) (g : Nat → Nat) (P : Nat → Prop) (i kk : Nat) (gg : Nat → Nat) : Prop :=
  st_inc kk gg ∧ (∀ v, st_mem kk gg v ↔ st_mem i g v ∧ P v) ∧ (∀ k, i ≤ k → gg k = g k) ∧ kk ≤ i
theorem st_kp_0 {z : Nat} {g : Nat → Nat} {P : Nat → Prop} : st_kp z g P 0 0 g :=
  ⟨fun _ _ _ h => absurd h (Nat.not_lt_zero _), fun _ => ⟨fun h => absurd h.choose_spec.1 (Nat.not_lt_zero _), fun h => absurd h.1.choose_spec.1 (Nat.not_lt_zero _)⟩, fun _ _ => rfl, Nat.le_refl _⟩
theorem st_kp_n {z : Nat} {g : Nat → Nat} {P : Nat → Prop} {i kk : Nat} {gg : Nat → Nat} (h : st_kp z g P i kk gg) (hi : i < z) (hn : ¬ P (g i)) : st_kp z g P (i + 1) kk gg := by
  obtain ⟨h1, h2, h3, h4⟩ := h
  refine ⟨h1, fun v => ?_, fun k hk => h3 k (by omega), by omega⟩
  rw [h2, st_mem_succ]
  constructor
  · exact fun q => ⟨Or.inl q.1, q.2⟩
  · rintro ⟨a | a, b⟩
    · exact ⟨a, b⟩
    · subst a; exact absurd b hn
theorem st_kp_y {z : Nat} {g : Nat → Nat} {P : Nat → Prop} {i kk : Nat} {gg : Nat → Nat} (hin : st_inc z g) (hki : kk ≤ i) (hi : i < z) (h : st_kp z g P i kk gg) (hy : P (g i)) : st_kp z g P (i + 1) (kk + 1) (va_up gg kk (gg i)) := by
  obtain ⟨h1, h2, h3, h4⟩ := h
  have e : gg i = g i := h3 i (Nat.le_refl i)
  rw [e]
  have hlt : ∀ k, k < kk → gg k < g i := by
    intro k hk
    obtain ⟨⟨w, w1, w2⟩, -⟩ := (h2 (gg k)).mp ⟨k, hk, rfl⟩
    have := hin w i w1 hi
    omega
  refine ⟨fun a b hab hb => ?_, fun v => ?_, fun k hk => ?_, by omega⟩
  · rw [va_up_ne gg _ (show a ≠ kk by omega)]
    by_cases q : b = kk
    · subst q; rw [va_up_self]; exact hlt a hab
    · rw [va_up_ne gg _ q]; exact h1 a b hab (by omega)
  · have e2 : st_mem (kk + 1) (va_up gg kk (g i)) v ↔ st_mem kk gg v ∨ v = g i := by
      rw [st_mem_succ, va_up_self]
      constructor
      · rintro (⟨k, k1, k2⟩ | a)
        · rw [va_up_ne gg _ (show k ≠ kk by omega)] at k2; exact Or.inl ⟨k, k1, k2⟩
        · exact Or.inr a
      · rintro (⟨k, k1, k2⟩ | a)
        · exact Or.inl ⟨k, k1, by rw [va_up_ne gg _ (show k ≠ kk by omega)]; exact k2⟩
        · exact Or.inr a
    rw [e2, h2, st_mem_succ]
    constructor
    · rintro (⟨a, b⟩ | a)
      · exact ⟨Or.inl a, b⟩
      · exact ⟨Or.inr a, by rw [a]; exact hy⟩
    · rintro ⟨a | a, b⟩
      · exact Or.inl ⟨a, b⟩
      · exact Or.inr a
  · rw [va_up_ne gg _ (show k ≠ kk by omega)]; exact h3 k (by omega)

/-! pure: the reference's segments -/
def rf4 (lv : Nat → Nat) (sg : Nat) : Prop := 4 ≤ sg ∧ lv (sg - 1) = lv (sg - 2) ∧ lv (sg - 1) = lv (sg - 3) ∧ lv (sg - 1) = lv (sg - 4)
noncomputable def rfn (wh : Nat → Int) (tkn : Nat → Nat) (q bf cm : Nat) : Nat := cnP (fun d => whP wh q bf d ∧ tkn d = 0) cm
abbrev rfS : Type := (Nat → Int) × (Nat → Nat) × Nat
noncomputable def rfM (tkn : Nat → Nat) (cm : Nat) (S : rfS) : rfS :=
  if rfn S.1 tkn (S.2.2 - 4) 0 cm = 0 then (whG S.1 tkn (S.2.2 - 4) 0 cm, S.2.1, S.2.2 - 4) else (whG S.1 tkn (S.2.2 - 4) 0 cm, va_up S.2.1 (S.2.2 - 4) (S.2.1 (S.2.2 - 4) + 1), S.2.2 - 4 + 1)
noncomputable def rfF (tkn : Nat → Nat) (cm : Nat) : Nat → rfS → rfS
  | 0, S => S
  | n + 1, S => @ite rfS (rf4 S.2.1 S.2.2) (Classical.propDecidable _) (rfF tkn cm n (rfM tkn cm S)) S
theorem rfF_y {tkn : Nat → Nat} {cm n : Nat} {S : rfS} (h : rf4 S.2.1 S.2.2) : rfF tkn cm (n + 1) S = rfF tkn cm n (rfM tkn cm S) := if_pos h
theorem rfF_n {tkn : Nat → Nat} {cm : Nat} {S : rfS} (h : ¬ rf4 S.2.1 S.2.2) : ∀ n, rfF tkn cm n S = S
  | 0 => rfl
  | n + 1 => if_neg h
theorem rfM_sg (tkn : Nat → Nat) (cm : Nat) (S : rfS) (h : rf4 S.2.1 S.2.2) : (rfM tkn cm S).2.2 < S.2.2 := by
  have := h.1
  unfold rfM
  split
  · show S.2.2 - 4 < S.2.2; omega
  · show S.2.2 - 4 + 1 < S.2.2; omega
/-- fuel of as many steps as there are segments is enough -/
theorem rfF_fuel {tkn : Nat → Nat} {cm : Nat} : ∀ (n m : Nat) (S : rfS), S.2.2 ≤ n → S.2.2 ≤ m → rfF tkn cm n S = rfF tkn cm m S := by
  intro n
  induction n with
  | zero =>
    intro m S h1 h2
    have : ¬ rf4 S.2.1 S.2.2 := fun q => by have := q.1; omega
    rw [rfF_n this, rfF_n this]
  | succ n ih =>
    intro m S h1 h2
    by_cases q : rf4 S.2.1 S.2.2
    · have hs := rfM_sg tkn cm S q
      have := q.1
      obtain ⟨m', rfl⟩ : ∃ m', m = m' + 1 := ⟨m - 1, by omega⟩
      rw [rfF_y q, rfF_y q]
      exact ih m' _ (by omega) (by omega)
    · rw [rfF_n q, rfF_n q]
noncomputable def rfB (wh : Nat → Int) (lv : Nat → Nat) (sg cm : Nat) : rfS := if 0 < cnz wh (-1) cm then (whB wh sg cm, va_up lv sg 0, sg + 1) else (wh, lv, sg)
def lmax (lv : Nat → Nat) : Nat → Nat
  | 0 => 0
  | n + 1 => if lmax lv n < lv n then lv n else lmax lv n
def whT (wh : Nat → Int) (d : Nat) : Nat → Int := if wh d = -1 then va_up wh d (-2) else wh
theorem whG_bd {wh : Nat → Int} {tkn : Nat → Nat} {q bf n cm : Nat} (hq : q ≤ 1000) (h : ∀ d, d < cm → -2 ≤ wh d ∧ wh d ≤ 1000) : ∀ d, d < cm → -2 ≤ whG wh tkn q bf n d ∧ whG wh tkn q bf n d ≤ 1000 := by
  intro d hd
  by_cases w : d < n ∧ whP wh q bf d
  · rw [show whG wh tkn q bf n d = (if tkn d = 0 then (q : Int) else -2) from if_pos w]
    split <;> omega
  · rw [show whG wh tkn q bf n d = wh d from if_neg w]
    exact h d hd
theorem whB_bd {wh : Nat → Int} {q n cm : Nat} (hq : q ≤ 1000) (h : ∀ d, d < cm → -2 ≤ wh d ∧ wh d ≤ 1000) : ∀ d, d < cm → -2 ≤ whB wh q n d ∧ whB wh q n d ≤ 1000 := by
  intro d hd
  unfold whB
  split
  · omega
  · exact h d hd
theorem rfM_0 {tkn : Nat → Nat} {cm : Nat} {wh : Nat → Int} {lv : Nat → Nat} {sg : Nat} (h : rfn wh tkn (sg - 4) 0 cm = 0) : rfM tkn cm (wh, lv, sg) = (whG wh tkn (sg - 4) 0 cm, lv, sg - 4) := if_pos h
theorem rfM_1 {tkn : Nat → Nat} {cm : Nat} {wh : Nat → Int} {lv : Nat → Nat} {sg : Nat} (h : 0 < rfn wh tkn (sg - 4) 0 cm) : rfM tkn cm (wh, lv, sg) = (whG wh tkn (sg - 4) 0 cm, va_up lv (sg - 4) (lv (sg - 4) + 1), sg - 4 + 1) := if_neg (by show ¬ rfn wh tkn (sg - 4) 0 cm = 0; omega)
theorem up_bd {lv : Nat → Nat} {q x B : Nat} (h : ∀ i, i < 64 → lv i ≤ B) (hx : x ≤ B) : ∀ i, i < 64 → va_up lv q x i ≤ B := fun i hi => by
  unfold va_up
  split
  · exact hx
  · exact h i hi
theorem up_bdz {wh : Nat → Int} {cm : Nat} {x : Int} (hx : -2 ≤ x ∧ x ≤ 1000) (h : ∀ d, d < cm → -2 ≤ wh d ∧ wh d ≤ 1000) : ∀ d, d < cm + 1 → -2 ≤ va_up wh cm x d ∧ va_up wh cm x d ≤ 1000 := fun d hd => by
  unfold va_up
  split
  · exact hx
  · exact h d (by omega)
theorem rfB_n {wh : Nat → Int} {lv : Nat → Nat} {sg cm : Nat} (h : cnz wh (-1) cm = 0) : rfB wh lv sg cm = (wh, lv, sg) := if_neg (by omega)
theorem rfB_y {wh : Nat → Int} {lv : Nat → Nat} {sg cm : Nat} (h : 0 < cnz wh (-1) cm) : rfB wh lv sg cm = (whB wh sg cm, va_up lv sg 0, sg + 1) := if_pos h
theorem lmax_y {lv : Nat → Nat} {n : Nat} (h : lmax lv n < lv n) : lmax lv (n + 1) = lv n := if_pos h
theorem lmax_n {lv : Nat → Nat} {n : Nat} (h : ¬ lmax lv n < lv n) : lmax lv (n + 1) = lmax lv n := if_neg h
theorem lmax_le {lv : Nat → Nat} {B : Nat} : ∀ {n : Nat}, (∀ i, i < n → lv i ≤ B) → lmax lv n ≤ B
  | 0, _ => Nat.zero_le _
  | n + 1, h => by
    have h1 := lmax_le (lv := lv) (n := n) (fun i hi => h i (by omega))
    have h2 := h n (by omega)
    show (if lmax lv n < lv n then lv n else lmax lv n) ≤ B
    split <;> omega
theorem rfF_next {tkn : Nat → Nat} {cm : Nat} {S S' : rfS} {q q' : Nat} (h4 : rf4 S.2.1 S.2.2) (hS : rfM tkn cm S = S') (hq : S.2.2 = q) (hq' : S'.2.2 = q') : rfF tkn cm q' S' = rfF tkn cm q S := by
  subst hS hq hq'
  have h1 := rfM_sg tkn cm S h4
  obtain ⟨r, hr⟩ : ∃ r, S.2.2 = r + 1 := ⟨S.2.2 - 1, by omega⟩
  rw [hr, rfF_y h4]
  exact rfF_fuel _ _ _ (Nat.le_refl _) (by omega)

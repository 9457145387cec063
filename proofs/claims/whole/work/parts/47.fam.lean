/-! the nine sets as a family of cells -/
abbrev sC : Type := Nat × Nat × Nat × (Nat → Nat)
def hsE (K : Nat → ClassId) (q : sC) : va_W := [(q.1, .inr (0, [.ref q.2.1, .int (nI q.2.2.1)])), (q.2.1, .inl (K 0, 512, .inl (nA q.2.2.2)))]
def fam (K : Nat → ClassId) (sc : Nat → sC) (l : List Nat) : va_W := l.flatMap (fun j => hsE K (sc j))
theorem fam_pull {K : Nat → ClassId} {sc : Nat → sC} {l : List Nat} {j : Nat} (h : j ∈ l) : (fam K sc l).Perm (hsE K (sc j) ++ fam K sc (l.erase j)) := (List.perm_cons_erase h).flatMap_right _
theorem fam_up {K : Nat → ClassId} {sc : Nat → sC} {l : List Nat} {j : Nat} (h : j ∉ l) (v : sC) : fam K (va_up sc j v) l = fam K sc l := by
  unfold fam
  induction l with
  | nil => rfl
  | cons a l ih =>
    rw [List.flatMap_cons, List.flatMap_cons, ih (fun w => h (List.mem_cons_of_mem _ w)), va_up_ne sc v (fun w => h (by rw [← w]; exact List.mem_cons_self))]
theorem pull1 {K : Nat → ClassId} {sc : Nat → sC} {l : List Nat} {j : Nat} (E t : va_W) (h : j ∈ l) : (E ++ (t ++ fam K sc l)).Perm ((E ++ hsE K (sc j)) ++ (t ++ fam K sc (l.erase j))) := by
  rw [List.append_assoc]
  refine List.Perm.append_left E ?_
  refine (List.Perm.append_left t (fam_pull h)).trans ?_
  exact pm_in t (hsE K (sc j)) _
theorem unpull {K : Nat → ClassId} {sc : Nat → sC} {l : List Nat} {j : Nat} (E t : va_W) (hn : l.Nodup) (h : j ∈ l) (v : sC) : ((E ++ hsE K v) ++ (t ++ fam K sc (l.erase j))).Perm (E ++ (t ++ fam K (va_up sc j v) l)) := by
  have e : fam K (va_up sc j v) (l.erase j) = fam K sc (l.erase j) := fam_up (hn.not_mem_erase) v
  have := (pull1 (K := K) (sc := va_up sc j v) E t h).symm
  rw [va_up_self, e] at this
  exact this
theorem pm_mv (E R t F : va_W) : ((E ++ R) ++ (t ++ F)).Perm (E ++ (t ++ (R ++ F))) := by
  rw [List.append_assoc]
  exact List.Perm.append_left E (pm_in R t F)
theorem nd9 : (List.range 9).Nodup := List.nodup_range
theorem in9 {j : Nat} (h : j < 9) : j ∈ List.range 9 := List.mem_range.mpr h
theorem inE {l : List Nat} {j k : Nat} (h : j ∈ l) (hne : j ≠ k) : j ∈ l.erase k := (List.mem_erase_of_ne hne).mpr h
/-- class and reference agree after i calls -/
def REL (K : Nat → ClassId) (i bf cm T : Nat) (sa st is ch : Nat → Nat) (ct : Nat → Int64) (el n ne : Nat) (ef : Nat → Option Nat) (L : List sgc) (ht : Nat) (pf : Nat → Option Nat) (sc : Nat → sC) (rd rs : Nat → Nat) (ru rl : Nat → Int32) (wh : Nat → Int) (tkn lv rh sz : Nat → Nat) : Prop :=
  cm ≤ i ∧ T ≤ i ∧ tkR ch ct st cm T rd rs ru rl ∧ SgR sa tkn wh lv cm bf (st cm) L.length L rd ru rl ∧ isC is sa cm ∧ sgOk K el ne ef L n ∧ n ≤ 13 ∧ (∀ d, cm ≤ d → tkn d = 0) ∧ seR (fun j => (sc j).2.2.1) (fun j => (sc j).2.2.2) ht rh sz ch (st cm) ∧ ht ≤ 8 ∧ ∀ j, j < 9 → pf j = some (sc j).1
theorem seR_0 {za : Nat → Nat} {ga : Nat → Nat → Nat} {rh sz ch : Nat → Nat} {T : Nat} : seR za ga 0 rh sz ch T := fun j hj => absurd hj (Nat.not_lt_zero _)
theorem nI_sub5 (n : Nat) : nI n - nI 5 = zI ((n : Int) - 5) := by
  rw [nI_zI, nI_zI]
  exact (Int32.ofInt_sub _ _).symm

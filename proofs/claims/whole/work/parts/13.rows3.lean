section XROWS3
variable {p : Program} {l : Launch} {e : Env} {R : Room} {s : State} {m : MethodId} {args : Array Value} {below : List Frame} {meth : Method} {c : Code} {H : Heap} {locs : List Loc} {cells slots : Nat} {Q : State → Prop}
variable {cc : ByteArray} {pc : Nat} {ls : Array Slot} {rest : List Value} {D : va_G} {K : Nat → ClassId} {A : Nat → Prop} {a : Nat} {ws : va_W}
theorem xcz_eq {a b : Int} {x y : Int32} {off : Int} {tgt : Nat} (hx : p.tables.exec = Jvm.exec) (hb : c.code = cc) (ea : x = zI a) (eb : y = zI b) (ha1 : -(2 ^ 31) ≤ a) (ha2 : a < 2 ^ 31) (hb1 : -(2 ^ 31) ≤ b) (hb2 : b < 2 ^ 31) (hdg : decode cc pc = .ok (.if_icmp .eq off, 3)) (ht : (pc : Int) + off = (tgt : Int)) (kt : a = b → W p l e R s m args below meth c H locs cells slots Q (F0 m tgt ls rest)) (kf : ¬ a = b → W p l e R s m args below meth c H locs cells slots Q (F0 m (pc + 3) ls rest)) : W p l e R s m args below meth c H locs cells slots Q (F0 m pc ls (.int y :: .int x :: rest)) := by
  subst ea
  subst eb
  exact lv_icmp_eq hx hb hdg ht (fun z => kt ((zI_eq ha1 ha2 hb1 hb2).mp z)) (fun z => kf (fun q => z ((zI_eq ha1 ha2 hb1 hb2).mpr q)))
theorem xcz_ne {a b : Int} {x y : Int32} {off : Int} {tgt : Nat} (hx : p.tables.exec = Jvm.exec) (hb : c.code = cc) (ea : x = zI a) (eb : y = zI b) (ha1 : -(2 ^ 31) ≤ a) (ha2 : a < 2 ^ 31) (hb1 : -(2 ^ 31) ≤ b) (hb2 : b < 2 ^ 31) (hdg : decode cc pc = .ok (.if_icmp .ne off, 3)) (ht : (pc : Int) + off = (tgt : Int)) (kt : ¬ a = b → W p l e R s m args below meth c H locs cells slots Q (F0 m tgt ls rest)) (kf : a = b → W p l e R s m args below meth c H locs cells slots Q (F0 m (pc + 3) ls rest)) : W p l e R s m args below meth c H locs cells slots Q (F0 m pc ls (.int y :: .int x :: rest)) := by
  subst ea
  subst eb
  exact lv_icmp_ne hx hb hdg ht (fun z => kt (fun q => z ((zI_eq ha1 ha2 hb1 hb2).mpr q))) (fun z => kf ((zI_eq ha1 ha2 hb1 hb2).mp z))
theorem xcz_lt {a b : Int} {x y : Int32} {off : Int} {tgt : Nat} (hx : p.tables.exec = Jvm.exec) (hb : c.code = cc) (ea : x = zI a) (eb : y = zI b) (ha1 : -(2 ^ 31) ≤ a) (ha2 : a < 2 ^ 31) (hb1 : -(2 ^ 31) ≤ b) (hb2 : b < 2 ^ 31) (hdg : decode cc pc = .ok (.if_icmp .lt off, 3)) (ht : (pc : Int) + off = (tgt : Int)) (kt : a < b → W p l e R s m args below meth c H locs cells slots Q (F0 m tgt ls rest)) (kf : b ≤ a → W p l e R s m args below meth c H locs cells slots Q (F0 m (pc + 3) ls rest)) : W p l e R s m args below meth c H locs cells slots Q (F0 m pc ls (.int y :: .int x :: rest)) := by
  subst ea
  subst eb
  exact lv_icmp_lt hx hb hdg ht (fun z => kt ((zI_lt ha1 ha2 hb1 hb2).mp z)) (fun z => kf (Int.not_lt.mp (fun q => z ((zI_lt ha1 ha2 hb1 hb2).mpr q))))
theorem xcz_ge {a b : Int} {x y : Int32} {off : Int} {tgt : Nat} (hx : p.tables.exec = Jvm.exec) (hb : c.code = cc) (ea : x = zI a) (eb : y = zI b) (ha1 : -(2 ^ 31) ≤ a) (ha2 : a < 2 ^ 31) (hb1 : -(2 ^ 31) ≤ b) (hb2 : b < 2 ^ 31) (hdg : decode cc pc = .ok (.if_icmp .ge off, 3)) (ht : (pc : Int) + off = (tgt : Int)) (kt : b ≤ a → W p l e R s m args below meth c H locs cells slots Q (F0 m tgt ls rest)) (kf : a < b → W p l e R s m args below meth c H locs cells slots Q (F0 m (pc + 3) ls rest)) : W p l e R s m args below meth c H locs cells slots Q (F0 m pc ls (.int y :: .int x :: rest)) := by
  subst ea
  subst eb
  exact lv_icmp_ge hx hb hdg ht (fun z => kt ((zI_le hb1 hb2 ha1 ha2).mp z)) (fun z => kf (Int.not_le.mp (fun q => z ((zI_le hb1 hb2 ha1 ha2).mpr q))))
theorem xcz_gt {a b : Int} {x y : Int32} {off : Int} {tgt : Nat} (hx : p.tables.exec = Jvm.exec) (hb : c.code = cc) (ea : x = zI a) (eb : y = zI b) (ha1 : -(2 ^ 31) ≤ a) (ha2 : a < 2 ^ 31) (hb1 : -(2 ^ 31) ≤ b) (hb2 : b < 2 ^ 31) (hdg : decode cc pc = .ok (.if_icmp .gt off, 3)) (ht : (pc : Int) + off = (tgt : Int)) (kt : b < a → W p l e R s m args below meth c H locs cells slots Q (F0 m tgt ls rest)) (kf : a ≤ b → W p l e R s m args below meth c H locs cells slots Q (F0 m (pc + 3) ls rest)) : W p l e R s m args below meth c H locs cells slots Q (F0 m pc ls (.int y :: .int x :: rest)) := by
  subst ea
  subst eb
  exact lv_icmp_gt hx hb hdg ht (fun z => kt ((zI_lt hb1 hb2 ha1 ha2).mp z)) (fun z => kf (Int.not_lt.mp (fun q => z ((zI_lt hb1 hb2 ha1 ha2).mpr q))))
theorem xcz_le {a b : Int} {x y : Int32} {off : Int} {tgt : Nat} (hx : p.tables.exec = Jvm.exec) (hb : c.code = cc) (ea : x = zI a) (eb : y = zI b) (ha1 : -(2 ^ 31) ≤ a) (ha2 : a < 2 ^ 31) (hb1 : -(2 ^ 31) ≤ b) (hb2 : b < 2 ^ 31) (hdg : decode cc pc = .ok (.if_icmp .le off, 3)) (ht : (pc : Int) + off = (tgt : Int)) (kt : a ≤ b → W p l e R s m args below meth c H locs cells slots Q (F0 m tgt ls rest)) (kf : b < a → W p l e R s m args below meth c H locs cells slots Q (F0 m (pc + 3) ls rest)) : W p l e R s m args below meth c H locs cells slots Q (F0 m pc ls (.int y :: .int x :: rest)) := by
  subst ea
  subst eb
  exact lv_icmp_le hx hb hdg ht (fun z => kt ((zI_le ha1 ha2 hb1 hb2).mp z)) (fun z => kf (Int.not_le.mp (fun q => z ((zI_le ha1 ha2 hb1 hb2).mpr q))))
theorem xzz_eq {a : Int} {off : Int} {tgt : Nat} (hx : p.tables.exec = Jvm.exec) (hb : c.code = cc) (ha1 : -(2 ^ 31) ≤ a) (ha2 : a < 2 ^ 31) (hdg : decode cc pc = .ok (.ifCond .eq off, 3)) (ht : (pc : Int) + off = (tgt : Int)) (kt : a = 0 → W p l e R s m args below meth c H locs cells slots Q (F0 m tgt ls rest)) (kf : ¬ a = 0 → W p l e R s m args below meth c H locs cells slots Q (F0 m (pc + 3) ls rest)) : W p l e R s m args below meth c H locs cells slots Q (F0 m pc ls (.int (zI a) :: rest)) := by
  have hb1 : -(2 ^ 31) ≤ (0 : Int) := by decide
  have hb2 : (0 : Int) < 2 ^ 31 := by decide
  exact lv_if_eq hx hb hdg ht (fun z => kt ((zI_eq ha1 ha2 hb1 hb2).mp z)) (fun z => kf (fun q => z ((zI_eq ha1 ha2 hb1 hb2).mpr q)))
theorem xzz_ne {a : Int} {off : Int} {tgt : Nat} (hx : p.tables.exec = Jvm.exec) (hb : c.code = cc) (ha1 : -(2 ^ 31) ≤ a) (ha2 : a < 2 ^ 31) (hdg : decode cc pc = .ok (.ifCond .ne off, 3)) (ht : (pc : Int) + off = (tgt : Int)) (kt : ¬ a = 0 → W p l e R s m args below meth c H locs cells slots Q (F0 m tgt ls rest)) (kf : a = 0 → W p l e R s m args below meth c H locs cells slots Q (F0 m (pc + 3) ls rest)) : W p l e R s m args below meth c H locs cells slots Q (F0 m pc ls (.int (zI a) :: rest)) := by
  have hb1 : -(2 ^ 31) ≤ (0 : Int) := by decide
  have hb2 : (0 : Int) < 2 ^ 31 := by decide
  exact lv_if_ne hx hb hdg ht (fun z => kt (fun q => z ((zI_eq ha1 ha2 hb1 hb2).mpr q))) (fun z => kf ((zI_eq ha1 ha2 hb1 hb2).mp z))
theorem xzz_lt {a : Int} {off : Int} {tgt : Nat} (hx : p.tables.exec = Jvm.exec) (hb : c.code = cc) (ha1 : -(2 ^ 31) ≤ a) (ha2 : a < 2 ^ 31) (hdg : decode cc pc = .ok (.ifCond .lt off, 3)) (ht : (pc : Int) + off = (tgt : Int)) (kt : a < 0 → W p l e R s m args below meth c H locs cells slots Q (F0 m tgt ls rest)) (kf : 0 ≤ a → W p l e R s m args below meth c H locs cells slots Q (F0 m (pc + 3) ls rest)) : W p l e R s m args below meth c H locs cells slots Q (F0 m pc ls (.int (zI a) :: rest)) := by
  have hb1 : -(2 ^ 31) ≤ (0 : Int) := by decide
  have hb2 : (0 : Int) < 2 ^ 31 := by decide
  exact lv_if_lt hx hb hdg ht (fun z => kt ((zI_lt ha1 ha2 hb1 hb2).mp z)) (fun z => kf (Int.not_lt.mp (fun q => z ((zI_lt ha1 ha2 hb1 hb2).mpr q))))
theorem xzz_ge {a : Int} {off : Int} {tgt : Nat} (hx : p.tables.exec = Jvm.exec) (hb : c.code = cc) (ha1 : -(2 ^ 31) ≤ a) (ha2 : a < 2 ^ 31) (hdg : decode cc pc = .ok (.ifCond .ge off, 3)) (ht : (pc : Int) + off = (tgt : Int)) (kt : 0 ≤ a → W p l e R s m args below meth c H locs cells slots Q (F0 m tgt ls rest)) (kf : a < 0 → W p l e R s m args below meth c H locs cells slots Q (F0 m (pc + 3) ls rest)) : W p l e R s m args below meth c H locs cells slots Q (F0 m pc ls (.int (zI a) :: rest)) := by
  have hb1 : -(2 ^ 31) ≤ (0 : Int) := by decide
  have hb2 : (0 : Int) < 2 ^ 31 := by decide
  exact lv_if_ge hx hb hdg ht (fun z => kt ((zI_le hb1 hb2 ha1 ha2).mp z)) (fun z => kf (Int.not_le.mp (fun q => z ((zI_le hb1 hb2 ha1 ha2).mpr q))))
theorem xzz_gt {a : Int} {off : Int} {tgt : Nat} (hx : p.tables.exec = Jvm.exec) (hb : c.code = cc) (ha1 : -(2 ^ 31) ≤ a) (ha2 : a < 2 ^ 31) (hdg : decode cc pc = .ok (.ifCond .gt off, 3)) (ht : (pc : Int) + off = (tgt : Int)) (kt : 0 < a → W p l e R s m args below meth c H locs cells slots Q (F0 m tgt ls rest)) (kf : a ≤ 0 → W p l e R s m args below meth c H locs cells slots Q (F0 m (pc + 3) ls rest)) : W p l e R s m args below meth c H locs cells slots Q (F0 m pc ls (.int (zI a) :: rest)) := by
  have hb1 : -(2 ^ 31) ≤ (0 : Int) := by decide
  have hb2 : (0 : Int) < 2 ^ 31 := by decide
  exact lv_if_gt hx hb hdg ht (fun z => kt ((zI_lt hb1 hb2 ha1 ha2).mp z)) (fun z => kf (Int.not_lt.mp (fun q => z ((zI_lt hb1 hb2 ha1 ha2).mpr q))))
theorem xzz_le {a : Int} {off : Int} {tgt : Nat} (hx : p.tables.exec = Jvm.exec) (hb : c.code = cc) (ha1 : -(2 ^ 31) ≤ a) (ha2 : a < 2 ^ 31) (hdg : decode cc pc = .ok (.ifCond .le off, 3)) (ht : (pc : Int) + off = (tgt : Int)) (kt : a ≤ 0 → W p l e R s m args below meth c H locs cells slots Q (F0 m tgt ls rest)) (kf : 0 < a → W p l e R s m args below meth c H locs cells slots Q (F0 m (pc + 3) ls rest)) : W p l e R s m args below meth c H locs cells slots Q (F0 m pc ls (.int (zI a) :: rest)) := by
  have hb1 : -(2 ^ 31) ≤ (0 : Int) := by decide
  have hb2 : (0 : Int) < 2 ^ 31 := by decide
  exact lv_if_le hx hb hdg ht (fun z => kt ((zI_le ha1 ha2 hb1 hb2).mp z)) (fun z => kf (Int.not_le.mp (fun q => z ((zI_le ha1 ha2 hb1 hb2).mpr q))))
end XROWS3
theorem zadd_zz (a b : Int) : zI a + zI b = zI (a + b) := zI_add a b
theorem zadd_nz (a : Nat) (b : Int) : nI a + zI b = zI ((a : Int) + b) := by rw [nI_zI]; exact zI_add _ _
theorem zadd_zn (a : Int) (b : Nat) : zI a + nI b = zI (a + (b : Int)) := by rw [nI_zI]; exact zI_add _ _
abbrev zA (w : Nat → Int) : Nat → Int32 := fun i => zI (w i)
theorem upd_zA (w : Nat → Int) (j : Nat) (x : Int) : upd (zA w) j (zI x) = zA (va_up w j x) := by
  funext i
  show (if i = j then zI x else zI (w i)) = zI (if i = j then x else w i)
  split <;> rfl
theorem upd_zAn (w : Nat → Int) (j : Nat) (x : Nat) : upd (zA w) j (nI x) = zA (va_up w j (x : Int)) := by rw [nI_zI]; exact upd_zA w j x
/-- how many of the first n are x -/
def cnz (w : Nat → Int) (x : Int) : Nat → Nat
  | 0 => 0
  | n + 1 => cnz w x n + (if w n = x then 1 else 0)
theorem cnz_le (w : Nat → Int) (x : Int) : ∀ n, cnz w x n ≤ n
  | 0 => Nat.le_refl _
  | n + 1 => by
    have := cnz_le w x n
    show cnz w x n + (if w n = x then 1 else 0) ≤ n + 1
    split <;> omega
theorem cnz_y {w : Nat → Int} {x : Int} {n : Nat} (h : w n = x) : cnz w x (n + 1) = cnz w x n + 1 := by
  show cnz w x n + (if w n = x then 1 else 0) = _
  rw [if_pos h]
theorem cnz_n {w : Nat → Int} {x : Int} {n : Nat} (h : ¬ w n = x) : cnz w x (n + 1) = cnz w x n := by
  show cnz w x n + (if w n = x then 1 else 0) = _
  rw [if_neg h]; rfl
/-- how many of the first n hold P -/
noncomputable def cnP (P : Nat → Prop) : Nat → Nat
  | 0 => 0
  | n + 1 => cnP P n + bN (P n)
theorem cnP_le (P : Nat → Prop) : ∀ n, cnP P n ≤ n
  | 0 => Nat.le_refl _
  | n + 1 => by
    have := cnP_le P n
    have := bN_le (P n)
    show cnP P n + bN (P n) ≤ n + 1
    omega
theorem cnP_y {P : Nat → Prop} {n : Nat} (h : P n) : cnP P (n + 1) = cnP P n + 1 := by
  show cnP P n + bN (P n) = _
  rw [bN_t h]
theorem cnP_n {P : Nat → Prop} {n : Nat} (h : ¬ P n) : cnP P (n + 1) = cnP P n := by
  show cnP P n + bN (P n) = _
  rw [bN_f h]; rfl
/-- a row of the reference's hits -/
abbrev rw_ (rh : Nat → Nat) (q : Nat) : Nat → Nat := fun k => rh (520 * q + k)
/-- documents in buffer go to segment q -/
def whB (wh : Nat → Int) (q : Nat) (n : Nat) : Nat → Int := fun d => if d < n ∧ wh d = -1 then (q : Int) else wh d
theorem whB_0 (wh : Nat → Int) (q : Nat) : whB wh q 0 = wh := by
  funext d
  unfold whB
  rw [if_neg (by omega)]
theorem whB_y {wh : Nat → Int} {q n : Nat} (h : wh n = -1) : va_up (whB wh q n) n (q : Int) = whB wh q (n + 1) := by
  funext d
  unfold va_up whB
  by_cases e : d = n
  · subst e; rw [if_pos rfl, if_pos ⟨by omega, h⟩]
  · rw [if_neg e]
    by_cases w : d < n ∧ wh d = -1
    · rw [if_pos w, if_pos ⟨by omega, w.2⟩]
    · rw [if_neg w, if_neg (fun v => w ⟨by omega, v.2⟩)]
theorem whB_n {wh : Nat → Int} {q n : Nat} (h : ¬ wh n = -1) : whB wh q n = whB wh q (n + 1) := by
  funext d
  unfold whB
  by_cases w : d < n ∧ wh d = -1
  · rw [if_pos w, if_pos ⟨by omega, w.2⟩]
  · rw [if_neg w, if_neg (fun v => w ⟨by rcases Nat.lt_or_ge d n with z | z; exact z; (have e : d = n := by omega); (rw [e] at v; exact absurd v.2 h), v.2⟩)]
/-- documents of segments from q on (and of the buffer) go to q, without the taken ones -/
def whP (wh : Nat → Int) (q : Nat) (bf : Nat) (d : Nat) : Prop := (q : Int) ≤ wh d ∨ (bf = 1 ∧ wh d = -1)
noncomputable def whG (wh : Nat → Int) (tkn : Nat → Nat) (q bf n : Nat) : Nat → Int := fun d => @ite Int (d < n ∧ whP wh q bf d) (Classical.propDecidable _) (if tkn d = 0 then (q : Int) else -2) (wh d)
theorem whG_0 (wh : Nat → Int) (tkn : Nat → Nat) (q bf : Nat) : whG wh tkn q bf 0 = wh := by
  funext d
  exact if_neg (fun h => absurd h.1 (Nat.not_lt_zero _))
theorem whG_at (wh : Nat → Int) (tkn : Nat → Nat) (q bf n : Nat) {d : Nat} (h : n ≤ d) : whG wh tkn q bf n d = wh d := if_neg (fun w => by omega)
theorem whG_n {wh : Nat → Int} {tkn : Nat → Nat} {q bf n : Nat} (h : ¬ whP wh q bf n) : whG wh tkn q bf n = whG wh tkn q bf (n + 1) := by
  funext d
  by_cases w : d < n ∧ whP wh q bf d
  · exact (if_pos w).trans (if_pos ⟨by omega, w.2⟩).symm
  · refine (if_neg w).trans (if_neg (fun v => ?_)).symm
    rcases Nat.lt_or_ge d n with z | z
    · exact w ⟨z, v.2⟩
    · have e : d = n := by omega
      subst e; exact h v.2
theorem whG_y {wh : Nat → Int} {tkn : Nat → Nat} {q bf n : Nat} (h : whP wh q bf n) {x : Int} (hx : x = if tkn n = 0 then (q : Int) else -2) : va_up (whG wh tkn q bf n) n x = whG wh tkn q bf (n + 1) := by
  funext d
  by_cases e : d = n
  · subst e
    rw [va_up_self]
    exact hx.trans (if_pos ⟨by omega, h⟩).symm
  · rw [va_up_ne _ _ e]
    by_cases w : d < n ∧ whP wh q bf d
    · exact (if_pos w).trans (if_pos ⟨by omega, w.2⟩).symm
    · exact (if_neg w).trans (if_neg (fun v => w ⟨by omega, v.2⟩)).symm

theorem w_acN : Cond.native arraycopyName ∈ gw := gw_in (i := 252) (by decide +kernel) rfl
theorem w_acS : Cond.static arraycopyName ∈ gw := gw_in (i := 251) (by decide +kernel) rfl
theorem w_acI : Cond.initialized "java/lang/System" ∈ gw := gw_in (i := 51) (by decide +kernel) rfl
section XROWS2
variable {p : Program} {l : Launch} {e : Env} {R : Room} {s : State} {m : MethodId} {args : Array Value} {below : List Frame} {meth : Method} {c : Code} {H : Heap} {locs : List Loc} {cells slots : Nat} {Q : State → Prop}
variable {cc : ByteArray} {pc : Nat} {ls : Array Slot} {rest : List Value} {D : va_G} {K : Nat → ClassId} {A : Nat → Prop} {a : Nat} {ws : va_W}
theorem xcpy_i {own : String} {index n0 sp dp n : Nat} {f : Nat → Int32} (hx : p.tables.exec = Jvm.exec) (hb : c.code = cc) (hml : c.maxLocals = ls.size) (hown : s.vm.findClass own = some m.cls) (htw : tw s) (hK : va_K D classes (tyl K) s) (hP : va_P D classes ws H) (hD : va_D A ws) (hS : va_S A s.heap H locs) (q0 : Nat) (he : ws[q0]? = some (a, .inl (K 0, n0, .inl f))) (hl : Cond.methodLink own index arraycopyName ∈ gw) (h4 : sp + n ≤ n0) (h5 : dp + n ≤ n0) (h6 : n0 < 2 ^ 31) (hfr : 1 ≤ R.frames) (hlo : (rest.map fun v => v.category).sum + (nativeFrameWords "java/lang/System" "arraycopy" 5 + 11) ≤ R.locals) (hdg : decode cc pc = .ok (.invokestatic index, 3))
    (kk : ∀ (H1 : Heap) (locs1 : List Loc), va_P D classes (ws.set q0 (a, .inl (K 0, n0, .inl (va_cpy f f sp dp n)))) H1 → va_D A (ws.set q0 (a, .inl (K 0, n0, .inl (va_cpy f f sp dp n)))) → va_S A s.heap H1 locs1 → W p l e R s m args below meth c H1 locs1 cells slots Q (F0 m (pc + 3) ls rest)) : W p l e R s m args below meth c H locs cells slots Q (F0 m pc ls (.int (nI n) :: .int (nI dp) :: .ref a :: .int (nI sp) :: .ref a :: rest)) :=
  va_copyi hx hb hml hown (htw _ hl args) (htw _ w_acN args) (htw _ w_acS args) (htw _ w_acI args) hK hP hD hS q0 q0 0 0 he he rfl rfl rfl (nI_pos (by omega)) (nI_pos (by omega)) (nI_pos (by omega)) (by rw [nI_clamp (by omega), nI_clamp (by omega)]; exact h4) (by rw [nI_clamp (by omega), nI_clamp (by omega)]; exact h5) (fun _ _ => rfl) hfr hlo hdg (by rw [nI_clamp (by omega), nI_clamp (by omega), nI_clamp (by omega)]; exact kk)
theorem xcpy_l {own : String} {index n0 sp dp n : Nat} {f : Nat → Int64} (hx : p.tables.exec = Jvm.exec) (hb : c.code = cc) (hml : c.maxLocals = ls.size) (hown : s.vm.findClass own = some m.cls) (htw : tw s) (hK : va_K D classes (tyl K) s) (hP : va_P D classes ws H) (hD : va_D A ws) (hS : va_S A s.heap H locs) (q0 : Nat) (he : ws[q0]? = some (a, .inl (K 1, n0, .inr (.inl f)))) (hl : Cond.methodLink own index arraycopyName ∈ gw) (h4 : sp + n ≤ n0) (h5 : dp + n ≤ n0) (h6 : n0 < 2 ^ 31) (hfr : 1 ≤ R.frames) (hlo : (rest.map fun v => v.category).sum + (nativeFrameWords "java/lang/System" "arraycopy" 5 + 11) ≤ R.locals) (hdg : decode cc pc = .ok (.invokestatic index, 3))
    (kk : ∀ (H1 : Heap) (locs1 : List Loc), va_P D classes (ws.set q0 (a, .inl (K 1, n0, .inr (.inl (va_cpy f f sp dp n))))) H1 → va_D A (ws.set q0 (a, .inl (K 1, n0, .inr (.inl (va_cpy f f sp dp n))))) → va_S A s.heap H1 locs1 → W p l e R s m args below meth c H1 locs1 cells slots Q (F0 m (pc + 3) ls rest)) : W p l e R s m args below meth c H locs cells slots Q (F0 m pc ls (.int (nI n) :: .int (nI dp) :: .ref a :: .int (nI sp) :: .ref a :: rest)) :=
  va_copyl hx hb hml hown (htw _ hl args) (htw _ w_acN args) (htw _ w_acS args) (htw _ w_acI args) hK hP hD hS q0 q0 1 1 he he rfl rfl rfl (nI_pos (by omega)) (nI_pos (by omega)) (nI_pos (by omega)) (by rw [nI_clamp (by omega), nI_clamp (by omega)]; exact h4) (by rw [nI_clamp (by omega), nI_clamp (by omega)]; exact h5) (fun _ _ => rfl) hfr hlo hdg (by rw [nI_clamp (by omega), nI_clamp (by omega), nI_clamp (by omega)]; exact kk)
end XROWS2
theorem cpy_nA (g : Nat → Nat) (sp dp n : Nat) : va_cpy (nA g) (nA g) sp dp n = nA (va_cpy g g sp dp n) := by
  funext k
  show (if dp ≤ k ∧ k < dp + n then nI (g (sp + (k - dp))) else nI (g k)) = nI (if dp ≤ k ∧ k < dp + n then g (sp + (k - dp)) else g k)
  split <;> rfl
/-- room for one more at place p -/
def insN {α : Type} (g : Nat → α) (p T : Nat) (x : α) : Nat → α := fun k => if k < p then g k else if k = p then x else if k ≤ T then g (k - 1) else g k
theorem insN_n (g : Nat → Nat) {p T : Nat} (h : p ≤ T) (x : Nat) : va_up (va_cpy g g p (p + 1) (T - p)) p x = insN g p T x := by
  funext k
  unfold va_up va_cpy insN
  by_cases q : k = p
  · subst q; rw [if_pos rfl, if_neg (Nat.lt_irrefl _), if_pos rfl]
  · rw [if_neg q, if_neg (c := k = p) q]
    by_cases w : k < p
    · rw [if_pos w, if_neg (by omega)]
    · rw [if_neg w]
      by_cases v : k ≤ T
      · rw [if_pos v, if_pos (by omega)]; congr 1; omega
      · rw [if_neg v, if_neg (by omega)]
theorem insN_l (g : Nat → Int64) {p T : Nat} (h : p ≤ T) (x : Int64) : vp_updL (va_cpy g g p (p + 1) (T - p)) p x = insN g p T x := by
  funext k
  unfold vp_updL va_cpy insN
  by_cases q : k = p
  · subst q; rw [if_pos rfl, if_neg (Nat.lt_irrefl _), if_pos rfl]
  · rw [if_neg q, if_neg (c := k = p) q]
    by_cases w : k < p
    · rw [if_pos w, if_neg (by omega)]
    · rw [if_neg w]
      by_cases v : k ≤ T
      · rw [if_pos v, if_pos (by omega)]; congr 1; omega
      · rw [if_neg v, if_neg (by omega)]
/-- gathering: of the first k tokens those with S, as hits -/
def st_gt (ch : Nat → Nat) (S : Nat → Prop) (k z : Nat) (g : Nat → Nat) : Prop := st_inc z g ∧ ∀ v, st_mem z g v ↔ ∃ i, i < k ∧ S i ∧ ch i = v
theorem st_gt_0 {ch g : Nat → Nat} {S : Nat → Prop} : st_gt ch S 0 0 g :=
  ⟨fun _ _ _ h => absurd h (Nat.not_lt_zero _), fun _ => ⟨fun h => absurd h.choose_spec.1 (Nat.not_lt_zero _), fun h => absurd h.choose_spec.1 (Nat.not_lt_zero _)⟩⟩
theorem st_gt_n {ch g : Nat → Nat} {S : Nat → Prop} {k z : Nat} (h : st_gt ch S k z g) (hn : ¬ S k) : st_gt ch S (k + 1) z g := by
  refine ⟨h.1, fun v => (h.2 v).trans ⟨fun ⟨i, a, b⟩ => ⟨i, by omega, b⟩, fun ⟨i, a, b, d⟩ => ?_⟩⟩
  rcases Nat.lt_or_ge i k with q | q
  · exact ⟨i, q, b, d⟩
  · have : i = k := by omega
    subst this; exact absurd b hn
theorem st_gt_skip {ch g : Nat → Nat} {S : Nat → Prop} {k k' z : Nat} (h : st_gt ch S k z g) (hk : k ≤ k') (hn : ∀ i, k ≤ i → i < k' → ¬ S i) : st_gt ch S k' z g := by
  refine ⟨h.1, fun v => (h.2 v).trans ⟨fun ⟨i, a, b⟩ => ⟨i, by omega, b⟩, fun ⟨i, a, b, d⟩ => ?_⟩⟩
  rcases Nat.lt_or_ge i k with q | q
  · exact ⟨i, q, b, d⟩
  · exact absurd b (hn i q a)
theorem st_gt_y {ch g : Nat → Nat} {S : Nat → Prop} {k z T : Nat} (h : st_gt ch S k z g) (hm : ∀ i j, i ≤ j → j < T → ch i ≤ ch j) (hk : k < T) (hy : S k) : st_gt ch S (k + 1) (pz z g (ch k)) (pg z g (ch k)) := by
  obtain ⟨h1, h2⟩ := h
  obtain ⟨p1, p2⟩ := st_put (x := ch k) h1 (fun j hj => by
    obtain ⟨i, a, b, d⟩ := (h2 (g j)).mp ⟨j, hj, rfl⟩
    rw [← d]; exact hm i k (by omega) hk)
  refine ⟨p1, fun v => ?_⟩
  rw [p2, h2]
  constructor
  · rintro (⟨i, a, b⟩ | a)
    · exact ⟨i, by omega, b⟩
    · exact ⟨k, by omega, hy, a.symm⟩
  · rintro ⟨i, a, b, d⟩
    rcases Nat.lt_or_ge i k with q | q
    · exact Or.inl ⟨i, q, b, d⟩
    · have : i = k := by omega
      subst this; exact Or.inr d.symm
theorem st_gt_card {ch g : Nat → Nat} {S : Nat → Prop} {k z : Nat} (h : st_gt ch S k z g) : z ≤ k :=
  st_card h.1 (fun v hv => by obtain ⟨i, a, b, d⟩ := (h.2 v).mp hv; exact ⟨i, a, d⟩)
theorem st_gt_lt {ch g : Nat → Nat} {S : Nat → Prop} {k z T : Nat} (h : st_gt ch S k z g) (hk : k ≤ T) {B : Nat} (hB : ∀ i, i < T → ch i < B) : ∀ j, j < z → g j < B := fun j hj => by
  obtain ⟨i, a, b, d⟩ := (h.2 (g j)).mp ⟨j, hj, rfl⟩
  rw [← d]; exact hB i (by omega)
/-- the field's bit of a hit -/
def fbit (fs : Int32) (h : Nat) : Prop := ¬ (fs >>> (nI (h / 2 ^ 12 % 2 ^ 2) &&& 31)) &&& nI 1 = 0
/-- the mask of the first n bytes -/
def mkL (n : Nat) : Int64 := if n = 0 then 0 else (-1) <<< ((nI (64 - 8 * n)).toInt64 &&& 63)
/-- a document moves on -/
def mvS (sa : Nat → Nat) (d : Nat) : Nat → Nat := if sa d = 0 then va_up sa d 1 else if sa d = 2 then va_up sa d 3 else sa
def mvC (is : Nat → Nat) (x v : Nat) : Nat → Nat := va_up (va_up is x (is x - 1)) v (va_up is x (is x - 1) v + 1)
def mvI (sa is : Nat → Nat) (d : Nat) : Nat → Nat := if sa d = 0 then mvC is 0 1 else if sa d = 2 then mvC is 2 3 else is

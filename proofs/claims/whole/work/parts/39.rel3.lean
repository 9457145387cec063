/-! pure: documents and segments of class and reference -/
def fsL (L : List sgc) (i : Nat) : Nat := ((L[i]?).map (fun q => q.2.1)).getD 0
theorem fsL_at {L : List sgc} {i : Nat} {q : sgc} (h : L[i]? = some q) : fsL L i = q.2.1 := by rw [fsL, h]; rfl
def dcR (sa tkn : Nat → Nat) (wh : Nat → Int) (cm bf : Nat) (L : List sgc) : Prop :=
  ∀ d, d < cm → sa d < 4 ∧ tkn d ≤ 1 ∧ (tkn d = 0 ↔ sa d ≤ 1) ∧ (sa d = 0 ↔ wh d = -1) ∧ (sa d = 3 ↔ wh d = -2) ∧ -2 ≤ wh d ∧ wh d < L.length ∧ (sa d = 0 → bf ≤ d) ∧ (0 ≤ wh d → d < bf ∧ ∀ q, q < L.length → ((q : Int) ≤ wh d ↔ fsL L q ≤ d))
noncomputable def tmC (rd : Nat → Nat) (ru rl : Nat → Int32) (wh : Nat → Int) (q : Nat) (hd : Nat) : Nat := cnP (fun i => wh (rd i) = (q : Int) ∧ ∀ k, k < i → ¬ (ru k = ru i ∧ rl k = rl i ∧ wh (rd k) = wh (rd i))) hd
theorem tmC_congr {rd : Nat → Nat} {ru rl : Nat → Int32} {wh wh' : Nat → Int} {q hd : Nat} (h : ∀ i, i < hd → (wh (rd i) = (q : Int) ↔ wh' (rd i) = (q : Int))) : tmC rd ru rl wh q hd = tmC rd ru rl wh' q hd := by
  refine cnP_congr fun i hi => ?_
  constructor
  · rintro ⟨a, b⟩
    refine ⟨(h i hi).mp a, fun k hk w => b k hk ⟨w.1, w.2.1, ?_⟩⟩
    rw [a]
    refine (h k (by omega)).mpr ?_
    rw [w.2.2]
    exact (h i hi).mp a
  · rintro ⟨a, b⟩
    refine ⟨(h i hi).mpr a, fun k hk w => b k hk ⟨w.1, w.2.1, ?_⟩⟩
    rw [a]
    refine (h k (by omega)).mp ?_
    rw [w.2.2]
    exact (h i hi).mpr a
def sgR (L : List sgc) (lv : Nat → Nat) (wh : Nat → Int) (cm bf hd : Nat) (rd : Nat → Nat) (ru rl : Nat → Int32) : Prop :=
  ∀ (q : Nat) (s : sgc), L[q]? = some s → s.2.1 ≤ bf ∧ s.2.2.1 = lv q ∧ s.2.2.2.1 = cnz wh (q : Int) cm ∧ s.2.2.2.2.1 = tmC rd ru rl wh q hd ∧ s.2.2.2.2.2 = cnP (fun i => wh (rd i) = (q : Int)) hd
theorem cnz_congr {w w' : Nat → Int} {x : Int} {n : Nat} (h : ∀ d, d < n → (w d = x ↔ w' d = x)) : cnz w x n = cnz w' x n := by
  rw [cnz_cnP, cnz_cnP]
  exact cnP_congr h
/-- what putting together does to the documents, in the reference's words -/
def mvd (sa : Nat → Nat) (wh wh' : Nat → Int) (cm fi n0 : Nat) : Prop := ∀ d, d < cm → (fi ≤ d → sa d ≤ 1 → wh' d = (n0 : Int)) ∧ (fi ≤ d → sa d = 2 → wh' d = -2) ∧ ((d < fi ∨ sa d = 3) → wh' d = wh d)
section PT
variable {sa tkn : Nat → Nat} {wh wh' : Nat → Int} {cm bf fi : Nat} {L0 M L : List sgc}
theorem ptS_d {sa : Nat → Nat} {fi cm d : Nat} (hd : d < cm) : ptS sa fi cm d = if fi ≤ d then mv1 (sa d) else sa d := by
  unfold ptS
  by_cases q : fi ≤ d
  · rw [if_pos ⟨q, hd⟩, if_pos q]
  · rw [if_neg (fun w => q w.1), if_neg q]
theorem mv1_v {x : Nat} (h : x < 4) : (x ≤ 1 → mv1 x = 1) ∧ (2 ≤ x → mv1 x = 3) := by
  unfold mv1
  rcases (show x = 0 ∨ x = 1 ∨ x = 2 ∨ x = 3 by omega) with rfl | rfl | rfl | rfl <;> decide
theorem pre_at {L0 M : List sgc} {q : Nat} (h : q < L0.length) : (L0 ++ M)[q]? = L0[q]? := List.getElem?_append_left h
theorem fsL_pre {L0 M : List sgc} {q : Nat} (h : q < L0.length) : fsL (L0 ++ M) q = fsL L0 q := by rw [fsL, fsL, pre_at h]
theorem lvL_pre {L0 M : List sgc} {q : Nat} (h : q < L0.length) : lvL (L0 ++ M) q = lvL L0 q := by rw [lvL, lvL, pre_at h]
/-- the new segment -/
theorem dcR_pt (h : dcR sa tkn wh cm bf (L0 ++ M)) (hF : ∀ q, q < L0.length → fsL L0 q ≤ bf) (hm : mvd sa wh wh' cm fi L0.length) (hce : ∀ d, d < cm → 0 ≤ wh d → ((L0.length : Int) ≤ wh d ↔ fi ≤ d)) (hc2 : ∀ d, d < cm → sa d = 0 → fi ≤ d) {N : List sgc} (hN : N = [] ∧ (∀ d, d < cm → fi ≤ d → ¬ sa d ≤ 1) ∨ ∃ s : sgc, s.2.1 = fi ∧ N = [s]) : dcR (ptS sa fi cm) tkn wh' cm cm (L0 ++ N) := by
  intro d hd
  obtain ⟨g1, g2, g3, g4, g5, g6, g7, g8, g9⟩ := h d hd
  obtain ⟨m1, m2, m3⟩ := hm d hd
  have hce := hce d hd
  have hc2 := hc2 d hd
  have hlen : L0.length ≤ (L0 ++ N).length := by rw [List.length_append]; omega
  rw [ptS_d hd]
  by_cases q : fi ≤ d
  · rw [if_pos q]
    obtain ⟨v1, v2⟩ := mv1_v g1
    by_cases r : sa d ≤ 1
    · rw [v1 r, m1 q r]
      obtain ⟨s, s1, rfl⟩ : ∃ s : sgc, s.2.1 = fi ∧ N = [s] := by
        rcases hN with hN | hN
        · exact absurd r (hN.2 d hd q)
        · exact hN
      have hl1 : (L0 ++ [s]).length = L0.length + 1 := by rw [List.length_append]; rfl
      refine ⟨by decide, g2, ⟨fun _ => by omega, fun _ => g3.mpr r⟩, ⟨fun w => by omega, fun w => by omega⟩, ⟨fun w => by omega, fun w => by omega⟩, by omega, by omega, fun w => by omega, fun _ => ⟨hd, fun k hk => ⟨fun _ => ?_, fun _ => by omega⟩⟩⟩
      rcases Nat.lt_or_ge k L0.length with w | w
      · rw [fsL_pre w]
        rcases Nat.eq_zero_or_pos (sa d) with z | z
        · exact Nat.le_trans (hF k w) (g8 z)
        · have hw0 : 0 ≤ wh d := by omega
          have := (hce hw0).mpr q
          rw [← fsL_pre (M := M) w]
          exact ((g9 hw0).2 k (by rw [List.length_append]; omega)).mp (by omega)
      · have e : k = L0.length := by omega
        have hat : (L0 ++ [s])[k]? = some s := by rw [e, List.getElem?_append_right (Nat.le_refl _), Nat.sub_self]; rfl
        rw [fsL_at hat, s1]
        exact q
    · rw [v2 (by omega)]
      have hw : wh' d = -2 := by
        rcases (show sa d = 2 ∨ sa d = 3 by omega) with z | z
        · exact m2 q z
        · rw [m3 (Or.inr z)]
          exact g5.mp z
      rw [hw]
      exact ⟨by decide, g2, ⟨fun w => absurd (g3.mp w) r, fun w => by omega⟩, ⟨fun w => by omega, fun w => by omega⟩, ⟨fun _ => rfl, fun _ => rfl⟩, by omega, by omega, fun w => by omega, fun w => by omega⟩
  · rw [if_neg q, m3 (Or.inl (by omega))]
    have hlt : wh d < (L0.length : Int) := by
      rcases Int.lt_or_le (wh d) 0 with w | w
      · omega
      · have := hce w
        omega
    refine ⟨g1, g2, g3, g4, g5, g6, by omega, fun w => absurd (hc2 w) q, fun w => ⟨hd, fun k hk => ?_⟩⟩
    rcases Nat.lt_or_ge k L0.length with z | z
    · rw [fsL_pre z, ← fsL_pre (M := M) z]
      exact (g9 w).2 k (by rw [List.length_append]; omega)
    · rcases hN with hN | ⟨s, s1, rfl⟩
      · rw [hN.1, List.append_nil] at hk
        omega
      · have e : k = L0.length := by
          rw [List.length_append] at hk
          have : [s].length = 1 := rfl
          omega
        have hat : (L0 ++ [s])[k]? = some s := by rw [e, List.getElem?_append_right (Nat.le_refl _), Nat.sub_self]; rfl
        rw [fsL_at hat, s1]
        constructor
        · intro y; omega
        · intro y; omega
theorem mvd_q (h : dcR sa tkn wh cm bf (L0 ++ M)) (hm : mvd sa wh wh' cm fi L0.length) (hce : ∀ d, d < cm → 0 ≤ wh d → ((L0.length : Int) ≤ wh d ↔ fi ≤ d)) {q d : Nat} (hq : q < L0.length) (hd : d < cm) : wh d = (q : Int) ↔ wh' d = (q : Int) := by
  obtain ⟨g1, g2, g3, g4, g5, g6, g7, g8, g9⟩ := h d hd
  obtain ⟨m1, m2, m3⟩ := hm d hd
  have hce := hce d hd
  by_cases z : d < fi ∨ sa d = 3
  · rw [m3 z]
  · have z1 : fi ≤ d := by omega
    have z2 : ¬ sa d = 3 := by omega
    constructor
    · intro w
      have := (hce (by omega)).mpr z1
      omega
    · intro w
      rcases (show sa d ≤ 1 ∨ sa d = 2 by omega) with y | y
      · rw [m1 z1 y] at w
        omega
      · rw [m2 z1 y] at w
        omega
theorem mvd_n (h : dcR sa tkn wh cm bf (L0 ++ M)) (hm : mvd sa wh wh' cm fi L0.length) (hce : ∀ d, d < cm → 0 ≤ wh d → ((L0.length : Int) ≤ wh d ↔ fi ≤ d)) {d : Nat} (hd : d < cm) : (fi ≤ d ∧ sa d ≤ 1) ↔ wh' d = (L0.length : Int) := by
  obtain ⟨g1, g2, g3, g4, g5, g6, g7, g8, g9⟩ := h d hd
  obtain ⟨m1, m2, m3⟩ := hm d hd
  have hce := hce d hd
  constructor
  · rintro ⟨a, b⟩
    exact m1 a b
  · intro w
    by_cases z : d < fi ∨ sa d = 3
    · rw [m3 z] at w
      have := (hce (by omega)).mp (by omega)
      rcases z with z | z
      · omega
      · have := g5.mp z
        omega
    · have z1 : fi ≤ d := by omega
      refine ⟨z1, ?_⟩
      rcases (show sa d ≤ 1 ∨ sa d = 2 by omega) with y | y
      · exact y
      · rw [m2 z1 y] at w
        omega
end PT
section PT2
variable {sa tkn : Nat → Nat} {wh wh' : Nat → Int} {cm bf fi T : Nat} {L0 M : List sgc} {ch : Nat → Nat} {ct : Nat → Int64} {st rd rs lv lv' : Nat → Nat} {ru rl : Nat → Int32}
theorem st_doc (htk : tkR ch ct st cm T rd rs ru rl) (hfi : fi ≤ cm) {i : Nat} (hi : i < st cm) : st fi ≤ i ↔ fi ≤ ch i / 2 ^ 14 := by
  obtain ⟨d, a, b, c⟩ := st_find htk.2.1 hi
  rw [htk.2.2.2.1 d a i b c]
  constructor
  · intro w
    rcases Nat.lt_or_ge d fi with z | z
    · have := st_mono htk.1 (show d + 1 ≤ fi from z) hfi
      omega
    · exact z
  · intro w
    have := st_mono htk.1 w (by omega)
    omega
/-- what is counted of the new segment -/
theorem seg_new (htk : tkR ch ct st cm T rd rs ru rl) (h : dcR sa tkn wh cm bf (L0 ++ M)) (hm : mvd sa wh wh' cm fi L0.length) (hce : ∀ d, d < cm → 0 ≤ wh d → ((L0.length : Int) ≤ wh d ↔ fi ≤ d)) (hfi : fi ≤ cm) {nt : Nat} {g9 : Nat → Int64} (hk : ptK (fun i => sa (ch i / 2 ^ 14) ≤ 1) ct (st fi) (st cm) nt g9) (hs : ∀ i j, i ≤ j → j < nt → g9 i ≤ g9 j) :
    nt = cnP (fun i => wh' (rd i) = (L0.length : Int)) (st cm) ∧ hp_dif g9 nt = tmC rd ru rl wh' L0.length (st cm) := by
  have tq0 := htk.2.2.2.2.2.2.2.2.2.2
  have hrs := fun i (hi : i < st cm) => htk.2.2.2.2.2.2.1 i (Nat.lt_of_lt_of_le hi htk.2.2.1)
  have hrd := htk.2.2.2.2.2.2.2.1
  have conv : ∀ i, i < st cm → ((fi ≤ (16384 * rd i + rs i) / 2 ^ 14 ∧ sa ((16384 * rd i + rs i) / 2 ^ 14) ≤ 1) ↔ wh' (rd i) = (L0.length : Int)) := by
    intro i hi
    have := hrs i hi
    rw [show (16384 * rd i + rs i) / 2 ^ 14 = rd i by omega]
    exact mvd_n h hm hce (hrd i hi)
  constructor
  · rw [hk.1]
    rw [cnP_congr (Q := fun i => fi ≤ ch i / 2 ^ 14 ∧ sa (ch i / 2 ^ 14) ≤ 1) (fun i hi => and_congr_left fun _ => st_doc htk hfi hi)]
    refine (tq0 (fun x _ => fi ≤ x / 2 ^ 14 ∧ sa (x / 2 ^ 14) ≤ 1)).trans ?_
    exact cnP_congr conv
  · have hc : ∀ v, hp_cnt g9 v nt = cnP (fun i => wh' (rd i) = (L0.length : Int) ∧ tmL (ru i) (rl i) = v) (st cm) := by
      intro v
      rw [hk.2 v]
      rw [cnP_congr (Q := fun i => (fi ≤ ch i / 2 ^ 14 ∧ sa (ch i / 2 ^ 14) ≤ 1) ∧ ct i = v) (fun i hi => by rw [st_doc htk hfi hi, and_assoc])]
      refine (tq0 (fun x t => (fi ≤ x / 2 ^ 14 ∧ sa (x / 2 ^ 14) ≤ 1) ∧ t = v)).trans ?_
      exact cnP_congr fun i hi => and_congr_left fun _ => conv i hi
    rw [dif_same hs hc]
    refine cnP_congr fun i hi => ?_
    refine and_congr_right fun a => ?_
    refine forall_congr' fun k => forall_congr' fun hk => not_congr ?_
    constructor
    · rintro ⟨x, y⟩
      obtain ⟨y1, y2⟩ := tmL_inj y
      exact ⟨y1, y2, by rw [x, a]⟩
    · rintro ⟨x, y, z⟩
      exact ⟨by rw [z, a], by rw [x, y]⟩
theorem sgR_pt (htk : tkR ch ct st cm T rd rs ru rl) (h : dcR sa tkn wh cm bf (L0 ++ M)) (hsg : sgR (L0 ++ M) lv wh cm bf (st cm) rd ru rl) (hbf : bf ≤ cm) (hm : mvd sa wh wh' cm fi L0.length) (hce : ∀ d, d < cm → 0 ≤ wh d → ((L0.length : Int) ≤ wh d ↔ fi ≤ d)) (hfi : fi ≤ cm) (hlv : ∀ q, q < L0.length → lv' q = lv q)
    {N : List sgc} (hN : N = [] ∨ ∃ (q9 lw nt : Nat) (g9 : Nat → Int64), N = [(q9, fi, lw, cnP (fun k => fi ≤ k ∧ sa k ≤ 1) cm, hp_dif g9 nt, nt)] ∧ lv' L0.length = lw ∧ ptK (fun i => sa (ch i / 2 ^ 14) ≤ 1) ct (st fi) (st cm) nt g9 ∧ ∀ i j, i ≤ j → j < nt → g9 i ≤ g9 j) : sgR (L0 ++ N) lv' wh' cm cm (st cm) rd ru rl := by
  have hrd := htk.2.2.2.2.2.2.2.1
  intro q s hs
  rcases Nat.lt_or_ge q L0.length with w | w
  · rw [pre_at w, ← pre_at (M := M) w] at hs
    obtain ⟨a, b, c, d, e⟩ := hsg q s hs
    refine ⟨by omega, by rw [hlv q w]; exact b, c.trans (cnz_congr fun d hd => mvd_q h hm hce w hd), d.trans (tmC_congr fun i hi => mvd_q h hm hce w (hrd i hi)), e.trans (cnP_congr fun i hi => mvd_q h hm hce w (hrd i hi))⟩
  · rcases hN with rfl | ⟨q9, lw, nt, g9, rfl, hl, hk, hso⟩
    · rw [List.append_nil] at hs
      have := (List.getElem?_eq_some_iff.mp hs).1
      omega
    · rw [List.getElem?_append_right w] at hs
      have e : q - L0.length = 0 := by
        cases z : q - L0.length with
        | zero => rfl
        | succ j => rw [z] at hs; simp at hs
      rw [e] at hs
      have hs : (q9, fi, lw, cnP (fun k => fi ≤ k ∧ sa k ≤ 1) cm, hp_dif g9 nt, nt) = s := Option.some.inj hs
      subst hs
      have e : q = L0.length := by omega
      subst e
      obtain ⟨n1, n2⟩ := seg_new htk h hm hce hfi hk hso
      refine ⟨hfi, hl.symm, ?_, n2, n1⟩
      show cnP _ cm = _
      rw [cnz_cnP]
      exact cnP_congr fun d hd => mvd_n h hm hce hd
end PT2
/-! pure: levels -/
def wt (lv : Nat → Nat) : Nat → Nat
  | 0 => 0
  | n + 1 => wt lv n + 4 ^ lv n
theorem wt_congr {lv lv' : Nat → Nat} : ∀ {n : Nat}, (∀ q, q < n → lv' q = lv q) → wt lv' n = wt lv n
  | 0, _ => rfl
  | n + 1, h => by
    show wt lv' n + 4 ^ lv' n = wt lv n + 4 ^ lv n
    rw [wt_congr (fun q hq => h q (by omega)), h n (by omega)]
theorem wt_mono {lv : Nat → Nat} {a : Nat} : ∀ {m : Nat}, wt lv a ≤ wt lv (a + m)
  | 0 => Nat.le_refl _
  | m + 1 => Nat.le_trans (wt_mono (m := m)) (Nat.le_add_right _ _)
theorem wt_at {lv : Nat → Nat} {n q : Nat} (h : q < n) : 4 ^ lv q ≤ wt lv n := by
  obtain ⟨m, rfl⟩ := Nat.le.dest (show q + 1 ≤ n from h)
  have h1 : 4 ^ lv q ≤ wt lv (q + 1) := Nat.le_add_left _ _
  exact Nat.le_trans h1 wt_mono
theorem lv_le4 {lv : Nat → Nat} {n q : Nat} (h : q < n) (hw : wt lv n ≤ 512) : lv q ≤ 4 := by
  have h1 := Nat.le_trans (wt_at h) hw
  rcases Nat.lt_or_ge 4 (lv q) with w | w
  · have h2 : 4 ^ 5 ≤ 4 ^ lv q := Nat.pow_le_pow_right (by decide) w
    have h3 : (4 : Nat) ^ 5 = 1024 := by decide
    omega
  · exact w
/-- levels don't rise, and of those before m no four are alike -/
def lvR (lv : Nat → Nat) (n m bf : Nat) : Prop := (∀ q, q + 1 < n → lv (q + 1) ≤ lv q) ∧ (∀ q, q + 3 < m → lv (q + 3) < lv q) ∧ wt lv n ≤ bf
theorem pw {a b : Nat} (h : a ≤ b) : 4 ^ a ≤ 4 ^ b := Nat.pow_le_pow_right (by decide) h
theorem lv_13 {lv : Nat → Nat} {n bf : Nat} (h : lvR lv n n bf) (hb : bf ≤ 512) (hn : n ≤ 14) : n ≤ 13 := by
  rcases Nat.lt_or_ge n 14 with w | w
  · omega
  · exfalso
    have e : n = 14 := by omega
    subst e
    obtain ⟨h1, h2, h3⟩ := h
    have a10 : lv 13 < lv 10 := h2 10 (by omega)
    have a9 : lv 12 < lv 9 := h2 9 (by omega)
    have a8 : lv 11 < lv 8 := h2 8 (by omega)
    have a7 : lv 10 < lv 7 := h2 7 (by omega)
    have a6 : lv 9 < lv 6 := h2 6 (by omega)
    have a5 : lv 8 < lv 5 := h2 5 (by omega)
    have a4 : lv 7 < lv 4 := h2 4 (by omega)
    have a3 : lv 6 < lv 3 := h2 3 (by omega)
    have a2 : lv 5 < lv 2 := h2 2 (by omega)
    have a1 : lv 4 < lv 1 := h2 1 (by omega)
    have a0 : lv 3 < lv 0 := h2 0 (by omega)
    have p0 := pw (show 4 ≤ lv 0 by omega)
    have p1 := pw (show 4 ≤ lv 1 by omega)
    have p2 := pw (show 3 ≤ lv 2 by omega)
    have hm : wt lv 3 ≤ wt lv 14 := wt_mono (a := 3) (m := 11)
    have hw : wt lv 3 = 0 + 4 ^ lv 0 + 4 ^ lv 1 + 4 ^ lv 2 := rfl
    have e4 : (4 : Nat) ^ 4 = 256 := by decide
    have e3 : (4 : Nat) ^ 3 = 64 := by decide
    rw [e4] at p0 p1
    rw [e3] at p2
    omega
theorem lv_add0 {lv : Nat → Nat} {n bf cm : Nat} (h : lvR lv n n bf) (hb : bf < cm) : lvR (va_up lv n 0) (n + 1) n cm := by
  obtain ⟨h1, h2, h3⟩ := h
  refine ⟨fun q hq => ?_, fun q hq => ?_, ?_⟩
  · rw [va_up_ne lv _ (show q ≠ n by omega)]
    by_cases e : q + 1 = n
    · rw [e, va_up_self]
      exact Nat.zero_le _
    · rw [va_up_ne lv _ e]
      exact h1 q (by omega)
  · rw [va_up_ne lv _ (show q ≠ n by omega), va_up_ne lv _ (show q + 3 ≠ n by omega)]
    exact h2 q hq
  · show wt (va_up lv n 0) n + 4 ^ va_up lv n 0 n ≤ cm
    rw [wt_congr (fun q hq => va_up_ne lv _ (show q ≠ n by omega)), va_up_self]
    show wt lv n + 1 ≤ cm
    omega
theorem lv_keep {lv : Nat → Nat} {n bf cm : Nat} (h : lvR lv n n bf) (hb : bf ≤ cm) : lvR lv n (n - 1) cm := ⟨h.1, fun q hq => h.2.1 q (by omega), Nat.le_trans h.2.2 hb⟩
theorem lv_alike {lv : Nat → Nat} {n : Nat} (h : rf4 lv n) : 4 ≤ n ∧ lv (n - 1) = lv (n - 4) ∧ lv (n - 2) = lv (n - 4) ∧ lv (n - 3) = lv (n - 4) := by
  obtain ⟨h1, h2, h3, h4⟩ := h
  exact ⟨h1, h4, by omega, by omega⟩
theorem wt4 {lv : Nat → Nat} {n : Nat} (h : rf4 lv n) : wt lv n = wt lv (n - 4) + 4 ^ (lv (n - 4) + 1) := by
  obtain ⟨h1, h2, h3, h4⟩ := lv_alike h
  obtain ⟨m, rfl⟩ : ∃ m, n = m + 4 := ⟨n - 4, by omega⟩
  have e1 : m + 4 - 4 = m := by omega
  have e2 : m + 4 - 1 = m + 3 := by omega
  have e3 : m + 4 - 2 = m + 2 := by omega
  have e4 : m + 4 - 3 = m + 1 := by omega
  rw [e1] at h2 h3 h4 ⊢
  rw [e2] at h2
  rw [e3] at h3
  rw [e4] at h4
  show wt lv m + 4 ^ lv m + 4 ^ lv (m + 1) + 4 ^ lv (m + 2) + 4 ^ lv (m + 3) = _
  rw [h2, h3, h4, Nat.pow_succ]
  omega
theorem lv_merge {lv : Nat → Nat} {n bf : Nat} (h : lvR lv n (n - 1) bf) (h4 : rf4 lv n) : lvR (va_up lv (n - 4) (lv (n - 4) + 1)) (n - 4 + 1) (n - 4) bf := by
  obtain ⟨h1, h2, h3⟩ := h
  obtain ⟨g1, g2, g3, g4⟩ := lv_alike h4
  refine ⟨fun q hq => ?_, fun q hq => ?_, ?_⟩
  · rw [va_up_ne lv _ (show q ≠ n - 4 by omega)]
    by_cases e : q + 1 = n - 4
    · rw [e, va_up_self]
      have := h2 q (by omega)
      rw [show q + 3 = n - 2 by omega, g3] at this
      omega
    · rw [va_up_ne lv _ e]
      exact h1 q (by omega)
  · rw [va_up_ne lv _ (show q ≠ n - 4 by omega), va_up_ne lv _ (show q + 3 ≠ n - 4 by omega)]
    exact h2 q (by omega)
  · show wt (va_up lv (n - 4) (lv (n - 4) + 1)) (n - 4) + 4 ^ va_up lv (n - 4) (lv (n - 4) + 1) (n - 4) ≤ bf
    rw [wt_congr (fun q hq => va_up_ne lv _ (show q ≠ n - 4 by omega)), va_up_self, ← wt4 h4]
    exact h3
theorem lv_cut {lv : Nat → Nat} {n bf : Nat} (h : lvR lv n (n - 1) bf) (h4 : rf4 lv n) : lvR lv (n - 4) (n - 4 - 1) bf := by
  obtain ⟨h1, h2, h3⟩ := h
  refine ⟨fun q hq => h1 q (by omega), fun q hq => h2 q (by omega), ?_⟩
  rw [wt4 h4] at h3
  exact Nat.le_trans (Nat.le_add_right _ _) h3
theorem lv_done {lv : Nat → Nat} {n bf : Nat} (h : lvR lv n (n - 1) bf) (h4 : ¬ rf4 lv n) : lvR lv n n bf := by
  obtain ⟨h1, h2, h3⟩ := h
  refine ⟨h1, fun q hq => ?_, h3⟩
  rcases Nat.lt_or_ge (q + 3) (n - 1) with w | w
  · exact h2 q w
  · have e : n = q + 4 := by omega
    subst e
    have a1 := h1 q (by omega)
    have a2 : lv (q + 2) ≤ lv (q + 1) := h1 (q + 1) (by omega)
    have a3 : lv (q + 3) ≤ lv (q + 2) := h1 (q + 2) (by omega)
    rcases Nat.lt_or_ge (lv (q + 3)) (lv q) with z | z
    · exact z
    · exfalso
      apply h4
      refine ⟨by omega, ?_, ?_, ?_⟩
      · show lv (q + 3) = lv (q + 2)
        omega
      · show lv (q + 3) = lv (q + 1)
        omega
      · show lv (q + 3) = lv q
        omega
theorem wt_max {lv : Nat → Nat} : ∀ {n : Nat}, 0 < n → 4 ^ lmax lv n ≤ wt lv n
  | 0, h => absurd h (Nat.lt_irrefl _)
  | n + 1, _ => by
    show 4 ^ (if lmax lv n < lv n then lv n else lmax lv n) ≤ wt lv n + 4 ^ lv n
    split
    · exact Nat.le_add_left _ _
    · next h =>
      rcases Nat.eq_zero_or_pos n with w | w
      · subst w
        have e : lmax lv 0 = 0 := rfl
        rw [e] at h ⊢
        have : lv 0 = 0 := by omega
        rw [this]
        exact Nat.le_add_left _ _
      · exact Nat.le_trans (wt_max w) (Nat.le_add_right _ _)
theorem lv_pack {lv : Nat → Nat} {n bf cm : Nat} (h : lvR lv n n bf) (hb : bf ≤ cm) (hc : 0 < cm) : lvR (va_up lv 0 (lmax lv n)) 1 1 cm := by
  refine ⟨fun q hq => by omega, fun q hq => by omega, ?_⟩
  show 0 + 4 ^ va_up lv 0 (lmax lv n) 0 ≤ cm
  rw [va_up_self]
  rcases Nat.eq_zero_or_pos n with w | w
  · subst w
    show 0 + 1 ≤ cm
    omega
  · have := wt_max (lv := lv) w
    have := h.2.2
    omega
theorem lv_none (lv : Nat → Nat) (cm : Nat) : lvR lv 0 0 cm := ⟨fun q hq => by omega, fun q hq => by omega, Nat.zero_le _⟩
theorem lmax_congr {lv lv' : Nat → Nat} : ∀ {n : Nat}, (∀ q, q < n → lv' q = lv q) → lmax lv' n = lmax lv n
  | 0, _ => rfl
  | n + 1, h => by
    show (if lmax lv' n < lv' n then lv' n else lmax lv' n) = (if lmax lv n < lv n then lv n else lmax lv n)
    rw [lmax_congr (fun q hq => h q (by omega)), h n (by omega)]
theorem rf4_congr {lv lv' : Nat → Nat} {n : Nat} (h : ∀ q, q < n → lv' q = lv q) : rf4 lv' n ↔ rf4 lv n := by
  unfold rf4
  constructor
  · rintro ⟨a, b, c, d⟩
    rw [h _ (by omega), h _ (by omega)] at b c d
    exact ⟨a, b, c, d⟩
  · rintro ⟨a, b, c, d⟩
    rw [h _ (by omega), h _ (by omega), h _ (by omega), h _ (by omega)]
    exact ⟨a, b, c, d⟩
/-! pure: the segments through a flush -/
/-- class and reference agree on documents and segments; m: as lvR -/
def SgR (sa tkn : Nat → Nat) (wh : Nat → Int) (lv : Nat → Nat) (cm bf hd m : Nat) (L : List sgc) (rd : Nat → Nat) (ru rl : Nat → Int32) : Prop :=
  dcR sa tkn wh cm bf L ∧ sgR L lv wh cm bf hd rd ru rl ∧ lvR lv L.length m bf ∧ bf ≤ cm ∧ (∀ i, lv i ≤ 5)
section SGR
variable {sa tkn : Nat → Nat} {wh : Nat → Int} {cm bf T m hd : Nat} {L L0 : List sgc} {ch : Nat → Nat} {ct : Nat → Int64} {st rd rs lv : Nat → Nat} {ru rl : Nat → Int32}
theorem SgR_lv (h : SgR sa tkn wh lv cm bf hd m L rd ru rl) : ∀ q, q < L.length → lvL L q = lv q := by
  intro q hq
  rw [lvL_at (List.getElem?_eq_getElem hq)]
  exact (h.2.1 q _ (List.getElem?_eq_getElem hq)).2.1
theorem SgR_fs (h : SgR sa tkn wh lv cm bf hd m L rd ru rl) : ∀ q, q < L.length → fsL L q ≤ bf := by
  intro q hq
  rw [fsL_at (List.getElem?_eq_getElem hq)]
  exact (h.2.1 q _ (List.getElem?_eq_getElem hq)).1
theorem SgR_wh (h : SgR sa tkn wh lv cm bf hd m L rd ru rl) (hL : L.length ≤ 64) : ∀ d, d < cm → -2 ≤ wh d ∧ wh d ≤ 1000 := fun d hd => by
  have := h.1 d hd
  omega
theorem SgR_tk (h : SgR sa tkn wh lv cm bf hd m L rd ru rl) : ∀ d, d < cm → tkn d ≤ 1 := fun d hd => (h.1 d hd).2.1
theorem cm_pos (h : SgR sa tkn wh lv cm bf hd m L rd ru rl) (hp : 0 < cnz wh (-1) cm) : bf < cm := by
  rw [cnz_cnP] at hp
  obtain ⟨d, a, b⟩ := cnP_pos_iff.mp hp
  have := (h.1 d a).2.2.2.1.mpr b
  have := (h.1 d a).2.2.2.2.2.2.2.1 this
  omega
/-- the buffer becomes a segment -/
theorem SgR_flush (htk : tkR ch ct st cm T rd rs ru rl) (h : SgR sa tkn wh lv cm bf (st cm) L.length L rd ru rl) {L' : List sgc}
    (hL : (cnP (fun k => bf ≤ k ∧ sa k ≤ 1) cm = 0 ∧ L' = L) ∨ (0 < cnP (fun k => bf ≤ k ∧ sa k ≤ 1) cm ∧ ∃ (q9 nt : Nat) (g9 : Nat → Int64), L' = L ++ [(q9, bf, 0, cnP (fun k => bf ≤ k ∧ sa k ≤ 1) cm, hp_dif g9 nt, nt)] ∧ ptK (fun i => sa (ch i / 2 ^ 14) ≤ 1) ct (st bf) (st cm) nt g9 ∧ ∀ i j, i ≤ j → j < nt → g9 i ≤ g9 j)) :
    ∃ (wh' : Nat → Int) (lv' : Nat → Nat), rfB wh lv L.length cm = (wh', lv', L'.length) ∧ SgR (ptS sa bf cm) tkn wh' lv' cm cm (st cm) (L'.length - 1) L' rd ru rl := by
  obtain ⟨h1, h2, h3, h4, h5⟩ := id h
  have hsel : ∀ d, d < cm → ((bf ≤ d ∧ sa d ≤ 1) ↔ wh d = -1) := by
    intro d hd
    obtain ⟨g1, g2, g3, g4, g5, g6, g7, g8, g9⟩ := h1 d hd
    constructor
    · rintro ⟨a, b⟩
      rcases Int.lt_or_le (wh d) 0 with w | w
      · omega
      · have := (g9 w).1
        omega
    · intro w
      have z := g4.mpr w
      exact ⟨g8 z, by omega⟩
  have hcn : cnP (fun k => bf ≤ k ∧ sa k ≤ 1) cm = cnz wh (-1) cm := by
    rw [cnz_cnP]
    exact cnP_congr hsel
  have hce : ∀ d, d < cm → 0 ≤ wh d → ((L.length : Int) ≤ wh d ↔ bf ≤ d) := by
    intro d hd w
    have g := h1 d hd
    have := (g.2.2.2.2.2.2.2.2 w).1
    have := g.2.2.2.2.2.2.1
    constructor
    · intro z; omega
    · intro z; omega
  have hc2 : ∀ d, d < cm → sa d = 0 → bf ≤ d := fun d hd => (h1 d hd).2.2.2.2.2.2.2.1
  have hLn : L ++ ([] : List sgc) = L := List.append_nil L
  rcases hL with ⟨c0, rfl⟩ | ⟨c0, q9, nt, g9, rfl, hk, hs⟩
  · have hm : mvd sa wh wh cm bf L'.length := by
      intro d hd
      refine ⟨fun a b => absurd ⟨a, b⟩ (cnP_0_iff.mp c0 d hd), fun a b => ?_, fun _ => rfl⟩
      obtain ⟨g1, g2, g3, g4, g5, g6, g7, g8, g9⟩ := h1 d hd
      rcases Int.lt_or_le (wh d) 0 with w | w
      · omega
      · have := (g9 w).1
        omega
    refine ⟨wh, lv, rfB_n (by rw [← hcn]; exact c0), ?_, ?_, lv_keep h3 h4, Nat.le_refl _, h5⟩
    · have := dcR_pt (M := []) (N := []) (by rw [hLn]; exact h1) (SgR_fs h) hm hce hc2 (Or.inl ⟨rfl, fun d hd a b => cnP_0_iff.mp c0 d hd ⟨a, b⟩⟩)
      rw [hLn] at this
      exact this
    · have := sgR_pt (M := []) (N := []) (lv' := lv) htk (by rw [hLn]; exact h1) (by rw [hLn]; exact h2) h4 hm hce h4 (fun _ _ => rfl) (Or.inl rfl)
      rw [hLn] at this
      exact this
  · have hp : 0 < cnz wh (-1) cm := by rw [← hcn]; exact c0
    have hm : mvd sa wh (whB wh L.length cm) cm bf L.length := by
      intro d hd
      obtain ⟨g1, g2, g3, g4, g5, g6, g7, g8, g9⟩ := h1 d hd
      have hs := hsel d hd
      unfold whB
      refine ⟨fun a b => if_pos ⟨hd, hs.mp ⟨a, b⟩⟩, fun a b => ?_, fun a => if_neg (fun w => ?_)⟩
      · rcases Int.lt_or_le (wh d) 0 with w | w
        · omega
        · have := (g9 w).1
          omega
      · have := g4.mpr w.2
        have := g8 this
        omega
    have hl1 : (L ++ [(q9, bf, 0, cnP (fun k => bf ≤ k ∧ sa k ≤ 1) cm, hp_dif g9 nt, nt)]).length = L.length + 1 := by rw [List.length_append]; rfl
    refine ⟨whB wh L.length cm, va_up lv L.length 0, by rw [rfB_y hp, hl1], ?_, ?_, ?_, Nat.le_refl _, fun i => ?_⟩
    · exact dcR_pt (M := []) (by rw [hLn]; exact h1) (SgR_fs h) hm hce hc2 (Or.inr ⟨_, rfl, rfl⟩)
    · exact sgR_pt (M := []) htk (by rw [hLn]; exact h1) (by rw [hLn]; exact h2) h4 hm hce h4 (fun q hq => va_up_ne lv _ (by omega)) (Or.inr ⟨q9, 0, nt, g9, rfl, va_up_self _ _ _, hk, hs⟩)
    · rw [hl1]
      exact lv_add0 h3 (cm_pos h hp)
    · unfold va_up
      split
      · omega
      · exact h5 i
/-- the last four become one -/
theorem SgR_merge (htk : tkR ch ct st cm T rd rs ru rl) {M : List sgc} (hM : M.length = 4) (h : SgR sa tkn wh lv cm cm (st cm) ((L0 ++ M).length - 1) (L0 ++ M) rd ru rl) (h4 : rf4 lv (L0 ++ M).length) (hcm : cm ≤ 512) {L' : List sgc} {fi lw : Nat} (hfi : fi = fsL (L0 ++ M) L0.length) (hlw : lw = lv L0.length + 1)
    (hL : (cnP (fun k => fi ≤ k ∧ sa k ≤ 1) cm = 0 ∧ L' = L0) ∨ (0 < cnP (fun k => fi ≤ k ∧ sa k ≤ 1) cm ∧ ∃ (q9 nt : Nat) (g9 : Nat → Int64), L' = L0 ++ [(q9, fi, lw, cnP (fun k => fi ≤ k ∧ sa k ≤ 1) cm, hp_dif g9 nt, nt)] ∧ ptK (fun i => sa (ch i / 2 ^ 14) ≤ 1) ct (st fi) (st cm) nt g9 ∧ ∀ i j, i ≤ j → j < nt → g9 i ≤ g9 j)) :
    ∃ (wh' : Nat → Int) (lv' : Nat → Nat), rfM tkn cm (wh, lv, (L0 ++ M).length) = (wh', lv', L'.length) ∧ SgR (ptS sa fi cm) tkn wh' lv' cm cm (st cm) (L'.length - 1) L' rd ru rl := by
  obtain ⟨h1, h2, h3, -, h5⟩ := id h
  have hlen : (L0 ++ M).length = L0.length + 4 := by rw [List.length_append, hM]
  have hn4 : (L0 ++ M).length - 4 = L0.length := by omega
  have hno : ∀ d, d < cm → ¬ sa d = 0 := fun d hd w => by
    have := (h1 d hd).2.2.2.2.2.2.2.1 w
    omega
  have hce : ∀ d, d < cm → 0 ≤ wh d → ((L0.length : Int) ≤ wh d ↔ fi ≤ d) := by
    intro d hd w
    rw [hfi]
    exact ((h1 d hd).2.2.2.2.2.2.2.2 w).2 L0.length (by omega)
  have hc2 : ∀ d, d < cm → sa d = 0 → fi ≤ d := fun d hd w => absurd w (hno d hd)
  have hfc : fi ≤ cm := by
    rw [hfi]
    exact SgR_fs h _ (by omega)
  have hsel : ∀ d, d < cm → ((whP wh L0.length 0 d ∧ tkn d = 0) ↔ (fi ≤ d ∧ sa d ≤ 1)) := by
    intro d hd
    obtain ⟨g1, g2, g3, g4, g5, g6, g7, g8, g9⟩ := h1 d hd
    have hno := hno d hd
    have hce := hce d hd
    unfold whP
    constructor
    · rintro ⟨a | a, b⟩
      · exact ⟨(hce (by omega)).mp a, g3.mp b⟩
      · omega
    · rintro ⟨a, b⟩
      refine ⟨Or.inl ?_, g3.mpr b⟩
      have : 0 ≤ wh d := by omega
      exact (hce this).mpr a
  have hcn : rfn wh tkn L0.length 0 cm = cnP (fun k => fi ≤ k ∧ sa k ≤ 1) cm := cnP_congr hsel
  have hm : mvd sa wh (whG wh tkn L0.length 0 cm) cm fi L0.length := by
    intro d hd
    obtain ⟨g1, g2, g3, g4, g5, g6, g7, g8, g9⟩ := h1 d hd
    have hno := hno d hd
    have hce := hce d hd
    refine ⟨fun a b => ?_, fun a b => ?_, fun a => ?_⟩
    · have hw : 0 ≤ wh d := by omega
      exact (if_pos ⟨hd, Or.inl ((hce hw).mpr a)⟩).trans (if_pos (g3.mpr b))
    · have hw : 0 ≤ wh d := by omega
      exact (if_pos ⟨hd, Or.inl ((hce hw).mpr a)⟩).trans (if_neg (fun z => by have := g3.mp z; omega))
    · refine if_neg (fun w => ?_)
      rcases w.2 with z | z
      · have := (hce (by omega)).mp z
        rcases a with a | a
        · omega
        · have := g5.mp a
          omega
      · omega
  have hF : ∀ q, q < L0.length → fsL L0 q ≤ cm := fun q hq => by
    rw [← fsL_pre (M := M) hq]
    exact SgR_fs h q (by omega)
  rw [hn4.symm] at hcn
  rcases hL with ⟨c0, rfl⟩ | ⟨c0, q9, nt, g9, rfl, hk, hs⟩
  · have hLn : L' ++ ([] : List sgc) = L' := List.append_nil L'
    refine ⟨whG wh tkn L'.length 0 cm, lv, ?_, ?_, ?_, ?_, Nat.le_refl _, h5⟩
    · rw [rfM_0 (by rw [hcn]; exact c0), hn4]
    · have := dcR_pt (N := []) h1 hF hm hce hc2 (Or.inl ⟨rfl, fun d hd a b => cnP_0_iff.mp c0 d hd ⟨a, b⟩⟩)
      rw [hLn] at this
      exact this
    · have := sgR_pt (N := []) (lv' := lv) htk h1 h2 (Nat.le_refl _) hm hce hfc (fun _ _ => rfl) (Or.inl rfl)
      rw [hLn] at this
      exact this
    · have := lv_cut h3 h4
      rw [hn4] at this
      exact this
  · have hl1 : (L0 ++ [(q9, fi, lw, cnP (fun k => fi ≤ k ∧ sa k ≤ 1) cm, hp_dif g9 nt, nt)]).length = L0.length + 1 := by rw [List.length_append]; rfl
    refine ⟨whG wh tkn L0.length 0 cm, va_up lv L0.length lw, ?_, ?_, ?_, ?_, Nat.le_refl _, fun i => ?_⟩
    · rw [rfM_1 (by rw [hcn]; exact c0), hn4, hl1, hlw]
    · exact dcR_pt h1 hF hm hce hc2 (Or.inr ⟨_, rfl, rfl⟩)
    · exact sgR_pt htk h1 h2 (Nat.le_refl _) hm hce hfc (fun q hq => va_up_ne lv _ (by omega)) (Or.inr ⟨q9, lw, nt, g9, rfl, va_up_self _ _ _, hk, hs⟩)
    · rw [hl1, hlw]
      have := lv_merge h3 h4
      rw [hn4] at this
      exact this
    · unfold va_up
      split
      · have := lv_le4 (lv := lv) (n := (L0 ++ M).length) (q := L0.length) (by omega) (Nat.le_trans h3.2.2 hcm)
        omega
      · exact h5 i
/-- all become one -/
theorem SgR_pack (htk : tkR ch ct st cm T rd rs ru rl) (h : SgR sa tkn wh lv cm bf (st cm) L.length L rd ru rl) {L' : List sgc} {lw : Nat} (hlw : lw = lmax lv L.length)
    (hL : (cnP (fun k => 0 ≤ k ∧ sa k ≤ 1) cm = 0 ∧ L' = []) ∨ (0 < cnP (fun k => 0 ≤ k ∧ sa k ≤ 1) cm ∧ ∃ (q9 nt : Nat) (g9 : Nat → Int64), L' = [] ++ [(q9, 0, lw, cnP (fun k => 0 ≤ k ∧ sa k ≤ 1) cm, hp_dif g9 nt, nt)] ∧ ptK (fun i => sa (ch i / 2 ^ 14) ≤ 1) ct (st 0) (st cm) nt g9 ∧ ∀ i j, i ≤ j → j < nt → g9 i ≤ g9 j)) :
    cnP (fun k => 0 ≤ k ∧ sa k ≤ 1) cm = rfn wh tkn 0 1 cm ∧ L'.length = bN (0 < rfn wh tkn 0 1 cm) ∧ SgR (ptS sa 0 cm) tkn (whG wh tkn 0 1 cm) (va_up lv 0 lw) cm cm (st cm) L'.length L' rd ru rl := by
  obtain ⟨h1, h2, h3, h4, h5⟩ := id h
  have hsel : ∀ d, d < cm → ((0 ≤ d ∧ sa d ≤ 1) ↔ (whP wh 0 1 d ∧ tkn d = 0)) := by
    intro d hd
    obtain ⟨g1, g2, g3, g4, g5, g6, g7, g8, g9⟩ := h1 d hd
    unfold whP
    constructor
    · rintro ⟨a, b⟩
      refine ⟨?_, g3.mpr b⟩
      rcases Int.lt_or_le (wh d) 0 with w | w
      · exact Or.inr ⟨rfl, by omega⟩
      · exact Or.inl (by omega)
    · rintro ⟨a, b⟩
      exact ⟨Nat.zero_le _, g3.mp b⟩
  have hcn : cnP (fun k => 0 ≤ k ∧ sa k ≤ 1) cm = rfn wh tkn 0 1 cm := cnP_congr hsel
  have hce : ∀ d, d < cm → 0 ≤ wh d → ((([] : List sgc).length : Int) ≤ wh d ↔ 0 ≤ d) := fun d hd w => ⟨fun _ => Nat.zero_le _, fun _ => w⟩
  have hm : mvd sa wh (whG wh tkn 0 1 cm) cm 0 ([] : List sgc).length := by
    intro d hd
    obtain ⟨g1, g2, g3, g4, g5, g6, g7, g8, g9⟩ := h1 d hd
    have hP : ¬ sa d = 3 → whP wh 0 1 d := by
      intro w
      rcases Int.lt_or_le (wh d) 0 with z | z
      · exact Or.inr ⟨rfl, by omega⟩
      · exact Or.inl (by omega)
    refine ⟨fun a b => ?_, fun a b => ?_, fun a => ?_⟩
    · exact (if_pos ⟨hd, hP (by omega)⟩).trans (if_pos (g3.mpr b))
    · exact (if_pos ⟨hd, hP (by omega)⟩).trans (if_neg (fun z => by have := g3.mp z; omega))
    · refine if_neg (fun w => ?_)
      have e := g5.mp (by omega)
      rcases w.2 with z | z
      · omega
      · omega
  refine ⟨hcn, ?_⟩
  have hbd : ∀ i, va_up lv 0 lw i ≤ 5 := by
    intro i
    unfold va_up
    split
    · rw [hlw]
      exact lmax_le (fun j _ => h5 j)
    · exact h5 i
  rcases hL with ⟨c0, rfl⟩ | ⟨c0, q9, nt, g9, rfl, hk, hs⟩
  · refine ⟨by rw [bN_f (by rw [← hcn]; omega)]; rfl, ?_, ?_, lv_none _ _, Nat.le_refl _, hbd⟩
    · exact dcR_pt (L0 := []) (N := []) h1 (fun q hq => absurd hq (Nat.not_lt_zero _)) hm hce (fun _ _ _ => Nat.zero_le _) (Or.inl ⟨rfl, fun d hd a b => cnP_0_iff.mp c0 d hd ⟨a, b⟩⟩)
    · exact sgR_pt (L0 := []) (N := []) (lv' := va_up lv 0 lw) htk h1 h2 h4 hm hce (Nat.zero_le _) (fun q hq => absurd hq (Nat.not_lt_zero _)) (Or.inl rfl)
  · have hc0 : 0 < cm := by
      obtain ⟨d, a, _⟩ := cnP_pos_iff.mp c0
      omega
    refine ⟨by rw [bN_t (by rw [← hcn]; exact c0)]; rfl, ?_, ?_, ?_, Nat.le_refl _, hbd⟩
    · exact dcR_pt (L0 := []) h1 (fun q hq => absurd hq (Nat.not_lt_zero _)) hm hce (fun _ _ _ => Nat.zero_le _) (Or.inr ⟨_, rfl, rfl⟩)
    · exact sgR_pt (L0 := []) htk h1 h2 h4 hm hce (Nat.zero_le _) (fun q hq => absurd hq (Nat.not_lt_zero _)) (Or.inr ⟨q9, lw, nt, g9, rfl, va_up_self _ _ _, hk, hs⟩)
    · rw [hlw]
      exact lv_pack h3 h4 hc0
end SGR
/-! pure: take, add, and what is counted -/
section TA
variable {sa tkn : Nat → Nat} {wh : Nat → Int} {cm bf T hd : Nat} {L : List sgc} {ch : Nat → Nat} {ct : Nat → Int64} {st rd rs lv : Nat → Nat} {ru rl : Nat → Int32}
/-- segments of the reference don't see a document that goes from the buffer -/
theorem whT_q {d e : Nat} {q : Nat} (hq : wh d = -1 ∨ True) : whT wh d e = (q : Int) ↔ wh e = (q : Int) := by
  unfold whT
  split
  · next w =>
    unfold va_up
    split
    · next z =>
      subst z
      constructor
      · intro y; omega
      · intro y; omega
    · exact Iff.rfl
  · exact Iff.rfl
theorem sgR_wh {wh' : Nat → Int} {cm' hd' bf' : Nat} {rd' : Nat → Nat} {ru' rl' : Nat → Int32} (h : sgR L lv wh cm bf hd rd ru rl) (hb : bf ≤ bf') (h1 : ∀ q, q < L.length → cnz wh' (q : Int) cm' = cnz wh (q : Int) cm) (h2 : ∀ q, q < L.length → tmC rd' ru' rl' wh' q hd' = tmC rd ru rl wh q hd) (h3 : ∀ q, q < L.length → cnP (fun i => wh' (rd' i) = (q : Int)) hd' = cnP (fun i => wh (rd i) = (q : Int)) hd) : sgR L lv wh' cm' bf' hd' rd' ru' rl' := by
  intro q s hs
  have hq := (List.getElem?_eq_some_iff.mp hs).1
  obtain ⟨a, b, c, d, e⟩ := h q s hs
  exact ⟨by omega, b, by rw [h1 q hq]; exact c, by rw [h2 q hq]; exact d, by rw [h3 q hq]; exact e⟩
theorem SgR_take (h : SgR sa tkn wh lv cm bf hd L.length L rd ru rl) {d : Nat} (hdc : d < cm) (hs : sa d ≤ 1) {v : Nat} (hv : (sa d = 0 ∧ v = 3) ∨ (sa d = 1 ∧ v = 2)) : SgR (va_up sa d v) (va_up tkn d 1) (whT wh d) lv cm bf hd L.length L rd ru rl := by
  obtain ⟨h1, h2, h3, h4, h5⟩ := h
  refine ⟨fun e he => ?_, sgR_wh h2 (Nat.le_refl _) (fun q hq => cnz_congr fun e he => whT_q (Or.inr trivial)) (fun q hq => tmC_congr fun i hi => whT_q (Or.inr trivial)) (fun q hq => cnP_congr fun i hi => whT_q (Or.inr trivial)), h3, h4, h5⟩
  obtain ⟨g1, g2, g3, g4, g5, g6, g7, g8, g9⟩ := h1 e he
  by_cases z : e = d
  · subst z
    rw [va_up_self, va_up_self]
    unfold whT
    rcases hv with ⟨a, rfl⟩ | ⟨a, rfl⟩
    · have w := g4.mp a
      rw [if_pos w, va_up_self]
      exact ⟨by decide, by decide, ⟨fun y => by omega, fun y => by omega⟩, ⟨fun y => by omega, fun y => by omega⟩, ⟨fun _ => rfl, fun _ => rfl⟩, by omega, by omega, fun y => by omega, fun y => by omega⟩
    · have w : ¬ wh e = -1 := fun y => by have := g4.mpr y; omega
      rw [if_neg w]
      exact ⟨by decide, by decide, ⟨fun y => by omega, fun y => by omega⟩, ⟨fun y => by omega, fun y => absurd y w⟩, ⟨fun y => by omega, fun y => by have := g5.mpr y; omega⟩, g6, g7, fun y => by omega, g9⟩
  · rw [va_up_ne sa _ z, va_up_ne tkn _ z]
    have e2 : whT wh d e = wh e := by
      unfold whT
      split
      · exact va_up_ne wh _ z
      · rfl
    rw [e2]
    exact ⟨g1, g2, g3, g4, g5, g6, g7, g8, g9⟩
/-- a document comes into the buffer -/
theorem SgR_add (htk : tkR ch ct st cm T rd rs ru rl) (h : SgR sa tkn wh lv cm bf (st cm) L.length L rd ru rl) (ht0 : tkn cm = 0) : SgR (va_up sa cm 0) tkn (va_up wh cm (-1)) lv (cm + 1) bf T L.length L rd ru rl := by
  obtain ⟨h1, h2, h3, h4, h5⟩ := h
  have hrd := htk.2.2.2.2.2.2.2.1
  have hrc := htk.2.2.2.2.2.2.2.2.1
  have at1 : ∀ i, i < st cm → va_up wh cm (-1) (rd i) = wh (rd i) := fun i hi => va_up_ne wh _ (by have := hrd i hi; omega)
  have at2 : ∀ i, st cm ≤ i → i < T → va_up wh cm (-1) (rd i) = -1 := fun i a b => by rw [hrc i a b, va_up_self]
  refine ⟨fun d hd => ?_, sgR_wh h2 (Nat.le_refl _) (fun q hq => ?_) (fun q hq => ?_) (fun q hq => ?_), h3, by omega, h5⟩
  · by_cases z : d = cm
    · subst z
      rw [va_up_self, va_up_self]
      exact ⟨by decide, by omega, ⟨fun _ => by omega, fun _ => ht0⟩, ⟨fun _ => rfl, fun _ => rfl⟩, ⟨fun y => by omega, fun y => by omega⟩, by omega, by omega, fun _ => h4, fun y => by omega⟩
    · rw [va_up_ne sa _ z, va_up_ne wh _ z]
      exact h1 d (by omega)
  · rw [cnz_n (by rw [va_up_self]; omega)]
    exact cnz_congr fun d hd => by rw [va_up_ne wh _ (by omega)]
  · obtain ⟨m, hm⟩ := Nat.le.dest htk.2.2.1
    unfold tmC
    rw [← hm, cnP_skip (a := st cm) (fun i a b w => ?_)]
    · show tmC rd ru rl (va_up wh cm (-1)) q (st cm) = tmC rd ru rl wh q (st cm)
      exact tmC_congr fun i hi => by rw [at1 i hi]
    · have := w.1
      rw [at2 i a (by omega)] at this
      omega
  · obtain ⟨m, hm⟩ := Nat.le.dest htk.2.2.1
    rw [← hm, cnP_skip (a := st cm) (fun i a b w => ?_)]
    · exact cnP_congr fun i hi => by rw [at1 i hi]
    · rw [at2 i a (by omega)] at w
      omega
/-- a token comes into the hand -/
theorem SgR_tok {x : Nat} {a b : Int32} (h : SgR sa tkn wh lv cm bf hd L.length L rd ru rl) (hT : hd ≤ T) : SgR sa tkn wh lv cm bf hd L.length L (va_up rd T x) (upd ru T a) (upd rl T b) := by
  obtain ⟨h1, h2, h3, h4, h5⟩ := h
  refine ⟨h1, sgR_wh h2 (Nat.le_refl _) (fun q hq => rfl) (fun q hq => ?_) (fun q hq => ?_), h3, h4, h5⟩
  · refine cnP_congr fun i hi => ?_
    have e1 : ∀ k, k < hd → va_up rd T x k = rd k := fun k hk => va_up_ne rd _ (by omega)
    have e2 : ∀ k, k < hd → upd ru T a k = ru k := fun k hk => if_neg (by omega)
    have e3 : ∀ k, k < hd → upd rl T b k = rl k := fun k hk => if_neg (by omega)
    rw [e1 i hi, e2 i hi, e3 i hi]
    refine and_congr_right fun _ => forall_congr' fun k => forall_congr' fun hk => ?_
    rw [e1 k (by omega), e2 k (by omega), e3 k (by omega)]
  · exact cnP_congr fun i hi => by rw [va_up_ne rd _ (by omega)]
/-- what is counted by states -/
theorem cn_add {P Q R : Nat → Prop} : ∀ {n : Nat}, (∀ i, i < n → (R i ↔ P i ∨ Q i) ∧ ¬ (P i ∧ Q i)) → cnP P n + cnP Q n = cnP R n
  | 0, _ => rfl
  | n + 1, h => by
    have ih := cn_add (P := P) (Q := Q) (R := R) (n := n) (fun i hi => h i (by omega))
    obtain ⟨a, b⟩ := h n (by omega)
    show cnP P n + bN (P n) + (cnP Q n + bN (Q n)) = cnP R n + bN (R n)
    by_cases p : P n
    · rw [bN_t p, bN_f (fun q => b ⟨p, q⟩), bN_t (a.mpr (Or.inl p))]
      omega
    · by_cases q : Q n
      · rw [bN_f p, bN_t q, bN_t (a.mpr (Or.inr q))]
        omega
      · rw [bN_f p, bN_f q, bN_f (fun r => (a.mp r).elim p q)]
        omega
theorem cnt_0 {is : Nat → Nat} (h : dcR sa tkn wh cm bf L) (hi : isC is sa cm) : is 0 + is 1 = cnP (fun d => tkn d = 0) cm := by
  rw [hi 0 (by decide), hi 1 (by decide)]
  refine cn_add fun d hd => ?_
  have g := h d hd
  rw [g.2.2.1]
  constructor
  · constructor
    · intro w; omega
    · intro w; omega
  · intro w; omega
theorem cnt_2 {is : Nat → Nat} (h : dcR sa tkn wh cm bf L) (hi : isC is sa cm) : is 0 = cnz wh (-1) cm := by
  rw [hi 0 (by decide), cnz_cnP]
  exact cnP_congr fun d hd => (h d hd).2.2.2.1
theorem cnt_7 {is : Nat → Nat} (h : dcR sa tkn wh cm bf L) (hi : isC is sa cm) : is 2 = cnP (fun d => tkn d = 1 ∧ ¬ wh d = -2) cm := by
  rw [hi 2 (by decide)]
  refine cnP_congr fun d hd => ?_
  obtain ⟨g1, g2, g3, g4, g5, g6, g7, g8, g9⟩ := h d hd
  constructor
  · intro w
    refine ⟨?_, fun y => ?_⟩
    · rcases Nat.eq_zero_or_pos (tkn d) with z | z
      · have := g3.mp z
        omega
      · omega
    · have := g5.mpr y
      omega
  · rintro ⟨a, b⟩
    have : ¬ sa d ≤ 1 := fun w => by have := g3.mpr w; omega
    have : ¬ sa d = 3 := fun w => b (g5.mp w)
    omega
theorem isC_add {is : Nat → Nat} (hi : isC is sa cm) : isC (va_up is 0 (is 0 + 1)) (va_up sa cm 0) (cm + 1) := by
  intro x hx
  show _ = cnP (fun k => va_up sa cm 0 k = x) cm + bN (va_up sa cm 0 cm = x)
  rw [va_up_self, cnP_congr (Q := fun k => sa k = x) (fun i hi => by rw [va_up_ne sa _ (by omega)]), ← hi x hx]
  by_cases z : x = 0
  · subst z
    rw [va_up_self, bN_t rfl]
  · rw [va_up_ne is _ z, bN_f (fun w => z w.symm)]
    rfl
end TA

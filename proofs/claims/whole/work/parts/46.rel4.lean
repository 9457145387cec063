/-! pure: one call of class and reference, for the law -/
theorem i_nat {x : Int32} {N : Nat} (hN : N < 2 ^ 31) (h1 : ¬ x < 0) (h2 : ¬ nI N ≤ x) : ∃ k, k < N ∧ x = nI k := by
  have e0 : (0 : Int32).toInt = 0 := rfl
  have eN : (nI N).toInt = N := by
    rw [nI_zI]
    exact zI_int (by omega) (by omega)
  rw [Int32.lt_iff_toInt_lt, e0] at h1
  rw [Int32.le_iff_toInt_le, eN] at h2
  refine ⟨x.toInt.toNat, by omega, ?_⟩
  apply Int32.toInt_inj.mp
  rw [nI_zI, zI_int (by omega) (by omega)]
  omega
theorem lt_succ {x : Int32} {N : Nat} (hN : N + 1 < 2 ^ 31) : nI N < x ↔ nI (N + 1) ≤ x := by
  have e1 : (nI N).toInt = N := by
    rw [nI_zI]
    exact zI_int (by omega) (by omega)
  have e2 : (nI (N + 1)).toInt = (N + 1 : Nat) := by
    rw [nI_zI]
    exact zI_int (by omega) (by omega)
  rw [Int32.lt_iff_toInt_lt, Int32.le_iff_toInt_le, e1, e2]
  omega
theorem nI_inj {a b : Nat} (ha : a < 2 ^ 31) (hb : b < 2 ^ 31) (h : nI a = nI b) : a = b := by
  rw [nI_zI, nI_zI, zI_eq (by omega) (by omega) (by omega) (by omega)] at h
  omega
theorem and15 (x : Int32) : ∃ k, k < 16 ∧ x &&& nI 15 = nI k := by
  refine ⟨(x &&& nI 15).toBitVec.toNat, ?_, ?_⟩
  · rw [Int32.toBitVec_and, BitVec.toNat_and]
    have : (nI 15).toBitVec.toNat = 15 := by decide
    rw [this]
    exact Nat.lt_of_le_of_lt Nat.and_le_right (by decide)
  · apply Int32.toBitVec_inj.1
    show _ = BitVec.ofNat 32 _
    rw [BitVec.ofNat_toNat, BitVec.setWidth_eq]
section KEY
variable {ch : Nat → Nat} {ct : Nat → Int64} {st : Nat → Nat} {cm T : Nat} {rd rs : Nat → Nat} {ru rl : Nat → Int32} {sa tkn : Nat → Nat} {za : Nat → Nat} {ga : Nat → Nat → Nat} {ht : Nat} {rh sz : Nat → Nat} {z' zm' : Nat} {g' rhm' : Nat → Nat}
theorem tk_mem (htk : tkR ch ct st cm T rd rs ru rl) {S : Nat → Prop} {v : Nat} (h : ∃ i, i < st cm ∧ S i ∧ ch i = v) : st_mem (st cm) ch v := by
  obtain ⟨i, a, _, b⟩ := h
  exact ⟨i, a, b⟩
theorem k_term (htk : tkR ch ct st cm T rd rs ru rl) (hts : ∀ d, d < cm → (tkn d = 0 ↔ sa d ≤ 1)) (hse : seR za ga ht rh sz ch (st cm)) (hT : st cm ≤ 520) {n : Nat} (hn : n ≤ 8) {a b fs : Int32}
    (h1 : st_gt ch (fun i => sa (ch i / 2 ^ 14) ≤ 1 ∧ ct i &&& mkL n = tmL a b &&& mkL n ∧ fbit fs (ch i)) (st cm) z' g')
    (h2 : rf_fill rh rhm' ht zm' (fun v => ∃ i9, i9 < st cm ∧ (tkn (rd i9) = 0 ∧ rbit fs (rs i9) ∧ ∀ k9, k9 < n → byA (ru i9) (rl i9) k9 = byA a b k9) ∧ 16384 * rd i9 + rs i9 = v)) {za' : Nat → Nat} {ga' : Nat → Nat → Nat} (e1 : za' ht = z') (e2 : ga' ht = g') (e3 : ∀ j, j < ht → za' j = za j ∧ ga' j = ga j) : z' = zm' ∧ seR za' ga' (ht + 1) rhm' (va_up sz ht zm') ch (st cm) :=
  seR_put (q := ht) hse rfl (Nat.le_refl _) h1.1 h1.2 h2.1 h2.2.1 (fun v => tkR_sel htk hts hn v) (fun v hv => tk_mem htk hv) hT e1 e2 (va_up_self _ _ _) (fun j hj => ⟨(e3 j hj).1, (e3 j hj).2, va_up_ne sz _ (by omega)⟩) (fun j hj => h2.2.2 j (Or.inl hj))
theorem k_follow (htk : tkR ch ct st cm T rd rs ru rl) (hts : ∀ d, d < cm → (tkn d = 0 ↔ sa d ≤ 1)) (hse : seR za ga ht rh sz ch (st cm)) (hT : st cm ≤ 520) (h0 : 0 < ht) (h8 : ht ≤ 8) {n : Nat} (hn : 1 ≤ n) {a b : Int32}
    (h1 : st_inc z' g') (h2 : ∀ v, st_mem z' g' v ↔ (∃ i, i < st cm ∧ (sa (ch i / 2 ^ 14) ≤ 1 ∧ ct i &&& mkL 8 = tmL a b &&& mkL 8 ∧ fbit (nI 15) (ch i)) ∧ ch i = v) ∧ (∃ k, k < za (ht - 1) ∧ ga (ht - 1) k / 2 ^ 12 = v / 2 ^ 12 ∧ (-(n : Int)) ≤ ((ga (ht - 1) k : Nat) : Int) - v ∧ ((ga (ht - 1) k : Nat) : Int) - v ≤ (-(n : Int))))
    (h3 : st_inc zm' (rw_ rhm' (ht - 1))) (h4 : ∀ v, st_mem zm' (rw_ rhm' (ht - 1)) v ↔ (fun v => ∃ i9, i9 < st cm ∧ (tkn (rd i9) = 0 ∧ (∀ k9, k9 < 8 → byA (ru i9) (rl i9) k9 = byA a b k9) ∧ n ≤ rs i9 % 4096 ∧ st_mem (sz (ht - 1)) (rw_ rh (ht - 1)) (16384 * rd i9 + rs i9 - n)) ∧ 16384 * rd i9 + rs i9 = v) v)
    (h5 : ∀ j, j < 4160 → (j < 520 * (ht - 1) ∨ 520 * (ht - 1) + 520 ≤ j) → rhm' j = rh j)
    {za' : Nat → Nat} {ga' : Nat → Nat → Nat} (e1 : za' (ht - 1) = z') (e2 : ga' (ht - 1) = g') (e3 : ∀ j, j < ht - 1 → za' j = za j ∧ ga' j = ga j) : z' = zm' ∧ seR za' ga' (ht - 1 + 1) rhm' (va_up (va_up sz 8 zm') (ht - 1) zm') ch (st cm) := by
  refine seR_put (q := ht - 1) hse rfl (by omega) h1 h2 h3 h4 (fun v => ?_) (fun v hv => tk_mem htk hv.1) hT e1 e2 (va_up_self _ _ _) (fun j hj => ⟨(e3 j hj).1, (e3 j hj).2, by rw [va_up_ne _ _ (by omega), va_up_ne _ _ (by omega)]⟩) (fun j hj => h5 j (by omega) (Or.inl hj))
  rw [fol_iff (seR_mem hse (show ht - 1 < ht by omega)) hn, tkR_sel htk hts (Nat.le_refl 8) v]
  constructor
  · rintro ⟨⟨i, a1, ⟨a2, a3, a4⟩, a5⟩, a6, a7⟩
    have hrs := htk.2.2.2.2.2.2.1 i (Nat.lt_of_lt_of_le a1 htk.2.2.1)
    subst a5
    exact ⟨i, a1, ⟨a2, a4, by omega, a7⟩, rfl⟩
  · rintro ⟨i, a1, ⟨a2, a4, a6, a7⟩, a5⟩
    have hrs := htk.2.2.2.2.2.2.1 i (Nat.lt_of_lt_of_le a1 htk.2.2.1)
    subst a5
    exact ⟨⟨i, a1, ⟨a2, (bit_iff (d := rd i) hrs).mp bit_15, a4⟩, rfl⟩, by omega, a7⟩
theorem k_join (hse : seR za ga ht rh sz ch T) (hT : T ≤ 520) (h0 : 2 ≤ ht) (h8 : ht ≤ 8) {hw : Nat} {M : Nat → Prop} (hM : ∀ v, M v ↔ jnM2 rh sz ht hw (sz (ht - 1)) v)
    (h1 : st_inc z' g') (h2 : ∀ v, st_mem z' g' v ↔ M v)
    (h3 : st_inc zm' (rw_ rhm' (ht - 2))) (h4 : ∀ v, st_mem zm' (rw_ rhm' (ht - 2)) v ↔ jnM2 rh sz ht hw (sz (ht - 1)) v)
    (h5 : ∀ j, j < 4160 → (j < 520 * (ht - 2) ∨ 520 * (ht - 2) + 520 ≤ j) → rhm' j = rh j)
    {za' : Nat → Nat} {ga' : Nat → Nat → Nat} (e1 : za' (ht - 2) = z') (e2 : ga' (ht - 2) = g') (e3 : ∀ j, j < ht - 2 → za' j = za j ∧ ga' j = ga j) : z' = zm' ∧ seR za' ga' (ht - 2 + 1) rhm' (va_up (va_up sz 8 zm') (ht - 2) zm') ch T := by
  refine seR_put (q := ht - 2) hse rfl (by omega) h1 h2 h3 h4 hM (fun v hv => ?_) hT e1 e2 (va_up_self _ _ _) (fun j hj => ⟨(e3 j hj).1, (e3 j hj).2, by rw [va_up_ne _ _ (by omega), va_up_ne _ _ (by omega)]⟩) (fun j hj => h5 j (by omega) (Or.inl hj))
  rcases jnM2_mem (Nat.le_refl _) ((hM v).mp hv) with w | w
  · exact (hse (ht - 2) (by omega)).2.2.2 v w
  · exact (hse (ht - 1) (by omega)).2.2.2 v w
theorem k_hit (hse : seR za ga ht rh sz ch T) (h0 : 0 < ht) {k : Nat} (hk : k < za (ht - 1)) : ga (ht - 1) k = rh (520 * (ht - 1) + k) := (hse (ht - 1) (by omega)).2.2.1 k (by rw [← (hse (ht - 1) (by omega)).1]; exact hk)
theorem k_cnt (hse : seR za ga ht rh sz ch T) (h0 : 0 < ht) (d : Nat) : cnP (fun j => ga (ht - 1) j / 2 ^ 14 = d) (za (ht - 1)) = rcnt rh sz (ht - 1) d := by
  unfold rcnt
  rw [(hse (ht - 1) (by omega)).1]
  exact cnP_congr fun i hi => by rw [(hse (ht - 1) (by omega)).2.2.1 i hi]
theorem k_mono (hse : seR za ga ht rh sz ch T) (h0 : 0 < ht) : ∀ i j, i ≤ j → j < za (ht - 1) → ga (ht - 1) i / 2 ^ 14 ≤ ga (ht - 1) j / 2 ^ 14 := fun i j hij hj => Nat.div_le_div_right (st_le (seR_ginc hse (show ht - 1 < ht by omega)) hij hj)
theorem k_doc (htk : tkR ch ct st cm T rd rs ru rl) (hse : seR za ga ht rh sz ch (st cm)) (h0 : 0 < ht) : ∀ k, k < za (ht - 1) → ga (ht - 1) k / 2 ^ 14 < cm := by
  intro k hk
  obtain ⟨i, a, b⟩ := (hse (ht - 1) (by omega)).2.2.2 _ ((seR_mem hse (show ht - 1 < ht by omega) _).mp ⟨k, hk, rfl⟩)
  rw [← b]
  exact tkR_doc htk a
end KEY

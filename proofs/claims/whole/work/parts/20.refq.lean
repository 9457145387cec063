theorem cnP_congr {P Q : Nat → Prop} : ∀ {n : Nat}, (∀ i, i < n → (P i ↔ Q i)) → cnP P n = cnP Q n
  | 0, _ => rfl
  | n + 1, h => by
    show cnP P n + bN (P n) = cnP Q n + bN (Q n)
    rw [cnP_congr (fun i hi => h i (by omega)), bN_congr (h n (by omega))]
theorem cnt_same {rh gg sz : Nat → Nat} {q zz d : Nat} (h : ∀ j, (j < 520 * 8 ∨ 520 * 8 + 520 ≤ j) → gg j = rh j) (hq : q < 8) (hz : sz q ≤ 520) : cnP (fun j9 => gg (520 * q + j9) / 2 ^ 14 = d) ((va_up sz 8 zz) q) = cnP (fun j9 => rh (520 * q + j9) / 2 ^ 14 = d) (sz q) := by
  rw [va_up_ne sz _ (show q ≠ 8 by omega)]
  exact cnP_congr (fun i hi => by rw [h _ (by omega)])
/-- how many hits of a set of the reference are of a document -/
noncomputable def rcnt (rh sz : Nat → Nat) (q d : Nat) : Nat := cnP (fun j9 => rh (520 * q + j9) / 2 ^ 14 = d) (sz q)
theorem rcnt_le {rh sz : Nat → Nat} {q d : Nat} (h : sz q ≤ 520) : rcnt rh sz q d ≤ 520 := Nat.le_trans (cnP_le _ _) h
def rnear (rh sz : Nat → Nat) (q h : Nat) : Prop := ∃ e9 : Int, -10 ≤ e9 ∧ e9 ≤ 10 ∧ 0 ≤ ((h % 2 ^ 12 : Nat) : Int) + e9 ∧ ((h % 2 ^ 12 : Nat) : Int) + e9 ≤ 4095 ∧ st_mem (sz q) (rw_ rh q) (((h : Nat) : Int) + e9).toNat
def jnP1 (hw : Nat) (c : Nat) : Prop := hw = 1 ∨ (hw = 0 ∧ 0 < c) ∨ (hw = 2 ∧ c = 0)
def jnP2 (hw : Nat) (c : Nat) (near : Prop) : Prop := hw = 1 ∨ (hw = 0 ∧ 0 < c) ∨ (hw = 3 ∧ near)
theorem near_same {rh gg sz : Nat → Nat} {q zz h : Nat} (hf : ∀ j, (j < 520 * 8 ∨ 520 * 8 + 520 ≤ j) → gg j = rh j) (hq : q < 8) (hz : sz q ≤ 520) : (∃ e9 : Int, -10 ≤ e9 ∧ e9 ≤ 10 ∧ 0 ≤ ((h % 2 ^ 12 : Nat) : Int) + e9 ∧ ((h % 2 ^ 12 : Nat) : Int) + e9 ≤ 4095 ∧ st_mem ((va_up sz 8 zz) q) (rw_ gg q) (((h : Nat) : Int) + e9).toNat) ↔ rnear rh sz q h := by
  constructor
  · rintro ⟨e, a, b, d, f, g⟩
    exact ⟨e, a, b, d, f, (mem_same hf hq hz).mp g⟩
  · rintro ⟨e, a, b, d, f, g⟩
    exact ⟨e, a, b, d, f, (mem_same hf hq hz).mpr g⟩
/-- the sets that join puts together, in the reference's words -/
def jnM1 (rh sz : Nat → Nat) (sn hw k : Nat) (v : Nat) : Prop := ∃ i9, i9 < k ∧ jnP1 hw (rcnt rh sz (sn - 1) (rh (520 * (sn - 2) + i9) / 2 ^ 14)) ∧ rh (520 * (sn - 2) + i9) = v
def jnM2 (rh sz : Nat → Nat) (sn hw k : Nat) (v : Nat) : Prop := jnM1 rh sz sn hw (sz (sn - 2)) v ∨ ∃ i9, i9 < k ∧ jnP2 hw (rcnt rh sz (sn - 2) (rh (520 * (sn - 1) + i9) / 2 ^ 14)) (rnear rh sz (sn - 2) (rh (520 * (sn - 1) + i9))) ∧ rh (520 * (sn - 1) + i9) = v
theorem jn_card {rh gg : Nat → Nat} {z t : Nat} {T : Nat → Nat} {M : Nat → Prop} (h : rf_fill rh gg 8 z M) (hM : ∀ v, M v → st_mem t T v) : z ≤ t := st_card h.1 (fun v hv => hM v ((h.2.1 v).mp hv))
theorem jn_bd {rh gg : Nat → Nat} {z : Nat} {M : Nat → Prop} (h : rf_fill rh gg 8 z M) (hM : ∀ v, M v → v < 2 ^ 24) : ∀ k, k < z → gg (520 * 8 + k) < 2 ^ 24 := fun k hk => hM _ ((h.2.1 _).mp ⟨k, hk, rfl⟩)
theorem jnM1_mem {rh sz : Nat → Nat} {sn hw k v : Nat} (hk : k ≤ sz (sn - 2)) (h : jnM1 rh sz sn hw k v) : st_mem (sz (sn - 2)) (rw_ rh (sn - 2)) v := by
  obtain ⟨i, a, b, d⟩ := h
  exact ⟨i, by omega, d⟩
theorem jnM2_mem {rh sz : Nat → Nat} {sn hw k v : Nat} (hk : k ≤ sz (sn - 1)) (h : jnM2 rh sz sn hw k v) : st_mem (sz (sn - 2)) (rw_ rh (sn - 2)) v ∨ st_mem (sz (sn - 1)) (rw_ rh (sn - 1)) v := by
  rcases h with h | ⟨i, a, b, d⟩
  · exact Or.inl (jnM1_mem (Nat.le_refl _) h)
  · exact Or.inr ⟨i, by omega, d⟩
theorem jnM1_n {rh sz : Nat → Nat} {sn hw k : Nat} (h : ¬ jnP1 hw (rcnt rh sz (sn - 1) (rh (520 * (sn - 2) + k) / 2 ^ 14))) : ∀ v, jnM1 rh sz sn hw (k + 1) v ↔ jnM1 rh sz sn hw k v := sel_n (S := fun i9 => jnP1 hw (rcnt rh sz (sn - 1) (rh (520 * (sn - 2) + i9) / 2 ^ 14))) (f := fun i9 => rh (520 * (sn - 2) + i9)) h
theorem jnM1_y {rh sz : Nat → Nat} {sn hw k : Nat} (h : jnP1 hw (rcnt rh sz (sn - 1) (rh (520 * (sn - 2) + k) / 2 ^ 14))) : ∀ v, jnM1 rh sz sn hw (k + 1) v ↔ jnM1 rh sz sn hw k v ∨ v = rh (520 * (sn - 2) + k) := sel_y (S := fun i9 => jnP1 hw (rcnt rh sz (sn - 1) (rh (520 * (sn - 2) + i9) / 2 ^ 14))) (f := fun i9 => rh (520 * (sn - 2) + i9)) h
theorem jnM2_0 {rh sz : Nat → Nat} {sn hw : Nat} : ∀ v, jnM2 rh sz sn hw 0 v ↔ jnM1 rh sz sn hw (sz (sn - 2)) v := fun v => ⟨fun h => h.elim id (fun ⟨i, a, _⟩ => absurd a (Nat.not_lt_zero _)), Or.inl⟩
theorem jnM2_n {rh sz : Nat → Nat} {sn hw k : Nat} (h : ¬ jnP2 hw (rcnt rh sz (sn - 2) (rh (520 * (sn - 1) + k) / 2 ^ 14)) (rnear rh sz (sn - 2) (rh (520 * (sn - 1) + k)))) : ∀ v, jnM2 rh sz sn hw (k + 1) v ↔ jnM2 rh sz sn hw k v := fun v => by
  unfold jnM2
  rw [sel_n (S := fun i9 => jnP2 hw (rcnt rh sz (sn - 2) (rh (520 * (sn - 1) + i9) / 2 ^ 14)) (rnear rh sz (sn - 2) (rh (520 * (sn - 1) + i9)))) (f := fun i9 => rh (520 * (sn - 1) + i9)) h v]
theorem jnM2_y {rh sz : Nat → Nat} {sn hw k : Nat} (h : jnP2 hw (rcnt rh sz (sn - 2) (rh (520 * (sn - 1) + k) / 2 ^ 14)) (rnear rh sz (sn - 2) (rh (520 * (sn - 1) + k)))) : ∀ v, jnM2 rh sz sn hw (k + 1) v ↔ jnM2 rh sz sn hw k v ∨ v = rh (520 * (sn - 1) + k) := fun v => by
  unfold jnM2
  rw [sel_y (S := fun i9 => jnP2 hw (rcnt rh sz (sn - 2) (rh (520 * (sn - 1) + i9) / 2 ^ 14)) (rnear rh sz (sn - 2) (rh (520 * (sn - 1) + i9)))) (f := fun i9 => rh (520 * (sn - 1) + i9)) h v, or_assoc]
def hitW (y : Int32) (h : Nat) : Int32 := if y = 0 then nI (h / 2 ^ 14) else if y = nI 1 then nI (h / 2 ^ 12 % 2 ^ 2) else if y = nI 2 then nI (h % 2 ^ 12) else zI (-1)
noncomputable def rahead (rh sz : Nat → Nat) (q cm d : Nat) : Nat := cnP (fun e9 => rcnt rh sz q d < rcnt rh sz q e9 ∨ (rcnt rh sz q e9 = rcnt rh sz q d ∧ e9 < d)) cm

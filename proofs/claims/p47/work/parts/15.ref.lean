/-! ===== the reference: its numbers, sums and sets ===== -/
theorem sp_cmp_lt (x y : Int64) : (lg_cmp x y < 0) ↔ x.toInt < y.toInt := by
  unfold lg_cmp
  simp only [gt_iff_lt, Int64.lt_iff_toInt_lt, ← Int64.toInt_inj]
  have e1 : ((1 : Int32) < 0) = False := by decide
  have e2 : ((0 : Int32) < 0) = False := by decide
  have e3 : ((-1 : Int32) < 0) = True := by decide
  split
  · rw [e1]; simp; omega
  · split
    · rw [e2]; simp; omega
    · rw [e3]; simp; omega
theorem sp_cmp_gt (x y : Int64) : (0 < lg_cmp x y) ↔ y.toInt < x.toInt := by
  unfold lg_cmp
  simp only [gt_iff_lt, Int64.lt_iff_toInt_lt, ← Int64.toInt_inj]
  have e1 : ((0 : Int32) < 1) = True := by decide
  have e2 : ((0 : Int32) < 0) = False := by decide
  have e3 : ((0 : Int32) < -1) = False := by decide
  split
  · rw [e1]; simp; omega
  · split
    · rw [e2]; simp; omega
    · rw [e3]; simp; omega
section REF
variable {N : NT} {w : Nat → Nat} {a : Nat} {m : lt_m}
theorem sp_gone {P : Prop} [Decidable P] : (if P then (1 : Int32) else 0) = 0 ∨ (if P then (1 : Int32) else 0) = 1 := by
  split
  · exact Or.inr rfl
  · exact Or.inl rfl
theorem sp_i1 {t n : Nat} (ht : t < n) (hn : n < 2 ^ 30) : (if 0 ≤ (nI t).toInt ∧ (nI t).toInt < n then (1 : Int32) else 0) = 1 := by
  rw [nI_toInt (by omega), if_pos (by omega)]
theorem sp_i0 {x : Int32} {n : Nat} (hn : n < 2 ^ 30) (h : x < 0 ∨ nI n ≤ x) : (if 0 ≤ x.toInt ∧ x.toInt < n then (1 : Int32) else 0) = 0 := by
  rw [if_neg]
  rcases h with h | h
  · rw [Int32.lt_iff_toInt_lt, Int32.toInt_zero] at h; omega
  · rw [Int32.le_iff_toInt_le, nI_toInt (by omega)] at h; omega
theorem g2_ok : (0 : Int32) ≤ 2 ∧ (2 : Int32).toNatClampNeg < 626 := by decide
end REF

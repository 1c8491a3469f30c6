/-! ===== sign ===== -/
theorem by8 (y : Int32) : (vp_nar .byte (y.toInt8.toInt32)) &&& (255 : Int32) = y &&& (255 : Int32) := by
  have e : vp_nar .byte (y.toInt8.toInt32) = (y.toInt8.toInt32).toInt8.toInt32 := rfl
  rw [e]
  apply Int32.toBitVec_inj.mp
  apply BitVec.eq_of_getLsbD_eq
  intro i hi
  have h255 : (255 : Int32).toBitVec = BitVec.ofNat 32 255 := rfl
  rw [Int32.toBitVec_and, Int32.toBitVec_and, BitVec.getLsbD_and, BitVec.getLsbD_and, h255]
  by_cases c : i < 8
  · congr 1
    simp [c, Int8.toBitVec_toInt32, Int32.toBitVec_toInt8, BitVec.getLsbD_signExtend, hi]
    simp [BitVec.getElem_signExtend, c, hi]
  · have hz : (BitVec.ofNat 32 255).getLsbD i = false := by
      rw [BitVec.getLsbD_ofNat, Nat.testBit_lt_two_pow (Nat.lt_of_lt_of_le (by decide : 255 < 2 ^ 8) (Nat.pow_le_pow_right (by decide) (by omega)))]
      simp
    rw [hz, Bool.and_false, Bool.and_false]
def cn24 (k : Nat) : Int32 := if k < 4 then nI (24 - 8 * k) else -8
def cn3 (k : Nat) : Int32 := if k < 4 then nI (3 - k) else -1
theorem cn24_s {k : Nat} (h : k < 4) : cn24 k + (-8 : Int32) = cn24 (k + 1) := by
  have : ∀ k, k < 4 → cn24 k + (-8 : Int32) = cn24 (k + 1) := by decide +kernel
  exact this k h
theorem cn3_s {k : Nat} (h : k < 4) : cn3 k + (-1 : Int32) = cn3 (k + 1) := by
  have : ∀ k, k < 4 → cn3 k + (-1 : Int32) = cn3 (k + 1) := by decide +kernel
  exact this k h
theorem cn_m {k : Nat} (h : k < 4) : (8 : Int32) * cn3 k = cn24 k := by
  have : ∀ k, k < 4 → (8 : Int32) * cn3 k = cn24 k := by decide +kernel
  exact this k h
theorem cn_p {k : Nat} (h : k < 4) : ¬ cn24 k < 0 ∧ ¬ cn3 k < 0 := by
  have : ∀ k, k < 4 → ¬ cn24 k < 0 ∧ ¬ cn3 k < 0 := by decide +kernel
  exact this k h
def sgB (x : Int32) (k : Nat) : Nat := ((x >>> (cn24 k &&& 31)) &&& (255 : Int32)).toNatClampNeg
theorem sgB_e (x : Int32) (k : Nat) : sgB x k < 256 ∧ (x >>> (cn24 k &&& 31)) &&& (255 : Int32) = nI (sgB x k) := by
  obtain ⟨j, hj, e⟩ := pk_andE (x >>> (cn24 k &&& 31)) (m := (255 : Int32)) 8 (by decide)
  have h8 : (2 : Nat) ^ 8 = 256 := by decide
  have e2 : sgB x k = j := by unfold sgB; rw [e, nI_clamp (by omega)]
  rw [e2]
  exact ⟨by omega, e⟩
def sgC (x : Int32) (t : Nat) (m : lt_m) : Nat → lt_m
  | 0 => m
  | k + 1 => lm_i (lm_i (sgC x t m k) 3 (t + k) (nI (sgB x k))) 2 1 (nI (t + k + 1))
def sgM (x : Int32) (t : Nat) (m : lt_m) : Nat → lt_m
  | 0 => m
  | k + 1 => lm_i (lm_i (sgM x t m k) 711 12 (nI (t + k + 1))) 718 (t + k) (vp_nar .byte ((x >>> (cn24 k &&& 31)).toInt8.toInt32))
def sgT (x : Int32) (t : Nat) (tx : Nat → Nat) : Nat → Nat := fun j => if j < t then tx j else sgB x (j - t)
section TX
variable {dist wl : DT} {T : Nat} {S : ST} {m m' : lt_m} {vs : List Int32}
theorem sgC_p {x : Int32} {t : Nat} {tx : Nat → Nat} (h2 : m.1 2 1 = nI t) (h3 : ∀ j, j < t → m.1 3 j = nI (tx j)) : ∀ k, (sgC x t m k).1 2 1 = nI (t + k) ∧ (∀ j, j < t + k → (sgC x t m k).1 3 j = nI (sgT x t tx j)) ∧ (sgC x t m k).2 = m.2 ∧ ∀ b, b ≠ 2 → b ≠ 3 → (sgC x t m k).1 b = m.1 b := by
  intro k
  induction k with
  | zero => exact ⟨h2, fun j hj => by show m.1 3 j = _; unfold sgT; rw [if_pos (by omega)]; exact h3 j (by omega), rfl, fun _ _ _ => rfl⟩
  | succ k ih =>
    obtain ⟨i1, i2, i3, i4⟩ := ih
    refine ⟨lm_i_eq, fun j hj => ?_, i3, fun b b1 b2 => ?_⟩
    · show (lm_i (lm_i (sgC x t m k) 3 (t + k) (nI (sgB x k))) 2 1 (nI (t + k + 1))).1 3 j = _
      rw [lm_i_ne (by decide)]
      by_cases c : j = t + k
      · subst c
        rw [lm_i_eq]
        unfold sgT
        rw [if_neg (by omega), Nat.add_sub_cancel_left]
      · rw [lm_i_ns (by omega)]; exact i2 j (by omega)
    · show (lm_i (lm_i (sgC x t m k) 3 (t + k) (nI (sgB x k))) 2 1 (nI (t + k + 1))).1 b = _
      rw [lm_i_ne b1, lm_i_ne b2]; exact i4 b b1 b2
theorem sgM_p {x : Int32} {t : Nat} {tx : Nat → Nat} (h2 : m.1 711 12 = nI t) (h3 : ∀ j, j < t → m.1 718 j &&& 255 = nI (tx j)) : ∀ k, (sgM x t m k).1 711 12 = nI (t + k) ∧ (∀ j, j < t + k → (sgM x t m k).1 718 j &&& 255 = nI (sgT x t tx j)) ∧ (sgM x t m k).2 = m.2 ∧ ∀ b s, b ≠ 718 → ¬ (b = 711 ∧ s = 12) → (sgM x t m k).1 b s = m.1 b s := by
  intro k
  induction k with
  | zero => exact ⟨h2, fun j hj => by show m.1 718 j &&& 255 = _; unfold sgT; rw [if_pos (by omega)]; exact h3 j (by omega), rfl, fun _ _ _ _ => rfl⟩
  | succ k ih =>
    obtain ⟨i1, i2, i3, i4⟩ := ih
    refine ⟨?_, fun j hj => ?_, i3, fun b s b1 b2 => ?_⟩
    · show (lm_i (lm_i (sgM x t m k) 711 12 (nI (t + k + 1))) 718 (t + k) _).1 711 12 = _
      rw [lm_i_ne (by decide)]; exact lm_i_eq
    · show (lm_i (lm_i (sgM x t m k) 711 12 (nI (t + k + 1))) 718 (t + k) _).1 718 j &&& 255 = _
      by_cases c : j = t + k
      · subst c
        rw [lm_i_eq, by8, (sgB_e x k).2]
        unfold sgT
        rw [if_neg (by omega), Nat.add_sub_cancel_left]
      · rw [lm_i_ns (by omega), lm_i_ne (by decide)]; exact i2 j (by omega)
    · show (lm_i (lm_i (sgM x t m k) 711 12 (nI (t + k + 1))) 718 (t + k) _).1 b s = _
      rw [lm_i_ne b1, lm_i_ns b2]; exact i4 b s b1 b2
end TX

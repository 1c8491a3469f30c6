/-! ===== owed, next, busiest, can ===== -/
def paN (l : Nat) : Nat := if l = 0 then 1 else if l = 1 then 2 else if l = 2 then 10 else 0
def shN (v l : Nat) : Nat := if 3 ≤ l then 0 else (v + paN l - 1) / paN l
theorem paN_pos {l : Nat} (h : l < 3) : 1 ≤ paN l ∧ paN l ≤ 10 := by
  unfold paN
  split
  · omega
  · split
    · omega
    · split <;> omega
theorem shN_le {v l : Nat} : shN v l ≤ v + 9 := by
  unfold shN
  split
  · omega
  · have h := paN_pos (l := l) (by omega)
    have : (v + paN l - 1) / paN l ≤ v + paN l - 1 := Nat.div_le_self _ _
    omega
theorem shN_iff {v l f : Nat} (h : l < 3) : shN v l ≤ f ↔ v ≤ paN l * f := by
  have hp := paN_pos h
  unfold shN
  rw [if_neg (by omega), ← Nat.lt_succ_iff, Nat.div_lt_iff_lt_mul (by omega), Nat.succ_mul, Nat.mul_comm f]
  omega
theorem sp_m2 {a : Nat} (h : a < 2 ^ 31) : (nI a = (-2 : Int32)) = False := by
  apply eq_false
  intro q
  have := congrArg Int32.toInt q
  rw [nI_toInt h] at this
  have e : (-2 : Int32).toInt = -2 := by decide
  omega
theorem k107 (d : Nat) {l : Nat} (hl : l ≤ 3) (m : lt_m) : lt_ev (d + 1) 107 [.inl (nI l)] m = some (some (.inl (nI (paN l))), m) := by
  refine (E107 d _ m).trans ?_
  have h4 : l = 0 ∨ l = 1 ∨ l = 2 ∨ l = 3 := by omega
  rcases h4 with rfl | rfl | rfl | rfl
  · exact lt_sw_n (by simp) (by simp)
  · exact lt_sw_n (by simp) (by simp)
  · exact lt_sw_n (by simp) (by simp)
  · exact lt_sw_o (n := 3) rfl (by decide) (Or.inr (by decide))
theorem k106 (d : Nat) {v l : Nat} (hl : l ≤ 3) (hv : v < 2 ^ 30) (m : lt_m) : lt_ev (d + 2) 106 [.inl (nI v), .inl (nI l)] m = some (some (.inl (nI (shN v l))), m) := by
  refine (E106 (d + 1) _ _ m).trans ?_
  rw [k107 d hl, lt_cI_s]
  unfold shN
  by_cases h3 : 3 ≤ l
  · have : l = 3 := by omega
    subst this
    rw [if_neg (by decide), if_pos h3]; rfl
  · have hp := paN_pos (l := l) (by omega)
    have hne : ¬ nI (paN l) = (0 : Int32) := by rw [sp_eq0 (by omega)]; omega
    rw [if_pos hne, lt_gd_t hne, if_neg h3, nI_add, q_1, pk_sub (by omega), pk_div (by omega) (by omega) (by omega)]
/-- the busiest so far -/
def bz (w : Nat → Nat) : Nat → Option Nat × Nat
  | 0 => (none, 0)
  | n + 1 => if pcN (w_comes w n) 24 ≤ pcN (bz w n).2 24 then bz w n else (some n, w_comes w n)
theorem bz_b {w : Nat → Nat} (h : w 2 ≤ 20) (n : Nat) : (bz w n).2 < 2 ^ 24 ∧ ∀ o, (bz w n).1 = some o → o < n := by
  induction n with
  | zero => exact ⟨show 0 < 2 ^ 24 by decide, fun o h => by cases h⟩
  | succ n ih =>
    simp only [bz]
    split
    · exact ⟨ih.1, fun o h => Nat.lt_succ_of_lt (ih.2 o h)⟩
    · exact ⟨bitsN_24 _ (by omega), fun o h => by cases h; exact Nat.lt_succ_self n⟩
def bzI (z : Int32) : Option Nat → Int32
  | none => z
  | some o => nI o
section OPS
variable {dist wl : NT → Nat → Nat → Nat} {N : NT} {w : Nat → Nat} {T : Nat} {m : lt_m} {vs us : List Int32}
end OPS

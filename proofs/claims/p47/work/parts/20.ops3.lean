/-! ===== more of those that ask: movement, borders, asked, owed, states, late, next, busiest ===== -/
theorem pk_ix6 (x : Int32) : (x < 0 ∨ nI 6 ≤ x) ∨ ∃ k, k < 6 ∧ x = nI k := by
  rcases pk_ix x (n := 6) (by decide) with c | c | c
  · exact Or.inl (Or.inl c)
  · exact Or.inl (Or.inr c)
  · exact Or.inr c
theorem sp_le0 {a : Nat} (h : a < 2 ^ 31) : (nI a ≤ (0 : Int32)) = (a ≤ 0) := by rw [q_0, sp_len h (by decide)]
theorem sp_gt0 {a : Nat} (h : a < 2 ^ 31) : ((0 : Int32) < nI a) = (0 < a) := by rw [q_0, sp_ltn (by decide) h]
theorem sp_eq0 {a : Nat} (h : a < 2 ^ 31) : (nI a = (0 : Int32)) = (a = 0) := by rw [q_0, sp_eqn h (by decide)]
theorem or_bit {A i : Nat} (h : A < 2 ^ i) (c : Prop) [Decidable c] : (A + if c then 2 ^ i else 0) ||| 2 ^ i = A + 2 ^ i := by
  by_cases hc : c
  · rw [if_pos hc, ← sp_or h, Nat.or_assoc, Nat.or_self]
  · rw [if_neg hc, Nat.add_zero, sp_or h]
section OPS
variable {dist wl : NT → Nat → Nat → Nat} {N : NT} {w : Nat → Nat} {T : Nat} {m : lt_m} {vs us : List Int32}
end OPS

/-! ===== tightest, book, count ===== -/
def tgN (w : Nat → Nat) (t : Nat) : Nat := if w (4 + 2 * t) = 0 then 0 else 1000 * w_used w t / w (4 + 2 * t)
def tgt (w : Nat → Nat) : Nat → Option (Nat × Nat)
  | 0 => none
  | n + 1 => match tgt w n with
    | none => some (n, tgN w n)
    | some p => if tgN w n ≤ p.2 then some p else some (n, tgN w n)
def tgI (z : Int32) : Option (Nat × Nat) → Int32
  | none => z
  | some p => nI p.1
def tgJ (z : Int32) : Option (Nat × Nat) → Int32
  | none => z
  | some p => nI p.2
def tgL : Option (Nat × Nat) → Int64
  | none => 0
  | some p => lN p.2
theorem tgt_b {w : Nat → Nat} {N : NT} (hw : wfL N w) : ∀ n, n ≤ w 1 → (∀ t, t < n → tgN w t ≤ 1000) ∧ ∀ p, tgt w n = some p → p.1 < n ∧ p.2 ≤ 1000 := by
  intro n
  have hb : ∀ t, t < w 1 → tgN w t ≤ 1000 := by
    intro t ht
    unfold tgN
    split
    · omega
    · have := (hw.2.2.2.2.1 t ht).2.2
      have := Nat.div_le_div_right (c := w (4 + 2 * t)) (Nat.mul_le_mul_left 1000 this)
      rw [Nat.mul_div_cancel _ (by omega)] at this
      exact this
  induction n with
  | zero => intro _; exact ⟨fun t h => by omega, fun p h => by cases h⟩
  | succ n ih =>
    intro hn
    obtain ⟨i1, i2⟩ := ih (by omega)
    refine ⟨fun t ht => hb t (by omega), fun p hp => ?_⟩
    simp only [tgt] at hp
    cases hq : tgt w n with
    | none => rw [hq] at hp; cases hp; exact ⟨Nat.lt_succ_self n, hb n (by omega)⟩
    | some q =>
      rw [hq] at hp
      simp only at hp
      obtain ⟨j1, j2⟩ := i2 q hq
      split at hp
      · cases hp; exact ⟨by omega, j2⟩
      · cases hp; exact ⟨Nat.lt_succ_self n, hb n (by omega)⟩
section OPS
variable {dist wl : NT → Nat → Nat → Nat} {N : NT} {w : Nat → Nat} {T : Nat} {m : lt_m} {vs us : List Int32}
theorem ss_ {a b : Int32} {m : lt_m} (h : a = b) : (some (some (.inl a), m) : Option lt_r) = some (some (.inl b), m) := by rw [h]
end OPS

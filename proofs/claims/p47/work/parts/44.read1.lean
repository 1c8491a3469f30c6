/-! ===== reading a text: signs, numbers ===== -/
/-- the sign at p; 999: none -/
def sg (tx : Nat → Nat) (tk p : Nat) : Nat := if p < tk then tx p else 999
def rdN (tx : Nat → Nat) (tk : Nat) : Nat → Nat → Nat → Nat → Nat × Nat × Nat
  | 0, i, v, p => (i, v, p)
  | n + 1, i, v, p => if (48 ≤ sg tx tk p ∧ sg tx tk p ≤ 57) ∧ (i = 0 ∨ 0 < v) then rdN tx tk n (i + 1) (10 * v + (sg tx tk p - 48)) (p + 1) else (i, v, p)
def nuR (lo hi1 p : Nat) (r : Nat × Nat × Nat) : Nat ⊕ (Nat × Nat) := if r.1 = 0 then .inl p else if lo ≤ r.2.1 ∧ r.2.1 < hi1 then .inr (r.2.1, r.2.2) else .inl (r.2.2 - 1)
/-- a number: where it fails, or it and the place behind it -/
def nuN (tx : Nat → Nat) (tk dg lo hi1 p : Nat) : Nat ⊕ (Nat × Nat) := nuR lo hi1 p (rdN tx tk dg 0 0 p)
def dgs (h : Nat) : Nat := if h ≤ 10 then 1 else if h ≤ 100 then 2 else 3
theorem dgs_le (h : Nat) : 1 ≤ dgs h ∧ dgs h ≤ 3 := by unfold dgs; split <;> (try split) <;> omega
theorem sg_lt {tx : Nat → Nat} {tk p c : Nat} (h : sg tx tk p = c) (hc : c < 999) : p < tk := by
  unfold sg at h
  split at h
  · assumption
  · omega
theorem rdN_b {tx : Nat → Nat} {tk : Nat} : ∀ n i v p, p ≤ tk → v < 10 ^ i → (rdN tx tk n i v p).1 ≤ i + n ∧ i ≤ (rdN tx tk n i v p).1 ∧ (rdN tx tk n i v p).2.1 < 10 ^ (rdN tx tk n i v p).1 ∧ (rdN tx tk n i v p).2.2 = p + ((rdN tx tk n i v p).1 - i) ∧ (rdN tx tk n i v p).2.2 ≤ tk := by
  intro n
  induction n with
  | zero => intro i v p hp hv; exact ⟨Nat.le_refl _, Nat.le_refl _, hv, by show p = p + (i - i); omega, hp⟩
  | succ n ih =>
    intro i v p hp hv
    simp only [rdN]
    by_cases c : (48 ≤ sg tx tk p ∧ sg tx tk p ≤ 57) ∧ (i = 0 ∨ 0 < v)
    · rw [if_pos c]
      have hlt : p < tk := by
        rcases Nat.lt_or_ge p tk with q | q
        · exact q
        · have : sg tx tk p = 999 := if_neg (by omega)
          omega
      obtain ⟨a1, a2, a3, a4, a5⟩ := ih (i + 1) (10 * v + (sg tx tk p - 48)) (p + 1) hlt (by rw [Nat.pow_succ]; omega)
      exact ⟨by omega, by omega, a3, by omega, a5⟩
    · rw [if_neg c]; exact ⟨by omega, Nat.le_refl _, hv, by show p = p + (i - i); omega, hp⟩
theorem p10_1 : (0 : Nat) < 10 ^ 0 := Nat.one_pos
theorem rdN_c {tx : Nat → Nat} {tk dg p : Nat} (hp : p ≤ tk) (hd : dg ≤ 3) : (rdN tx tk dg 0 0 p).1 ≤ dg ∧ (rdN tx tk dg 0 0 p).2.1 < 1000 ∧ (rdN tx tk dg 0 0 p).2.2 = p + (rdN tx tk dg 0 0 p).1 ∧ (rdN tx tk dg 0 0 p).2.2 ≤ tk := by
  have h := rdN_b (tx := tx) (tk := tk) dg 0 0 p hp p10_1
  generalize rdN tx tk dg 0 0 p = r at h ⊢
  obtain ⟨ri, rv, rp⟩ := r
  obtain ⟨a1, a2, a3, a4, a5⟩ := h
  simp only at a1 a2 a3 a4 a5 ⊢
  have h3 : ri ≤ 3 := by omega
  have hv : rv < 1000 := by
    have e : ri = 0 ∨ ri = 1 ∨ ri = 2 ∨ ri = 3 := by omega
    rcases e with rfl | rfl | rfl | rfl
    · exact Nat.lt_of_lt_of_le a3 (by decide)
    · exact Nat.lt_of_lt_of_le a3 (by decide)
    · exact Nat.lt_of_lt_of_le a3 (by decide)
    · exact Nat.lt_of_lt_of_le a3 (by decide)
  clear a3
  omega
theorem nuR_r {lo hi1 p v p' : Nat} {r : Nat × Nat × Nat} (h : nuR lo hi1 p r = .inr (v, p')) : r.1 ≠ 0 ∧ r.2.1 = v ∧ r.2.2 = p' ∧ lo ≤ v ∧ v < hi1 := by
  unfold nuR at h
  split at h
  · cases h
  · next c0 =>
    split at h
    · next c =>
      injection h with h
      injection h with h1 h2
      omega
    · cases h
theorem nuR_l {lo hi1 p e : Nat} {r : Nat × Nat × Nat} (h : nuR lo hi1 p r = .inl e) : e = p ∨ e = r.2.2 - 1 := by
  unfold nuR at h
  split at h
  · injection h with h; omega
  · split at h
    · cases h
    · injection h with h; omega
theorem nuN_r {tx : Nat → Nat} {tk dg lo hi1 p v p' : Nat} (hp : p ≤ tk) (hd : dg ≤ 3) (h : nuN tx tk dg lo hi1 p = .inr (v, p')) : lo ≤ v ∧ v < hi1 ∧ v < 1000 ∧ p < p' ∧ p' ≤ p + dg ∧ p' ≤ tk := by
  have a := nuR_r h
  have b := rdN_c (tx := tx) (tk := tk) hp hd
  generalize rdN tx tk dg 0 0 p = r at a b
  omega
theorem nuN_l {tx : Nat → Nat} {tk dg lo hi1 p e : Nat} (hp : p ≤ tk) (hd : dg ≤ 3) (h : nuN tx tk dg lo hi1 p = .inl e) : e ≤ tk := by
  have a := nuR_l h
  have b := rdN_c (tx := tx) (tk := tk) hp hd
  generalize rdN tx tk dg 0 0 p = r at a b
  omega

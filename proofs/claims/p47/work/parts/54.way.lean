/-! ===== way ===== -/
def dsD : DT := fun N => dsN N.2.2.1 N.1
/-- the first of r numbers from i on with p; else z -/
def frN (p : Nat → Bool) (z : Nat) : Nat → Nat → Nat
  | 0, _ => z
  | r + 1, i => if p i = true then i else frN p z r (i + 1)
theorem frN_ex {p : Nat → Bool} {z c : Nat} : ∀ r i, i ≤ c → c < i + r → p c = true → p (frN p z r i) = true ∧ frN p z r i ≤ c := by
  intro r
  induction r with
  | zero => intro i h1 h2; omega
  | succ r ih =>
    intro i h1 h2 h3
    simp only [frN]
    by_cases e : p i = true
    · rw [if_pos e]; exact ⟨e, h1⟩
    · rw [if_neg e]
      have : i ≠ c := by rintro rfl; exact e h3
      exact ih (i + 1) (by omega) (by omega) h3
def onw (H : Nat → Nat → Nat) (n b a : Nat) : Nat → Bool := fun o => decide (0 < H a o ∧ H a o + dsN H n o b = dsN H n a b)
def nxN (H : Nat → Nat → Nat) (n b a : Nat) : Nat := frN (onw H n b a) b n 0
theorem nx_ok {H : Nat → Nat → Nat} {n a b : Nat} (ha : a < n) (hb : b < n) (hne : a ≠ b) (h : dsN H n a b < 1000000) : nxN H n b a < n ∧ 0 < H a (nxN H n b a) ∧ H a (nxN H n b a) + dsN H n (nxN H n b a) b = dsN H n a b := by
  obtain ⟨c, hc, h1, h2⟩ := ds_N ha hb hne h
  obtain ⟨h3, h4⟩ := frN_ex (p := onw H n b a) (z := b) (c := c) n 0 (Nat.zero_le _) (by omega) (decide_eq_true ⟨h1, h2⟩)
  have h5 := of_decide_eq_true h3
  exact ⟨by unfold nxN; omega, h5⟩
/-- the offices that follow -/
def paN' (H : Nat → Nat → Nat) (n b : Nat) : Nat → Nat → List Int32
  | 0, _ => []
  | k + 1, a => if a = b then [] else nI (nxN H n b a) :: paN' H n b k (nxN H n b a)
section WY
variable {wl : DT} {N : NT} {w : Nat → Nat} {T : Nat} {m : lt_m} {vs us : List Int32}
theorem pa_len {H : Nat → Nat → Nat} {n b : Nat} (hb : b < n) : ∀ k a, a < n → dsN H n a b < 1000000 → (paN' H n b k a).length ≤ rkN H n b a := by
  intro k
  induction k with
  | zero => intro a _ _; exact Nat.zero_le _
  | succ k ih =>
    intro a ha h
    simp only [paN']
    by_cases e : a = b
    · rw [if_pos e]; exact Nat.zero_le _
    · rw [if_neg e]
      obtain ⟨h1, h2, h3⟩ := nx_ok ha hb e h
      have := ih _ h1 (by omega)
      have := rk_lt (H := H) (a := a) (b := b) h1 (by omega)
      rw [List.length_cons]
      omega
theorem same_t {m M : lt_m} (h : tfr m M) : same m M := ⟨by rw [h.2], by rw [h.2], fun b k hb => by rw [h.1 b (by rintro rfl; exact absurd hb (by unfold scr; simp))]⟩
end WY

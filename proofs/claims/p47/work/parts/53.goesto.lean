/-! ===== the reference measures to one office ===== -/
section GT
variable {H : Nat → Nat → Nat} {n g : Nat}
theorem ds_bd (hH : ∀ a b, a < n → b < n → H a b ≤ 99) (hg : g < n) : ∀ k a, a < n → rkN H n g a ≤ k → dsN H n a g < 1000000 → dsN H n a g ≤ 99 * k := by
  intro k
  induction k with
  | zero =>
    intro a ha hk h
    by_cases e : a = g
    · subst e; rw [ds_self]; omega
    · have := rk_0 (H := H) ha hg e; omega
  | succ k ih =>
    intro a ha hk h
    by_cases e : a = g
    · subst e; rw [ds_self]; omega
    · obtain ⟨c, hc, h1, h2⟩ := ds_N ha hg e h
      have h3 := rk_lt (H := H) (n := n) (a := a) (b := g) hc (by omega)
      have h4 := hH a c ha hc
      have := ih c hc (by omega) (by omega)
      omega
theorem ds_bd' (hH : ∀ a b, a < n → b < n → H a b ≤ 99) (hg : g < n) (h12 : n ≤ 12) {a : Nat} (ha : a < n) (h : dsN H n a g < 1000000) : dsN H n a g ≤ 1089 := by
  have h1 := rk_n (H := H) (b := g) ha
  have := ds_bd hH hg 11 a ha (by omega) h
  omega
/-- how far, as the reference has it -/
def rfN (H : Nat → Nat → Nat) (n g a : Nat) : Nat := if dsN H n a g < 1000000 then dsN H n a g else 1000000000
theorem rf_E (hH : ∀ a b, a < n → b < n → H a b ≤ 99) (hg : g < n) (h12 : n ≤ 12) {a b : Nat} (hb : b < n) (hr : 0 < H a b) (ha : a < n) : rfN H n g a ≤ H a b + rfN H n g b := by
  have h1 := ds_E (b := g) hb hr
  unfold rfN
  by_cases c : dsN H n b g < 1000000
  · have := ds_bd' hH hg h12 hb c
    have := hH a b ha hb
    rw [if_pos c, if_pos (by omega)]
    exact h1
  · rw [if_neg c]
    split <;> omega
def TR (n : Nat) (t : Nat → Nat) (m : lt_m) : Prop := ∀ o, o < n → m.1 724 o = nI (t o)
def LB (H : Nat → Nat → Nat) (n g : Nat) (t : Nat → Nat) : Prop := ∀ o, o < n → rfN H n g o ≤ t o ∧ t o ≤ 1000000000
end GT
/-- all but the reference's row of distances -/
def tfr (m M : lt_m) : Prop := (∀ b, b ≠ 724 → M.1 b = m.1 b) ∧ M.2 = m.2
theorem tfr_rf (m : lt_m) : tfr m m := ⟨fun _ _ => rfl, rfl⟩
theorem tfr_tr {a b c : lt_m} (h1 : tfr a b) (h2 : tfr b c) : tfr a c := ⟨fun x k => (h2.1 x k).trans (h1.1 x k), h2.2.trans h1.2⟩
theorem tfr_i {m : lt_m} {k : Nat} {v : Int32} : tfr m (lm_i m 724 k v) := ⟨fun b hb => lm_i_ne hb, rfl⟩
section GT2
variable {N : NT} {w : Nat → Nat} {g : Nat}
theorem TR_set {t : Nat → Nat} {n a v : Nat} {m : lt_m} (h : TR n t m) : TR n (wset t a v) (lm_i m 724 a (nI v)) := by
  intro o ho
  by_cases c : o = a
  · subst c; rw [lm_i_eq, wset_eq]
  · rw [lm_i_ns (by omega), wset_ne c]; exact h o ho
end GT2

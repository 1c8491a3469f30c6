/-! ===== detour ===== -/
theorem rt_ds {H : Nat → Nat → Nat} {n k s : Nat} {r : Nat → Nat} (h : rtOK H n k r s) (hk : 0 < k) : dsN H n (r 0) (r (k - 1)) ≤ s := by
  obtain ⟨h1, h2, h3⟩ := h
  have key : ∀ j i, i + j = k - 1 → sumN (fun t => H (r t) (r (t + 1))) i + dsN H n (r i) (r (k - 1)) ≤ sumN (fun t => H (r t) (r (t + 1))) (k - 1) := by
    intro j
    induction j with
    | zero => intro i hi; have hi : i = k - 1 := hi; subst hi; rw [ds_self]; exact Nat.le_refl _
    | succ j ih =>
      intro i hi
      have a := ih (i + 1) (by omega)
      have b := ds_E (b := r (k - 1)) (h1 (i + 1) (by omega)) (h2 i (by omega))
      simp only [sumN] at a
      omega
  have := key (k - 1) 0 (by omega)
  rw [h3]
  simp only [sumN] at this
  omega
section DT2
variable {wl : DT} {T : Nat} {m : lt_m}
end DT2

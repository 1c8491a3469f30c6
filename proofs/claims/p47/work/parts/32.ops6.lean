/-! ===== proves, pays, controls ===== -/
section CHG
variable {dist wl : DT} {T : Nat} {S : ST} {N : NT} {w : Nat → Nat} {m m' M M2 : lt_m} {vs : List Int32}
theorem wset_id {k v : Nat} (h : w k = v) : wset w k v = w := funext fun j => by
  unfold wset
  split
  · next q => rw [q, h]
  · rfl
theorem op_cl (st : Nat) (h : st = 2 ∨ st = 5) {i : Nat} {P : Prop} : w_open (wset w (19 + 26 * i) st) i = true → P := by
  intro q
  unfold w_open at q
  rw [show w_st (wset w (19 + 26 * i) st) i = st from wset_eq] at q
  exfalso
  simp only [decide_eq_true_eq] at q
  omega
end CHG

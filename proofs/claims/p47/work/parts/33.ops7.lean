/-! ===== controls ===== -/
theorem wset_cm {w : Nat → Nat} {k k' v v' : Nat} (h : k ≠ k') : wset (wset w k v) k' v' = wset (wset w k' v') k v := funext fun j => by
  unfold wset
  by_cases c1 : j = k'
  · rw [if_pos c1, if_neg (by omega), if_pos c1]
  · rw [if_neg c1]
    by_cases c2 : j = k
    · rw [if_pos c2, if_pos c2]
    · rw [if_neg c2, if_neg c2, if_neg c1]
section CHG
variable {dist wl : DT} {T : Nat} {S : ST} {N : NT} {w : Nat → Nat} {m m' M M2 : lt_m} {vs : List Int32}
end CHG

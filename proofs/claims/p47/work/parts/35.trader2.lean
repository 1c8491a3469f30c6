/-! ===== trader ===== -/
theorem sp_gd' {n i : Nat} (h : i < n) (hn : i < 2 ^ 31) : 0 ≤ nI i ∧ i < n := ⟨nI_pos' hn, h⟩
section TR
variable {dist wl : DT} {T : Nat} {S : ST} {N : NT} {w w' : Nat → Nat} {m m' M M2 : lt_m} {vs : List Int32}
end TR

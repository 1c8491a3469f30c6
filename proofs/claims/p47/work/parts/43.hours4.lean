/-! ===== hours ===== -/
section HO
variable {dist wl : DT} {T : Nat} {S : ST} {N : NT} {w : Nat → Nat} {m m' M M2 : lt_m} {vs : List Int32}
theorem ch_beyond (hw : wfL N w) : ∀ j, j < w 2 → w 0 < w_ch w j := by
  intro j hj
  have h0 := hw.1
  obtain ⟨-, -, -, -, -, -, -, -, -, -, -, -, -, -, -, -, -, a17, a18⟩ := hw.2.2.2.2.2 j hj
  unfold w_ch
  split
  · next q => have := a17 q; omega
  · split
    · next q => have := (a18 q).2; omega
    · omega
end HO

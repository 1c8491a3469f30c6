/-! ===== more of those that ask ===== -/
theorem pcN_z : ∀ k, pcN 0 k = 0 := by
  intro k
  induction k with
  | zero => rfl
  | succ k ih => simp only [pcN]; rw [show (0 : Nat) / 2 = 0 by decide, ih]
theorem pcN_one (j : Nat) : pcN 1 (1 + j) = 1 := by
  rw [Nat.add_comm]
  simp only [pcN]
  rw [show (1 : Nat) / 2 = 0 by decide, pcN_z]
theorem pcN_bits (p : Nat → Bool) : ∀ n j, pcN (bitsN p n) (n + j) = sumN (fun i => if p i then 1 else 0) n := by
  intro n
  induction n with
  | zero => intro j; exact pcN_z _
  | succ n ih =>
    intro j
    rw [bitsN_succ]
    simp only [sumN]
    have h0 := ih 0
    rw [Nat.add_zero] at h0
    by_cases c : p n = true
    · have := pcN_split 1 (1 + j) n (bitsN p n) (bitsN_lt p n)
      rw [if_pos c, if_pos c, show bitsN p n + 2 ^ n = 2 ^ n * 1 + bitsN p n by omega, show n + 1 + j = n + (1 + j) by omega, this, h0, pcN_one]
    · have := pcN_split 0 (1 + j) n (bitsN p n) (bitsN_lt p n)
      rw [if_neg c, if_neg c, show bitsN p n + 0 = 2 ^ n * 0 + bitsN p n by omega, show n + 1 + j = n + (1 + j) by omega, this, h0, pcN_z]
theorem pcN_bits24 (p : Nat → Bool) {n : Nat} (h : n ≤ 24) : pcN (bitsN p n) 24 = sumN (fun i => if p i then 1 else 0) n := by
  have := pcN_bits p n (24 - n)
  rw [show n + (24 - n) = 24 by omega] at this
  exact this
theorem bitsN_24 (p : Nat → Bool) {n : Nat} (h : n ≤ 24) : bitsN p n < 2 ^ 24 := Nat.lt_of_lt_of_le (bitsN_lt p n) (Nat.pow_le_pow_right (by decide) h)
theorem lt_sw_n {k : Nat} {ks : List (Option lt_r)} {kd : Option lt_r} (h : ks.length < 2 ^ 31) (hk : k < ks.length) : lt_sw (nI k) ks kd = (ks[k]?).getD kd := by
  unfold lt_sw
  rw [nI_toInt (by omega), if_neg (by omega)]
  rfl
theorem lt_sw_o {x : Int32} {n : Nat} {ks : List (Option lt_r)} {kd : Option lt_r} (hn : ks.length = n) (h2 : n < 2 ^ 31) (h : x < 0 ∨ nI n ≤ x) : lt_sw x ks kd = kd := by
  unfold lt_sw
  rw [hn, if_pos]
  rcases h with h | h
  · rw [Int32.lt_iff_toInt_lt, Int32.toInt_zero] at h; exact Or.inl h
  · rw [Int32.le_iff_toInt_le, nI_toInt (by omega)] at h; exact Or.inr (by omega)
theorem s20 {w2 : Nat} (h : w2 ≤ 20) (c : Nat → Prop) [DecidablePred c] (f : Nat → Nat) : sumN (fun i => if c i then f i else 0) w2 = sumN (fun i => if i < w2 ∧ c i then f i else 0) 20 := by
  rw [sumN_ext (a := w2) (b := 20) h (fun i h1 h2 => by rw [if_neg (by omega)])]
  exact sumN_congr fun i hi => by simp [hi]
theorem b20 {w2 : Nat} (h : w2 ≤ 20) (c : Nat → Bool) : bitsN c w2 = bitsN (fun i => decide (i < w2) && c i) 20 := by
  rw [bitsN_ext (a := w2) (b := 20) h (fun i h1 h2 => by simp; omega)]
  exact bitsN_congr fun i hi => by simp [hi]
theorem sp_tt (x : Int32) : x.toInt64.toInt = x.toInt := Int32.toInt_toInt64 x
section OPS
variable {dist wl : NT → Nat → Nat → Nat} {N : NT} {w : Nat → Nat} {T : Nat} {m : lt_m} {vs us : List Int32}
end OPS

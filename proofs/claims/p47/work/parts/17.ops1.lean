/-! ===== calls, side by side: those that ask of the ledger ===== -/
section OPS
variable {dist wl : NT → Nat → Nat → Nat} {N : NT} {w : Nat → Nat} {T : Nat} {m : lt_m} {vs us : List Int32}
theorem k74e (d : Nat) (A B : Int32) (m : lt_m) : ∃ m', lt_ev (d + 4) 74 [.inr (.inr (some 0)), .inl A, .inl B] m = some (none, m') ∧ same m m' ∧ rwC [A, B] m' :=
  ⟨_, k74 d, same_tr same_rclr (same_tr same_radd same_radd), rwC_add (vs := [A]) (rwC_add (vs := []) (rwC_clr m))⟩
theorem k75e (d : Nat) (A : Int32) (m : lt_m) : ∃ m', lt_ev (d + 3) 75 [.inr (.inr (some 0)), .inl A] m = some (none, m') ∧ same m m' ∧ rwC [A] m' :=
  ⟨_, k75 d, same_tr same_rclr same_radd, rwC_add (vs := []) (rwC_clr m)⟩
theorem k68e (d : Nat) (A : Int32) (h : rwC vs m) (hl : vs.length < 12) : ∃ m', lt_ev (d + 2) 68 [.inr (.inr (some (0 + 4))), .inl A] m = some (none, m') ∧ same m m' ∧ rwC (vs ++ [A]) m' :=
  ⟨_, k68 d h hl, same_radd, rwC_add h⟩
/-- freeOf -/
theorem k96 (d : Nat) {L : Nat} (h0 : ts_sh L = (0, 2)) (h : cl N w L m) (hw : wfL N w) {t : Nat} (ht : t < w 1) : lt_ev (d + 3) 96 [.inr (.inr (some L)), .inl (nI t)] m = some (some (.inl (nI (w (4 + 2 * t) - w_used w t))), m) := by
  have b := hw.2.1
  refine (E96 (d + 2) L _ h0 m).trans ?_
  rw [p94 d _ _ h0 m, lt_cI_s, c94 h hw ht, k91 d h0 h hw (by omega), lt_cI_s, pk_sub (hw.2.2.2.2.1 t ht).2.2]
end OPS

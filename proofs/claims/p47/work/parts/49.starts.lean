/-! ===== a MOVEMENT starts: the reference; starts ===== -/
def pR (b0 off : Nat) (r : Nat → Nat) (i : Nat) (m : lt_m) : lt_m := (fun b j => if b = b0 ∧ off ≤ j ∧ j < off + i then nI (r (j - off)) else m.1 b j, m.2)
theorem lm_i_if {m : lt_m} {a j k : Nat} {v : Int32} : (lm_i m a j v).1 a k = if k = j then v else m.1 a k := by
  by_cases c : k = j
  · rw [if_pos c, c, lm_i_eq]
  · rw [if_neg c, lm_i_ns (by omega)]
section PR
variable {b0 off i : Nat} {r : Nat → Nat} {m : lt_m}
theorem pR_0 : pR b0 off r 0 m = m := Prod.ext (funext fun b => funext fun j => if_neg (by omega)) rfl
theorem pR_s : lm_i (pR b0 off r i m) b0 (off + i) (nI (r i)) = pR b0 off r (i + 1) m := by
  refine Prod.ext (funext fun b => funext fun j => ?_) rfl
  show (if b = b0 ∧ j = off + i then nI (r i) else if b = b0 ∧ off ≤ j ∧ j < off + i then nI (r (j - off)) else m.1 b j) = if b = b0 ∧ off ≤ j ∧ j < off + (i + 1) then nI (r (j - off)) else m.1 b j
  by_cases c : b = b0 ∧ j = off + i
  · rw [if_pos c, if_pos (by omega), show j - off = i by omega]
  · rw [if_neg c]
    by_cases c2 : b = b0 ∧ off ≤ j ∧ j < off + i
    · rw [if_pos c2, if_pos (by omega)]
    · rw [if_neg c2, if_neg (by omega)]
theorem pR_ne {b : Nat} (h : b ≠ b0) : (pR b0 off r i m).1 b = m.1 b := funext fun j => if_neg fun c => h c.1
theorem pR_if {k : Nat} : (pR b0 off r i m).1 b0 k = if off ≤ k ∧ k < off + i then nI (r (k - off)) else m.1 b0 k := by
  by_cases c : off ≤ k ∧ k < off + i
  · rw [if_pos c]; exact if_pos ⟨rfl, c⟩
  · rw [if_neg c]; exact if_neg fun q => c q.2
end PR
section ST2
variable {dist wl : DT} {T : Nat} {S : ST} {N : NT} {w : Nat → Nat} {m m' M M2 : lt_m} {vs : List Int32}
/-- what reading a ROUTE makes of class and reference -/
theorem rd_C (hC : CS dist wl T S m) (hA : ts_sh m.2.2.1 = (0, 5)) (hn : nR S.N m.2.2.1 m) (hN : wfN S.N) : ∃ M, (∀ d, lt_ev (d + 4) 101 [.inr (.inr (some 6)), .inr (.inr (some 1)), .inr (.inr (some m.2.2.1))] m = some (none, M)) ∧ CS dist wl T S.rd M ∧ cfr m M ∧ match rtN S.N.2.2.1 S.N.1 S.tx S.tk 8 0 (fun _ => 0) 0 0 with
  | .inl e => M.1 1 2 = nI e
  | .inr (k, r, s) => M.1 1 2 = -1 ∧ M.1 6 1 = nI k ∧ M.1 6 2 = nI s ∧ ∀ j, j < k → M.1 7 j = nI (r j) := by
  have hA2 : 13 ≤ m.2.2.1 := by
    obtain ⟨⟨A, B, n1, n2, n3, -⟩, -⟩ := hC
    omega
  obtain ⟨M, e, f, g, h⟩ := k101 (tx := S.tx) (tk := S.tk) hA hA2 hN hC.2.1 hn
  exact ⟨M, e, CS_rd (fun b b1 b2 => f.1 b (by omega) (by omega) (by omega) (by omega)) (by rw [f.2]; exact ⟨rfl, rfl⟩) g hC, f, h⟩
end ST2

/-! ===== hours: the earliest change ===== -/
def w_ch (w : Nat → Nat) (i : Nat) : Nat := if w_st w i = 0 then w_tm w i + 1 else if w_st w i = 3 then w_tm w i + 72 else 1000000
def w_ear (w : Nat → Nat) (u : Nat) : Nat → Option Nat
  | 0 => none
  | i + 1 => if i < w 2 ∧ w_ch w i ≤ u then (match w_ear w u i with
    | none => some i
    | some j => if w_ch w j ≤ w_ch w i then some j else some i) else w_ear w u i
theorem w_ear_b {w : Nat → Nat} {u : Nat} : ∀ n j, w_ear w u n = some j → j < n ∧ j < w 2 ∧ w_ch w j ≤ u := by
  intro n
  induction n with
  | zero => intro j h; cases h
  | succ n ih =>
    intro j h
    simp only [w_ear] at h
    by_cases c : n < w 2 ∧ w_ch w n ≤ u
    · rw [if_pos c] at h
      cases hg : w_ear w u n with
      | none => rw [hg] at h; cases h; exact ⟨Nat.lt_succ_self n, c⟩
      | some k =>
        rw [hg] at h
        simp only at h
        obtain ⟨i1, i2⟩ := ih k hg
        split at h
        · cases h; exact ⟨by omega, i2⟩
        · cases h; exact ⟨Nat.lt_succ_self n, c⟩
    · rw [if_neg c] at h
      obtain ⟨i1, i2⟩ := ih j h
      exact ⟨by omega, i2⟩
section HR
variable {N : NT} {w : Nat → Nat} {L : Nat} {m : lt_m}
theorem c127 (h : cl N w L m) (hw : wfL N w) {i : Nat} (hi : i < 20) : v127 m (L + 3 + 5 + 3 * i) = nI (if i < w 2 then w_ch w i else 1000000) := by
  unfold v127
  by_cases h2 : i < w 2
  · obtain ⟨-, -, -, -, -, e6, e7, -⟩ := h.2.2.2.2.1 i h2
    have b7 := wf_st hw h2
    rw [e6, e7, if_pos h2]
    unfold w_ch
    simp (disch := omega) only [sp_eq0, q_3, sp_eqn]
    by_cases c : w_st w i = 0
    · rw [if_neg (by simp [c]), if_pos c, nI_1]
    · rw [if_pos c, if_neg c]
      by_cases c3 : w_st w i = 3
      · rw [if_neg (by simp [c3]), if_pos c3, q_72, nI_add]
      · rw [if_pos c3, if_neg c3]; rfl
  · rw [h.2.2.2.2.2.1 i (by omega) hi, if_neg h2]
    rfl
theorem w_ch_le (hw : wfL N w) {i : Nat} (hi : i < w 2) : w_ch w i ≤ 1000000 := by
  have bt : w_tm w i ≤ 200000 := (hw.2.2.2.2.2 i hi).2.2.2.2.2.2.1
  unfold w_ch
  split
  · omega
  · split <;> omega
theorem k126 (d : Nat) (h0 : ts_sh L = (0, 2)) (h : cl N w L m) (hw : wfL N w) {u : Nat} (hu : u < 1000000) : lt_ev (d + 2) 126 [.inr (.inr (some L)), .inl (nI u)] m = some (some (.inr (.inr ((w_ear w u 20).map (fun j => L + 3 + 5 + 3 * j)))), m) := by
  have h20 := hw.2.2.1
  refine (E126 (d + 1) L _ h0 m).trans ?_
  refine lp_it (F := fun i o => L126_14 (d + 1) L (nI u) ((w_ear w u i).map (fun j => L + 3 + 5 + 3 * j)) (nI i) o m) 20 ?_ ?_ none
  · intro i o hi
    have hq := sh_mv h0 hi
    have hc : (if i < w 2 then w_ch w i else 1000000) < 2 ^ 31 := by
      split
      · next q => have := w_ch_le hw q; omega
      · omega
    refine ⟨some (.inr (.inr (some (L + 3 + 5 + 3 * i)))), ?_⟩
    rw [E126_14 _ _ _ _ _ _ h0]
    simp (disch := omega) only [q_20, sp_len, nI_clamp]
    rw [if_neg (by omega), lt_gd_t ⟨nI_pos' (by omega), hi⟩, p127 d _ hq m, lt_cI_s, c127 h hw hi, nI_1]
    simp (disch := omega) only [sp_ltn]
    simp only [w_ear]
    by_cases c : i < w 2 ∧ w_ch w i ≤ u
    · rw [if_neg (by rw [if_pos c.1]; omega), if_pos c]
      cases hg : w_ear w u i with
      | none => rw [Option.map_none, lt_nl_n]; rfl
      | some j =>
        obtain ⟨j1, j2, j3⟩ := w_ear_b i j hg
        have b1 := w_ch_le hw c.1
        have b2 := w_ch_le hw j2
        rw [Option.map_some, lt_nl_s, p127 d _ hq m, lt_cI_s, c127 h hw hi, if_pos c.1, lt_gd_t (sh_mv h0 (by omega)), p127 d _ (sh_mv h0 (by omega)) m, lt_cI_s, c127 h hw (by omega), if_pos j2]
        simp (disch := omega) only [sp_len]
        by_cases c2 : w_ch w j ≤ w_ch w i
        · rw [if_pos c2, if_pos c2]; rfl
        · rw [if_neg c2, if_neg c2]; rfl
    · rw [if_neg c, if_pos]
      by_cases h2 : i < w 2
      · rw [if_pos h2]; omega
      · rw [if_neg h2]; omega
  · intro o
    rw [E126_14 _ _ _ _ _ _ h0, if_pos (by decide)]
end HR

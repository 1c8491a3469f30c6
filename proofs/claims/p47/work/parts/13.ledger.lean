/-! ===== the class's ledger: what its methods answer ===== -/
section CL
variable {N : NT} {w : Nat → Nat} {L : Nat} {m : lt_m}
theorem c16 {a n k : Nat} (hk : k < n) (hn : n ≤ 5008) : v16 m a n (nI k) = m.1 a k := by
  unfold v16
  have e : Int32.ofNat n = nI n := rfl
  simp (disch := omega) only [e, q_0, sp_ltn, sp_len, nI_clamp]
  rw [if_neg (by omega), if_neg (by omega)]
theorem c16m {a n : Nat} : v16 m a n (-1) = 0 := by
  unfold v16
  rw [if_pos (by decide)]
theorem c64 (h : cl N w L m) (hw : wfL N w) {i k : Nat} (hi : i < w 2) (hk : k < w_lg w i) : v64 m (L + 3 + 5 + 3 * i) (nI k) = nI (w_rt w i k) := by
  unfold v64
  obtain ⟨-, -, -, -, -, -, -, e8, -, -, -, e12, -⟩ := h.2.2.2.2.1 i hi
  have b8 : w_lg w i ≤ 8 := (hw.2.2.2.2.2 i hi).2.2.2.2.2.2.2.2.2.2.1
  rw [e8]
  simp (disch := omega) only [q_0, sp_ltn, sp_len]
  rw [if_neg (by omega), if_neg (by omega), c16 (by omega) (by omega), e12 k hk]
theorem c64o (h : cl N w L m) (hw : wfL N w) {i k : Nat} (hi : i < w 2) (hk : w_lg w i ≤ k) (hk2 : k < 2 ^ 31) : v64 m (L + 3 + 5 + 3 * i) (nI k) = -1 := by
  unfold v64
  obtain ⟨-, -, -, -, -, -, -, e8, -, -, -, e12, -⟩ := h.2.2.2.2.1 i hi
  have b8 : w_lg w i ≤ 8 := (hw.2.2.2.2.2 i hi).2.2.2.2.2.2.2.2.2.2.1
  rw [e8]
  simp (disch := omega) only [q_0, sp_ltn, sp_len]
  rw [if_neg (by omega), if_pos (by omega)]
theorem wf_sp (hw : wfL N w) {i : Nat} (hi : i < w 2) : 1 ≤ w_sp w i ∧ w_sp w i ≤ w_lg w i ∧ 2 ≤ w_lg w i ∧ w_lg w i ≤ 8 := by
  obtain ⟨-, -, -, -, -, -, -, a, b, c, d, -⟩ := hw.2.2.2.2.2 i hi
  exact ⟨a, b, c, d⟩
theorem c63 (h : cl N w L m) (hw : wfL N w) {i : Nat} (hi : i < w 2) : v63 m (L + 3 + 5 + 3 * i) = nI (w_seen w i) := by
  unfold v63
  obtain ⟨-, -, -, -, -, -, -, -, e9, -⟩ := h.2.2.2.2.1 i hi
  obtain ⟨a, b, c, d⟩ := wf_sp hw hi
  rw [e9, q_1, pk_sub a, c64 h hw hi (by omega)]
  rfl
theorem c115 (h : cl N w L m) (hw : wfL N w) {i : Nat} (hi : i < w 2) : v115 m (L + 3 + 5 + 3 * i) = if w_sp w i < w_lg w i then nI (w_rt w i (w_sp w i)) else -1 := by
  unfold v115
  obtain ⟨-, -, -, -, -, -, -, -, e9, -⟩ := h.2.2.2.2.1 i hi
  obtain ⟨a, b, c, d⟩ := wf_sp hw hi
  rw [e9]
  split
  · next q => rw [c64 h hw hi q]
  · next q => rw [c64o h hw hi (by omega) (by omega)]
theorem c131 (h : cl N w L m) (hw : wfL N w) {i k : Nat} (hi : i < w 2) (hk : k < w_sp w i) : v131 m (L + 3 + 5 + 3 * i) (nI k) = nI (w_at w i k) := by
  unfold v131
  obtain ⟨-, -, -, -, -, -, -, -, e9, -, -, -, e13⟩ := h.2.2.2.2.1 i hi
  obtain ⟨a, b, c, d⟩ := wf_sp hw hi
  rw [e9]
  simp (disch := omega) only [q_0, sp_ltn, sp_len]
  rw [if_neg (by omega), if_neg (by omega), c16 (by omega) (by omega), e13 k hk]
theorem c131o (h : cl N w L m) (hw : wfL N w) {i k : Nat} (hi : i < w 2) (hk : w_sp w i ≤ k) (hk2 : k < 2 ^ 31) : v131 m (L + 3 + 5 + 3 * i) (nI k) = -1 := by
  unfold v131
  obtain ⟨-, -, -, -, -, -, -, -, e9, -, -, -, e13⟩ := h.2.2.2.2.1 i hi
  obtain ⟨a, b, c, d⟩ := wf_sp hw hi
  rw [e9]
  simp (disch := omega) only [q_0, sp_ltn, sp_len]
  rw [if_neg (by omega), if_pos (by omega)]
theorem c90 (h : cl N w L m) (hw : wfL N w) (x : Int32) : (∃ t, t < w 1 ∧ x = nI t ∧ v90 m L x = 1) ∨ ((x < 0 ∨ nI (w 1) ≤ x) ∧ v90 m L x = 0) := by
  unfold v90
  rw [h.2.1]
  have b := hw.2.1
  rcases pk_ix x (n := w 1) (by omega) with c | c | ⟨t, ht, rfl⟩
  · exact Or.inr ⟨Or.inl c, by rw [if_pos c]⟩
  · refine Or.inr ⟨Or.inr c, ?_⟩
    rw [if_pos c]
    split <;> rfl
  · refine Or.inl ⟨t, ht, rfl, ?_⟩
    simp (disch := omega) only [q_0, q_1, sp_ltn, sp_len]
    rw [if_neg (by omega), if_neg (by omega)]
theorem c94 (h : cl N w L m) (hw : wfL N w) {t : Nat} (ht : t < w 1) : v94 m L (nI t) = nI (w (4 + 2 * t)) := by
  have b := hw.2.1
  unfold v94
  rw [c16 (by omega) (by omega), (h.2.2.2.1 t ht).1]
theorem c95 (h : cl N w L m) (hw : wfL N w) {t : Nat} (ht : t < w 1) : v95 m L (nI t) = nI (w (5 + 2 * t)) := by
  have b := hw.2.1
  unfold v95
  rw [c16 (by omega) (by omega), (h.2.2.2.1 t ht).2]
theorem c114 (h : cl N w L m) (hw : wfL N w) (x : Int32) : (∃ i, i < w 2 ∧ x = nI i ∧ v114 m L x = some (L + 3 + 5 + 3 * i)) ∨ ((x < 0 ∨ nI (w 2) ≤ x) ∧ v114 m L x = none) := by
  unfold v114 v105
  rw [h.2.2.1]
  have b := hw.2.2.1
  rcases pk_ix x (n := w 2) (by omega) with c | c | ⟨t, ht, rfl⟩
  · refine Or.inr ⟨Or.inl c, ?_⟩
    rw [if_pos c]
    split <;> rfl
  · exact Or.inr ⟨Or.inr c, by rw [if_pos c]⟩
  · refine Or.inl ⟨t, ht, rfl, ?_⟩
    simp (disch := omega) only [q_0, q_20, sp_ltn, sp_len, nI_clamp]
    rw [if_neg (by omega), if_neg (by omega), if_neg (by omega)]
theorem c122 (h : cl N w L m) (hw : wfL N w) {i : Nat} (hi : i < w 2) : v122 m (L + 3 + 5 + 3 * i) (nI (w 0)) = nI (if w_st w i = 3 then (w 0 - w_tm w i) / 24 else 0) := by
  unfold v122
  obtain ⟨-, -, -, -, -, e6, e7, -⟩ := h.2.2.2.2.1 i hi
  obtain ⟨-, -, -, -, b5, -, b7, -, -, -, -, -, -, -, -, -, -, -, b9⟩ := hw.2.2.2.2.2 i hi
  have b0 := hw.1
  rw [e6, e7]
  simp (disch := omega) only [q_3, q_24, sp_eqn]
  by_cases c : w_st w i = 3
  · obtain ⟨g1, g2⟩ := b9 c
    rw [if_neg (by simp [c]), if_pos c, pk_sub (by omega), pk_div (by omega) (by omega) (by omega)]
  · rw [if_pos c, if_neg c]; rfl
theorem c139 (h : cl N w L m) (hw : wfL N w) {i : Nat} (hi : i < 20) : v139 m (L + 3 + 5 + 3 * i) = if i < w 2 ∧ 4 ≤ w_st w i then 1 else 0 := by
  unfold v139
  by_cases h2 : i < w 2
  · obtain ⟨-, -, -, -, -, -, e7, -⟩ := h.2.2.2.2.1 i h2
    have b7 := wf_st hw h2
    rw [e7]
    simp (disch := omega) only [q_4, q_5, sp_eqn]
    by_cases c2 : w_st w i = 4
    · simp [c2, h2]
    · by_cases c3 : w_st w i = 5
      · simp [c3, h2]
      · rw [if_neg c2, if_pos c3, if_neg (by omega)]
  · rw [h.2.2.2.2.2.1 i (by omega) hi]
    simp [h2]
/-- openOf -/
theorem k97 (d : Nat) (h0 : ts_sh L = (0, 2)) (h : cl N w L m) (hw : wfL N w) {t : Nat} (ht : t < 2 ^ 31) : lt_ev (d + 2) 97 [.inr (.inr (some L)), .inl (nI t)] m = some (some (.inl (nI (w_openSet w t))), m) := by
  refine (E97 (d + 1) L (nI t) h0 m).trans ?_
  have h20 := hw.2.2.1
  have e : w_openSet w t = bitsN (fun i => decide (i < w 2 ∧ w_of w i = t ∧ w_open w i = true)) 20 := by
    rw [bitsN_ext (a := w 2) (by omega) (fun i h1 h2 => by simp; omega)]
    exact bitsN_congr fun i hi => by simp [hi]
  rw [e]
  refine lp_it (F := fun i o => L97_14 (d + 1) L (nI t) (nI (bitsN (fun i => decide (i < w 2 ∧ w_of w i = t ∧ w_open w i = true)) i)) (nI i) o m) 20 ?_ ?_ none
  · intro i o hi
    refine ⟨some (.inr (.inr (some (L + 3 + 5 + 3 * i)))), ?_⟩
    rw [E97_14 _ _ _ _ _ _ h0]
    simp (disch := omega) only [q_20, sp_len, nI_clamp]
    rw [if_neg (by omega), lt_gd_t ⟨nI_pos' (by omega), hi⟩, p92 (d + 0) _ _ (sh_mv h0 hi) m, lt_cI_s, c92 h hw hi ht, bitsN_succ]
    by_cases c : i < w 2 ∧ w_of w i = t ∧ w_open w i = true
    · rw [if_pos c, if_neg (by decide), p65 (d + 0) _ (sh_mv h0 hi) m, lt_cI_s, c65 h hi, sp_orI (bitsN_lt _ i), nI_1, if_pos (by simp only [decide_eq_true_eq]; exact c)]
    · rw [if_neg c, if_pos rfl, sp_or0, nI_1, if_neg (by simp only [decide_eq_true_eq]; exact c)]; rfl
  · intro o
    rw [E97_14 _ _ _ _ _ _ h0, if_pos (by decide)]
/-- debtsOf -/
theorem k99 (d : Nat) (h0 : ts_sh L = (0, 2)) (h : cl N w L m) (hw : wfL N w) {t st : Nat} (ht : t < 2 ^ 31) (hst : st < 2 ^ 31) : lt_ev (d + 1) 99 [.inr (.inr (some L)), .inl (nI t), .inl (nI st)] m = some (some (.inl (nI (w_debts w t st))), m) := by
  refine (E99 d L (nI t) (nI st) h0 m).trans ?_
  have h20 := hw.2.2.1
  have e : w_debts w t st = sumN (fun i => if i < w 2 ∧ w_of w i = t ∧ w_st w i = st then w_db w i else 0) 20 := by
    rw [sumN_ext (a := w 2) (by omega) (fun i h1 h2 => by rw [if_neg (by omega)])]
    exact sumN_congr fun i hi => by simp [hi]
  rw [e]
  refine lp_it (F := fun i o => L99_16 d L (nI t) (nI st) (nI (sumN (fun i => if i < w 2 ∧ w_of w i = t ∧ w_st w i = st then w_db w i else 0) i)) (nI i) o m) 20 ?_ ?_ none
  · intro i o hi
    refine ⟨some (.inr (.inr (some (L + 3 + 5 + 3 * i)))), ?_⟩
    rw [E99_16 _ _ _ _ _ _ _ h0]
    simp (disch := omega) only [q_20, sp_len, nI_clamp]
    rw [if_neg (by omega), lt_gd_t ⟨nI_pos' (by omega), hi⟩]
    simp only [sumN]
    by_cases h2 : i < w 2
    · obtain ⟨e1, -, -, -, -, -, e7, -, -, e10, -⟩ := h.2.2.2.2.1 i h2
      have b7 := wf_st hw h2
      have b1 := wf_tr hw h2
      rw [e7, e1, e10]
      simp (disch := omega) only [sp_eqn]
      by_cases c1 : w_st w i = st
      · by_cases c2 : w_of w i = t
        · rw [if_neg (by simp [c1]), if_neg (by simp [c2]), if_pos ⟨h2, c2, c1⟩, nI_add, nI_1]
        · rw [if_neg (by simp [c1]), if_pos c2, if_neg (by simp [c2]), sp_add0, nI_1]; rfl
      · rw [if_pos c1, if_neg (by simp [c1]), sp_add0, nI_1]; rfl
    · rw [h.2.2.2.2.2.1 i (by omega) hi, if_pos (by rw [sp_m1' (by omega)]; decide), if_neg (by simp [h2]), sp_add0, nI_1]; rfl
  · intro o
    rw [E99_16 _ _ _ _ _ _ _ h0, if_pos (by decide)]
/-- brokenSeals -/
theorem k118 (d : Nat) (h0 : ts_sh L = (0, 2)) (h : cl N w L m) (hw : wfL N w) : lt_ev (d + 1) 118 [.inr (.inr (some L))] m = some (some (.inl (nI (w_broken w))), m) := by
  refine (E118 d L h0 m).trans ?_
  have h20 := hw.2.2.1
  have e : w_broken w = sumN (fun i => if i < w 2 then w_br w i else 0) 20 := by
    rw [sumN_ext (a := w 2) (by omega) (fun i h1 h2 => by rw [if_neg (by omega)])]
    exact sumN_congr fun i hi => by simp [hi]
  rw [e]
  refine lp_it (F := fun i o => L118_13 d L (nI (sumN (fun i => if i < w 2 then w_br w i else 0) i)) (nI i) o m) 20 ?_ ?_ none
  · intro i o hi
    refine ⟨some (.inr (.inr (some (L + 3 + 5 + 3 * i)))), ?_⟩
    rw [E118_13 _ _ _ _ _ h0]
    simp (disch := omega) only [q_20, sp_len, nI_clamp]
    rw [if_neg (by omega), lt_gd_t ⟨nI_pos' (by omega), hi⟩]
    simp only [sumN]
    by_cases h2 : i < w 2
    · obtain ⟨-, -, -, -, -, -, e7, -, -, -, e11, -⟩ := h.2.2.2.2.1 i h2
      have b7 := wf_st hw h2
      obtain ⟨-, -, -, -, -, -, -, -, -, -, -, b12, -⟩ := hw.2.2.2.2.2 i h2
      rw [e7, e11]
      simp (disch := omega) only [q_0, sp_eqn, sp_m1, if_false]
      rw [if_pos h2]
      have c : w_br w i = 0 ∨ w_br w i = 1 := by omega
      rcases c with c | c
      · rw [c, if_pos rfl, nI_1, nI_add]
      · rw [c, if_neg (by decide), nI_1, nI_1]
    · rw [h.2.2.2.2.2.1 i (by omega) hi, if_pos rfl, if_neg h2, sp_add0, nI_1]; rfl
  · intro o
    rw [E118_13 _ _ _ _ _ h0, if_pos (by decide)]
def w_seenAt (w : Nat → Nat) (o : Nat) : Nat := bitsN (fun i => w_goes w i && decide (w_seen w i = o)) (w 2)
theorem wf_rt (hw : wfL N w) {i k : Nat} (hi : i < w 2) (hk : k < w_lg w i) : w_rt w i k < N.1 := by
  obtain ⟨-, -, -, -, -, -, -, -, -, -, -, -, -, a, -⟩ := hw.2.2.2.2.2 i hi
  exact a k hk
end CL

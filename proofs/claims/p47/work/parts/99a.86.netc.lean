/-! ===== the constructor of a NET ===== -/
abbrev YC11 : ts_Y := (yX5_init, cX5_init, 1, none, 5)
theorem hYC11 : ts_mL[11]? = some YC11 := rfl
theorem dc11_0 : decode YC11.2.1 0 = .ok (.aload_n 0, 1) := by decide +kernel
theorem dc11_1 : decode YC11.2.1 1 = .ok (.invokespecial 3, 3) := by decide +kernel
theorem dc11_4 : decode YC11.2.1 4 = .ok (.aload_n 0, 1) := by decide +kernel
theorem dc11_5 : decode YC11.2.1 5 = .ok (.bipush 12, 2) := by decide +kernel
theorem dc11_7 : decode YC11.2.1 7 = .ok (.newarray .int, 2) := by decide +kernel
theorem dc11_9 : decode YC11.2.1 9 = .ok (.putfield 9, 3) := by decide +kernel
theorem dc11_12 : decode YC11.2.1 12 = .ok (.aload_n 0, 1) := by decide +kernel
theorem dc11_13 : decode YC11.2.1 13 = .ok (.bipush 6, 2) := by decide +kernel
theorem dc11_15 : decode YC11.2.1 15 = .ok (.newarray .int, 2) := by decide +kernel
theorem dc11_17 : decode YC11.2.1 17 = .ok (.putfield 15, 3) := by decide +kernel
theorem dc11_20 : decode YC11.2.1 20 = .ok (.aload_n 0, 1) := by decide +kernel
theorem dc11_21 : decode YC11.2.1 21 = .ok (.sipush 144, 3) := by decide +kernel
theorem dc11_24 : decode YC11.2.1 24 = .ok (.newarray .int, 2) := by decide +kernel
theorem dc11_26 : decode YC11.2.1 26 = .ok (.putfield 18, 3) := by decide +kernel
theorem dc11_29 : decode YC11.2.1 29 = .ok (.aload_n 0, 1) := by decide +kernel
theorem dc11_30 : decode YC11.2.1 30 = .ok (.sipush 144, 3) := by decide +kernel
theorem dc11_33 : decode YC11.2.1 33 = .ok (.newarray .int, 2) := by decide +kernel
theorem dc11_35 : decode YC11.2.1 35 = .ok (.putfield 21, 3) := by decide +kernel
theorem dc11_38 : decode YC11.2.1 38 = .ok (.aload_n 0, 1) := by decide +kernel
theorem dc11_39 : decode YC11.2.1 39 = .ok (.bipush 12, 2) := by decide +kernel
theorem dc11_41 : decode YC11.2.1 41 = .ok (.newarray .int, 2) := by decide +kernel
theorem dc11_43 : decode YC11.2.1 43 = .ok (.putfield 24, 3) := by decide +kernel
theorem dc11_46 : decode YC11.2.1 46 = .ok (.aload_n 0, 1) := by decide +kernel
theorem dc11_47 : decode YC11.2.1 47 = .ok (.new 27, 3) := by decide +kernel
theorem dc11_50 : decode YC11.2.1 50 = .ok (.dup, 1) := by decide +kernel
theorem dc11_51 : decode YC11.2.1 51 = .ok (.invokespecial 29, 3) := by decide +kernel
theorem dc11_54 : decode YC11.2.1 54 = .ok (.putfield 30, 3) := by decide +kernel
theorem dc11_57 : decode YC11.2.1 57 = .ok (.aload_n 0, 1) := by decide +kernel
theorem dc11_58 : decode YC11.2.1 58 = .ok (.iconst 2, 1) := by decide +kernel
theorem dc11_59 : decode YC11.2.1 59 = .ok (.putfield 34, 3) := by decide +kernel
theorem dc11_62 : decode YC11.2.1 62 = .ok (.aload_n 0, 1) := by decide +kernel
theorem dc11_63 : decode YC11.2.1 63 = .ok (.invokevirtual 38, 3) := by decide +kernel
theorem dc11_66 : decode YC11.2.1 66 = .ok (.aload_n 0, 1) := by decide +kernel
theorem dc11_67 : decode YC11.2.1 67 = .ok (.invokevirtual 41, 3) := by decide +kernel
theorem dc11_70 : decode YC11.2.1 70 = .ok (.return_, 1) := by decide +kernel
def N00 : NT := (2, 0, fun _ _ => 0, fun _ => 0, fun _ => 0)
theorem wfN_00 : wfN N00 := ⟨by decide, by decide, by decide, fun _ _ _ _ => Nat.zero_le _, fun _ _ _ _ => rfl, fun _ _ => rfl, fun _ _ => Nat.zero_le _, fun g hg => absurd hg (Nat.not_lt_zero g)⟩
theorem wtx_00 : (wtx N00).length = 3 := by decide
def ntT (A : Nat) (M : ts_M) : ts_M := (ts_wrI (ts_wrR (ts_wrR (ts_new (ts_new (ts_wrR (ts_new (ts_wrR (ts_new (ts_wrR (ts_new (ts_wrR (ts_new (ts_wrR (ts_new (ts_new M)) A 0 (some (A + 1)))) A 1 (some (A + 2)))) A 2 (some (A + 3)))) A 3 (some (A + 4)))) A 4 (some (A + 5))))) (A + 6) 0 (some (A + 7))) A 5 (some (A + 6))) A 6 (nI 2))
theorem ntT_n {A : Nat} {M : ts_M} (hn : M.2.2.2 = A) : (ntT A M).2.2.2 = A + 8 := by unfold ntT; simp only [wI_n, wR_n, nw_n, hn]
theorem ntT_o {A : Nat} {M : ts_M} (hn : M.2.2.2 = A) : ∀ b, b < A → ∀ j, (ntT A M).1 b j = M.1 b j ∧ (ntT A M).2.2.1 b j = M.2.2.1 b j := by
  intro b hb j
  unfold ntT
  exact ⟨(by simp (disch := (first | omega | (simp only [wI_n, wR_n, nw_n, hn]; done) | (simp only [wI_n, wR_n, nw_n, hn]; omega))) only [wI_i0, wI_i1, wI_r, wR_i, wR_r0, wR_r1, nw_i0, nw_i1, nw_r0, nw_r1]), (by simp (disch := (first | omega | (simp only [wI_n, wR_n, nw_n, hn]; done) | (simp only [wI_n, wR_n, nw_n, hn]; omega))) only [wI_i0, wI_i1, wI_r, wR_i, wR_r0, wR_r1, nw_i0, nw_i1, nw_r0, nw_r1])⟩
theorem ntT_i {A : Nat} {M : ts_M} (hn : M.2.2.2 = A) : ∀ b, A ≤ b → b < A + 8 → ∀ j, (ntT A M).1 b j = if b = A ∧ j = 6 then nI 2 else 0 := by
  intro b b1 b2 j
  unfold ntT
  have cs : b = A ∨ b = A + 1 ∨ b = A + 2 ∨ b = A + 3 ∨ b = A + 4 ∨ b = A + 5 ∨ b = A + 6 ∨ b = A + 7 := by omega
  rcases cs with e | e | e | e | e | e | e | e
  · by_cases j6 : j = 6
    · rw [if_pos ⟨e, j6⟩]; exact (by simp (disch := (first | omega | (simp only [wI_n, wR_n, nw_n, hn]; done) | (simp only [wI_n, wR_n, nw_n, hn]; omega))) only [wI_i0, wI_i1, wI_r, wR_i, wR_r0, wR_r1, nw_i0, nw_i1, nw_r0, nw_r1])
    · rw [if_neg (by omega)]; exact (by simp (disch := (first | omega | (simp only [wI_n, wR_n, nw_n, hn]; done) | (simp only [wI_n, wR_n, nw_n, hn]; omega))) only [wI_i0, wI_i1, wI_r, wR_i, wR_r0, wR_r1, nw_i0, nw_i1, nw_r0, nw_r1])
  · rw [if_neg (by omega)]; exact (by simp (disch := (first | omega | (simp only [wI_n, wR_n, nw_n, hn]; done) | (simp only [wI_n, wR_n, nw_n, hn]; omega))) only [wI_i0, wI_i1, wI_r, wR_i, wR_r0, wR_r1, nw_i0, nw_i1, nw_r0, nw_r1])
  · rw [if_neg (by omega)]; exact (by simp (disch := (first | omega | (simp only [wI_n, wR_n, nw_n, hn]; done) | (simp only [wI_n, wR_n, nw_n, hn]; omega))) only [wI_i0, wI_i1, wI_r, wR_i, wR_r0, wR_r1, nw_i0, nw_i1, nw_r0, nw_r1])
  · rw [if_neg (by omega)]; exact (by simp (disch := (first | omega | (simp only [wI_n, wR_n, nw_n, hn]; done) | (simp only [wI_n, wR_n, nw_n, hn]; omega))) only [wI_i0, wI_i1, wI_r, wR_i, wR_r0, wR_r1, nw_i0, nw_i1, nw_r0, nw_r1])
  · rw [if_neg (by omega)]; exact (by simp (disch := (first | omega | (simp only [wI_n, wR_n, nw_n, hn]; done) | (simp only [wI_n, wR_n, nw_n, hn]; omega))) only [wI_i0, wI_i1, wI_r, wR_i, wR_r0, wR_r1, nw_i0, nw_i1, nw_r0, nw_r1])
  · rw [if_neg (by omega)]; exact (by simp (disch := (first | omega | (simp only [wI_n, wR_n, nw_n, hn]; done) | (simp only [wI_n, wR_n, nw_n, hn]; omega))) only [wI_i0, wI_i1, wI_r, wR_i, wR_r0, wR_r1, nw_i0, nw_i1, nw_r0, nw_r1])
  · rw [if_neg (by omega)]; exact (by simp (disch := (first | omega | (simp only [wI_n, wR_n, nw_n, hn]; done) | (simp only [wI_n, wR_n, nw_n, hn]; omega))) only [wI_i0, wI_i1, wI_r, wR_i, wR_r0, wR_r1, nw_i0, nw_i1, nw_r0, nw_r1])
  · rw [if_neg (by omega)]; exact (by simp (disch := (first | omega | (simp only [wI_n, wR_n, nw_n, hn]; done) | (simp only [wI_n, wR_n, nw_n, hn]; omega))) only [wI_i0, wI_i1, wI_r, wR_i, wR_r0, wR_r1, nw_i0, nw_i1, nw_r0, nw_r1])
theorem ntT_r {A : Nat} {M : ts_M} (hn : M.2.2.2 = A) : ∀ b, A ≤ b → b < A + 8 → ∀ j, (ntT A M).2.2.1 b j = if b = A ∧ j < 6 then some (A + (j + 1)) else if b = A + 6 ∧ j = 0 then some (A + 7) else none := by
  intro b b1 b2 j
  unfold ntT
  have cs : b = A ∨ b = A + 1 ∨ b = A + 2 ∨ b = A + 3 ∨ b = A + 4 ∨ b = A + 5 ∨ b = A + 6 ∨ b = A + 7 := by omega
  rcases cs with e | e | e | e | e | e | e | e
  · by_cases j6 : j < 6
    · rw [if_pos ⟨e, j6⟩]
      have cj : j = 0 ∨ j = 1 ∨ j = 2 ∨ j = 3 ∨ j = 4 ∨ j = 5 := by omega
      rcases cj with q | q | q | q | q | q
      · rw [q]; exact (by simp (disch := (first | omega | (simp only [wI_n, wR_n, nw_n, hn]; done) | (simp only [wI_n, wR_n, nw_n, hn]; omega))) only [wI_i0, wI_i1, wI_r, wR_i, wR_r0, wR_r1, nw_i0, nw_i1, nw_r0, nw_r1])
      · rw [q]; exact (by simp (disch := (first | omega | (simp only [wI_n, wR_n, nw_n, hn]; done) | (simp only [wI_n, wR_n, nw_n, hn]; omega))) only [wI_i0, wI_i1, wI_r, wR_i, wR_r0, wR_r1, nw_i0, nw_i1, nw_r0, nw_r1])
      · rw [q]; exact (by simp (disch := (first | omega | (simp only [wI_n, wR_n, nw_n, hn]; done) | (simp only [wI_n, wR_n, nw_n, hn]; omega))) only [wI_i0, wI_i1, wI_r, wR_i, wR_r0, wR_r1, nw_i0, nw_i1, nw_r0, nw_r1])
      · rw [q]; exact (by simp (disch := (first | omega | (simp only [wI_n, wR_n, nw_n, hn]; done) | (simp only [wI_n, wR_n, nw_n, hn]; omega))) only [wI_i0, wI_i1, wI_r, wR_i, wR_r0, wR_r1, nw_i0, nw_i1, nw_r0, nw_r1])
      · rw [q]; exact (by simp (disch := (first | omega | (simp only [wI_n, wR_n, nw_n, hn]; done) | (simp only [wI_n, wR_n, nw_n, hn]; omega))) only [wI_i0, wI_i1, wI_r, wR_i, wR_r0, wR_r1, nw_i0, nw_i1, nw_r0, nw_r1])
      · rw [q]; exact (by simp (disch := (first | omega | (simp only [wI_n, wR_n, nw_n, hn]; done) | (simp only [wI_n, wR_n, nw_n, hn]; omega))) only [wI_i0, wI_i1, wI_r, wR_i, wR_r0, wR_r1, nw_i0, nw_i1, nw_r0, nw_r1])
    · rw [if_neg (by omega), if_neg (by omega)]; exact (by simp (disch := (first | omega | (simp only [wI_n, wR_n, nw_n, hn]; done) | (simp only [wI_n, wR_n, nw_n, hn]; omega))) only [wI_i0, wI_i1, wI_r, wR_i, wR_r0, wR_r1, nw_i0, nw_i1, nw_r0, nw_r1])
  · rw [if_neg (by omega), if_neg (by omega)]; exact (by simp (disch := (first | omega | (simp only [wI_n, wR_n, nw_n, hn]; done) | (simp only [wI_n, wR_n, nw_n, hn]; omega))) only [wI_i0, wI_i1, wI_r, wR_i, wR_r0, wR_r1, nw_i0, nw_i1, nw_r0, nw_r1])
  · rw [if_neg (by omega), if_neg (by omega)]; exact (by simp (disch := (first | omega | (simp only [wI_n, wR_n, nw_n, hn]; done) | (simp only [wI_n, wR_n, nw_n, hn]; omega))) only [wI_i0, wI_i1, wI_r, wR_i, wR_r0, wR_r1, nw_i0, nw_i1, nw_r0, nw_r1])
  · rw [if_neg (by omega), if_neg (by omega)]; exact (by simp (disch := (first | omega | (simp only [wI_n, wR_n, nw_n, hn]; done) | (simp only [wI_n, wR_n, nw_n, hn]; omega))) only [wI_i0, wI_i1, wI_r, wR_i, wR_r0, wR_r1, nw_i0, nw_i1, nw_r0, nw_r1])
  · rw [if_neg (by omega), if_neg (by omega)]; exact (by simp (disch := (first | omega | (simp only [wI_n, wR_n, nw_n, hn]; done) | (simp only [wI_n, wR_n, nw_n, hn]; omega))) only [wI_i0, wI_i1, wI_r, wR_i, wR_r0, wR_r1, nw_i0, nw_i1, nw_r0, nw_r1])
  · rw [if_neg (by omega), if_neg (by omega)]; exact (by simp (disch := (first | omega | (simp only [wI_n, wR_n, nw_n, hn]; done) | (simp only [wI_n, wR_n, nw_n, hn]; omega))) only [wI_i0, wI_i1, wI_r, wR_i, wR_r0, wR_r1, nw_i0, nw_i1, nw_r0, nw_r1])
  · rw [if_neg (by omega)]
    by_cases j0 : j = 0
    · rw [if_pos ⟨e, j0⟩]; exact (by simp (disch := (first | omega | (simp only [wI_n, wR_n, nw_n, hn]; done) | (simp only [wI_n, wR_n, nw_n, hn]; omega))) only [wI_i0, wI_i1, wI_r, wR_i, wR_r0, wR_r1, nw_i0, nw_i1, nw_r0, nw_r1])
    · rw [if_neg (by omega)]; exact (by simp (disch := (first | omega | (simp only [wI_n, wR_n, nw_n, hn]; done) | (simp only [wI_n, wR_n, nw_n, hn]; omega))) only [wI_i0, wI_i1, wI_r, wR_i, wR_r0, wR_r1, nw_i0, nw_i1, nw_r0, nw_r1])
  · rw [if_neg (by omega), if_neg (by omega)]; exact (by simp (disch := (first | omega | (simp only [wI_n, wR_n, nw_n, hn]; done) | (simp only [wI_n, wR_n, nw_n, hn]; omega))) only [wI_i0, wI_i1, wI_r, wR_i, wR_r0, wR_r1, nw_i0, nw_i1, nw_r0, nw_r1])
theorem off_5 : ∀ j, ts_off 5 j = if j < 6 then j + 1 else 0 := by
  intro j
  rcases Nat.lt_or_ge j 6 with c | c
  · have cj : j = 0 ∨ j = 1 ∨ j = 2 ∨ j = 3 ∨ j = 4 ∨ j = 5 := by omega
    rcases cj with q | q | q | q | q | q <;> subst q <;> rfl
  · obtain ⟨t, rfl⟩ : ∃ t, j = t + 6 := ⟨j - 6, by omega⟩
    rw [if_neg (by omega)]
    rfl
theorem off_10' : ∀ j, ts_off 10 j = if j = 0 then 1 else 0 := by
  intro j
  cases j with
  | zero => rfl
  | succ j => rfl
/-- in a NET's cells, the memory is as a light one's -/
theorem ntT_G {A : Nat} {M : ts_M} (hn : M.2.2.2 = A) (hA : ts_sh A = (0, 5)) : ∀ b, A ≤ b → b < A + 8 → ∀ j, (ntT A M).2.2.1 b j = ts_G b j := by
  intro b b1 b2 j
  have t1 : ts_sh (A + 1) = (1, 12) := sf_of hA 0 (by decide) (by decide)
  have t2 : ts_sh (A + 2) = (1, 6) := sf_of hA 1 (by decide) (by decide)
  have t3 : ts_sh (A + 3) = (1, 144) := sf_of hA 2 (by decide) (by decide)
  have t4 : ts_sh (A + 4) = (1, 144) := sf_of hA 3 (by decide) (by decide)
  have t5 : ts_sh (A + 5) = (1, 12) := sf_of hA 4 (by decide) (by decide)
  have t6 : ts_sh (A + 6) = (0, 10) := sf_of hA 5 (by decide) (by decide)
  have t7 : ts_sh (A + 7) = (1, 200) := sf_of t6 0 (by decide) (by decide)
  have g1 : ∀ {b n}, ts_sh b = (1, n) → ts_G b j = none := fun {b n} h => by unfold ts_G; rw [h]; rfl
  rw [ntT_r hn b b1 b2 j]
  have cs : b = A ∨ b = A + 1 ∨ b = A + 2 ∨ b = A + 3 ∨ b = A + 4 ∨ b = A + 5 ∨ b = A + 6 ∨ b = A + 7 := by omega
  rcases cs with e | e | e | e | e | e | e | e
  · rw [e, tG_0 hA, off_5]
    by_cases j6 : j < 6
    · rw [if_pos ⟨rfl, j6⟩, if_pos j6, if_neg (by omega)]
    · rw [if_neg (by omega), if_neg (by omega), if_neg j6, if_pos rfl]
  · rw [if_neg (by omega), if_neg (by omega), e, g1 t1]
  · rw [if_neg (by omega), if_neg (by omega), e, g1 t2]
  · rw [if_neg (by omega), if_neg (by omega), e, g1 t3]
  · rw [if_neg (by omega), if_neg (by omega), e, g1 t4]
  · rw [if_neg (by omega), if_neg (by omega), e, g1 t5]
  · rw [if_neg (by omega), e, tG_0 t6, off_10']
    by_cases j0 : j = 0
    · rw [if_pos ⟨rfl, j0⟩, if_pos j0, if_neg (by decide)]
    · rw [if_neg (by omega), if_neg j0, if_pos rfl]
  · rw [if_neg (by omega), if_neg (by omega), e, g1 t7]

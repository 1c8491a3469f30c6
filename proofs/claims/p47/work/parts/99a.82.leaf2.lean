/-! ===== what the constructors that make rows alone leave ===== -/
section LEAF
variable {M : ts_M} {n : Nat}
def ldI8 (n : Nat) (b j : Nat) : Int32 := 0
theorem cX_8 (hn : M.2.2.2 = n) (h0 : ts_sh n = (0, 0)) : cX n (n + 4) (ldI8 n) M (kM8 n (ts_new M)) := by
  have h1 : ts_sh (n + 1) = (1, 30) := sf_of h0 0 (by decide) (by decide)
  have h2 : ts_sh (n + 2) = (1, 30) := sf_of h0 1 (by decide) (by decide)
  have h3 : ts_sh (n + 3) = (1, 30) := sf_of h0 2 (by decide) (by decide)
  unfold kM8
  refine ⟨by simp only [wI_n, wR_n, nw_n, hn], fun b hb j => ⟨?_, ?_⟩, fun b b1 b2 j => ?_, fun b b1 b2 j hj => ?_⟩
  · simp (disch := (first | omega | (simp only [wI_n, wR_n, nw_n, hn]; done) | (simp only [wI_n, wR_n, nw_n, hn]; omega))) only [wI_i0, wI_i1, wI_r, wR_i, wR_r0, wR_r1, nw_i0, nw_i1, nw_r0, nw_r1]
  · simp (disch := (first | omega | (simp only [wI_n, wR_n, nw_n, hn]; done) | (simp only [wI_n, wR_n, nw_n, hn]; omega))) only [wI_i0, wI_i1, wI_r, wR_i, wR_r0, wR_r1, nw_i0, nw_i1, nw_r0, nw_r1]
  · unfold ldI8
    have cs : b = n ∨ b = n + 1 ∨ b = n + 2 ∨ b = n + 3 := by omega
    rcases cs with e | e | e | e
    · simp (disch := (first | omega | (simp only [wI_n, wR_n, nw_n, hn]; done) | (simp only [wI_n, wR_n, nw_n, hn]; omega))) only [wI_i0, wI_i1, wI_r, wR_i, wR_r0, wR_r1, nw_i0, nw_i1, nw_r0, nw_r1]
    · simp (disch := (first | omega | (simp only [wI_n, wR_n, nw_n, hn]; done) | (simp only [wI_n, wR_n, nw_n, hn]; omega))) only [wI_i0, wI_i1, wI_r, wR_i, wR_r0, wR_r1, nw_i0, nw_i1, nw_r0, nw_r1]
    · simp (disch := (first | omega | (simp only [wI_n, wR_n, nw_n, hn]; done) | (simp only [wI_n, wR_n, nw_n, hn]; omega))) only [wI_i0, wI_i1, wI_r, wR_i, wR_r0, wR_r1, nw_i0, nw_i1, nw_r0, nw_r1]
    · simp (disch := (first | omega | (simp only [wI_n, wR_n, nw_n, hn]; done) | (simp only [wI_n, wR_n, nw_n, hn]; omega))) only [wI_i0, wI_i1, wI_r, wR_i, wR_r0, wR_r1, nw_i0, nw_i1, nw_r0, nw_r1]
  · have cs : b = n ∨ b = n + 1 ∨ b = n + 2 ∨ b = n + 3 := by omega
    rcases cs with e | e | e | e
    · rw [e, rkk_0 h0] at hj
      have hj : j < 4 := hj
      rw [e, tG_0 h0]
      have cj : j = 0 ∨ j = 1 ∨ j = 2 ∨ j = 3 := by omega
      rcases cj with q | q | q | q
      · rw [q, if_neg (by decide)]; simp (disch := (first | omega | (simp only [wI_n, wR_n, nw_n, hn]; done) | (simp only [wI_n, wR_n, nw_n, hn]; omega))) only [wI_i0, wI_i1, wI_r, wR_i, wR_r0, wR_r1, nw_i0, nw_i1, nw_r0, nw_r1]
        first | done | (simp only [nw_n, wI_n, wR_n, hn]; first | done | rfl)
      · rw [q, if_neg (by decide)]; simp (disch := (first | omega | (simp only [wI_n, wR_n, nw_n, hn]; done) | (simp only [wI_n, wR_n, nw_n, hn]; omega))) only [wI_i0, wI_i1, wI_r, wR_i, wR_r0, wR_r1, nw_i0, nw_i1, nw_r0, nw_r1]
        first | done | (simp only [nw_n, wI_n, wR_n, hn]; first | done | rfl)
      · rw [q, if_neg (by decide)]; simp (disch := (first | omega | (simp only [wI_n, wR_n, nw_n, hn]; done) | (simp only [wI_n, wR_n, nw_n, hn]; omega))) only [wI_i0, wI_i1, wI_r, wR_i, wR_r0, wR_r1, nw_i0, nw_i1, nw_r0, nw_r1]
        first | done | (simp only [nw_n, wI_n, wR_n, hn]; first | done | rfl)
      · rw [q, if_pos (by decide)]; simp (disch := (first | omega | (simp only [wI_n, wR_n, nw_n, hn]; done) | (simp only [wI_n, wR_n, nw_n, hn]; omega))) only [wI_i0, wI_i1, wI_r, wR_i, wR_r0, wR_r1, nw_i0, nw_i1, nw_r0, nw_r1]
    · rw [e, rkk_1 h1] at hj; omega
    · rw [e, rkk_1 h2] at hj; omega
    · rw [e, rkk_1 h3] at hj; omega
def ldI2 (n : Nat) (b j : Nat) : Int32 := 0
theorem cX_2 (hn : M.2.2.2 = n) (h0 : ts_sh n = (0, 10)) : cX n (n + 2) (ldI2 n) M (kM2 n (ts_new M)) := by
  have h1 : ts_sh (n + 1) = (1, 200) := sf_of h0 0 (by decide) (by decide)
  unfold kM2
  refine ⟨by simp only [wI_n, wR_n, nw_n, hn], fun b hb j => ⟨?_, ?_⟩, fun b b1 b2 j => ?_, fun b b1 b2 j hj => ?_⟩
  · simp (disch := (first | omega | (simp only [wI_n, wR_n, nw_n, hn]; done) | (simp only [wI_n, wR_n, nw_n, hn]; omega))) only [wI_i0, wI_i1, wI_r, wR_i, wR_r0, wR_r1, nw_i0, nw_i1, nw_r0, nw_r1]
  · simp (disch := (first | omega | (simp only [wI_n, wR_n, nw_n, hn]; done) | (simp only [wI_n, wR_n, nw_n, hn]; omega))) only [wI_i0, wI_i1, wI_r, wR_i, wR_r0, wR_r1, nw_i0, nw_i1, nw_r0, nw_r1]
  · unfold ldI2
    have cs : b = n ∨ b = n + 1 := by omega
    rcases cs with e | e
    · simp (disch := (first | omega | (simp only [wI_n, wR_n, nw_n, hn]; done) | (simp only [wI_n, wR_n, nw_n, hn]; omega))) only [wI_i0, wI_i1, wI_r, wR_i, wR_r0, wR_r1, nw_i0, nw_i1, nw_r0, nw_r1]
    · simp (disch := (first | omega | (simp only [wI_n, wR_n, nw_n, hn]; done) | (simp only [wI_n, wR_n, nw_n, hn]; omega))) only [wI_i0, wI_i1, wI_r, wR_i, wR_r0, wR_r1, nw_i0, nw_i1, nw_r0, nw_r1]
  · have cs : b = n ∨ b = n + 1 := by omega
    rcases cs with e | e
    · rw [e, rkk_0 h0] at hj
      have hj : j < 2 := hj
      rw [e, tG_0 h0]
      have cj : j = 0 ∨ j = 1 := by omega
      rcases cj with q | q
      · rw [q, if_neg (by decide)]; simp (disch := (first | omega | (simp only [wI_n, wR_n, nw_n, hn]; done) | (simp only [wI_n, wR_n, nw_n, hn]; omega))) only [wI_i0, wI_i1, wI_r, wR_i, wR_r0, wR_r1, nw_i0, nw_i1, nw_r0, nw_r1]
        first | done | (simp only [nw_n, wI_n, wR_n, hn]; first | done | rfl)
      · rw [q, if_pos (by decide)]; simp (disch := (first | omega | (simp only [wI_n, wR_n, nw_n, hn]; done) | (simp only [wI_n, wR_n, nw_n, hn]; omega))) only [wI_i0, wI_i1, wI_r, wR_i, wR_r0, wR_r1, nw_i0, nw_i1, nw_r0, nw_r1]
    · rw [e, rkk_1 h1] at hj; omega
def ldI3 (n : Nat) (b j : Nat) : Int32 := 0
theorem cX_3 (hn : M.2.2.2 = n) (h0 : ts_sh n = (0, 8)) : cX n (n + 2) (ldI3 n) M (kM3 n (ts_new M)) := by
  have h1 : ts_sh (n + 1) = (1, 12) := sf_of h0 0 (by decide) (by decide)
  unfold kM3
  refine ⟨by simp only [wI_n, wR_n, nw_n, hn], fun b hb j => ⟨?_, ?_⟩, fun b b1 b2 j => ?_, fun b b1 b2 j hj => ?_⟩
  · simp (disch := (first | omega | (simp only [wI_n, wR_n, nw_n, hn]; done) | (simp only [wI_n, wR_n, nw_n, hn]; omega))) only [wI_i0, wI_i1, wI_r, wR_i, wR_r0, wR_r1, nw_i0, nw_i1, nw_r0, nw_r1]
  · simp (disch := (first | omega | (simp only [wI_n, wR_n, nw_n, hn]; done) | (simp only [wI_n, wR_n, nw_n, hn]; omega))) only [wI_i0, wI_i1, wI_r, wR_i, wR_r0, wR_r1, nw_i0, nw_i1, nw_r0, nw_r1]
  · unfold ldI3
    have cs : b = n ∨ b = n + 1 := by omega
    rcases cs with e | e
    · simp (disch := (first | omega | (simp only [wI_n, wR_n, nw_n, hn]; done) | (simp only [wI_n, wR_n, nw_n, hn]; omega))) only [wI_i0, wI_i1, wI_r, wR_i, wR_r0, wR_r1, nw_i0, nw_i1, nw_r0, nw_r1]
    · simp (disch := (first | omega | (simp only [wI_n, wR_n, nw_n, hn]; done) | (simp only [wI_n, wR_n, nw_n, hn]; omega))) only [wI_i0, wI_i1, wI_r, wR_i, wR_r0, wR_r1, nw_i0, nw_i1, nw_r0, nw_r1]
  · have cs : b = n ∨ b = n + 1 := by omega
    rcases cs with e | e
    · rw [e, rkk_0 h0] at hj
      have hj : j < 2 := hj
      rw [e, tG_0 h0]
      have cj : j = 0 ∨ j = 1 := by omega
      rcases cj with q | q
      · rw [q, if_neg (by decide)]; simp (disch := (first | omega | (simp only [wI_n, wR_n, nw_n, hn]; done) | (simp only [wI_n, wR_n, nw_n, hn]; omega))) only [wI_i0, wI_i1, wI_r, wR_i, wR_r0, wR_r1, nw_i0, nw_i1, nw_r0, nw_r1]
        first | done | (simp only [nw_n, wI_n, wR_n, hn]; first | done | rfl)
      · rw [q, if_pos (by decide)]; simp (disch := (first | omega | (simp only [wI_n, wR_n, nw_n, hn]; done) | (simp only [wI_n, wR_n, nw_n, hn]; omega))) only [wI_i0, wI_i1, wI_r, wR_i, wR_r0, wR_r1, nw_i0, nw_i1, nw_r0, nw_r1]
    · rw [e, rkk_1 h1] at hj; omega
def ldI4 (n : Nat) (b j : Nat) : Int32 := 0
theorem cX_4 (hn : M.2.2.2 = n) (h0 : ts_sh n = (0, 7)) : cX n (n + 2) (ldI4 n) M (kM4 n (ts_new M)) := by
  have h1 : ts_sh (n + 1) = (1, 8) := sf_of h0 0 (by decide) (by decide)
  unfold kM4
  refine ⟨by simp only [wI_n, wR_n, nw_n, hn], fun b hb j => ⟨?_, ?_⟩, fun b b1 b2 j => ?_, fun b b1 b2 j hj => ?_⟩
  · simp (disch := (first | omega | (simp only [wI_n, wR_n, nw_n, hn]; done) | (simp only [wI_n, wR_n, nw_n, hn]; omega))) only [wI_i0, wI_i1, wI_r, wR_i, wR_r0, wR_r1, nw_i0, nw_i1, nw_r0, nw_r1]
  · simp (disch := (first | omega | (simp only [wI_n, wR_n, nw_n, hn]; done) | (simp only [wI_n, wR_n, nw_n, hn]; omega))) only [wI_i0, wI_i1, wI_r, wR_i, wR_r0, wR_r1, nw_i0, nw_i1, nw_r0, nw_r1]
  · unfold ldI4
    have cs : b = n ∨ b = n + 1 := by omega
    rcases cs with e | e
    · simp (disch := (first | omega | (simp only [wI_n, wR_n, nw_n, hn]; done) | (simp only [wI_n, wR_n, nw_n, hn]; omega))) only [wI_i0, wI_i1, wI_r, wR_i, wR_r0, wR_r1, nw_i0, nw_i1, nw_r0, nw_r1]
    · simp (disch := (first | omega | (simp only [wI_n, wR_n, nw_n, hn]; done) | (simp only [wI_n, wR_n, nw_n, hn]; omega))) only [wI_i0, wI_i1, wI_r, wR_i, wR_r0, wR_r1, nw_i0, nw_i1, nw_r0, nw_r1]
  · have cs : b = n ∨ b = n + 1 := by omega
    rcases cs with e | e
    · rw [e, rkk_0 h0] at hj
      have hj : j < 3 := hj
      rw [e, tG_0 h0]
      have cj : j = 0 ∨ j = 1 ∨ j = 2 := by omega
      rcases cj with q | q | q
      · rw [q, if_neg (by decide)]; simp (disch := (first | omega | (simp only [wI_n, wR_n, nw_n, hn]; done) | (simp only [wI_n, wR_n, nw_n, hn]; omega))) only [wI_i0, wI_i1, wI_r, wR_i, wR_r0, wR_r1, nw_i0, nw_i1, nw_r0, nw_r1]
        first | done | (simp only [nw_n, wI_n, wR_n, hn]; first | done | rfl)
      · rw [q, if_pos (by decide)]; simp (disch := (first | omega | (simp only [wI_n, wR_n, nw_n, hn]; done) | (simp only [wI_n, wR_n, nw_n, hn]; omega))) only [wI_i0, wI_i1, wI_r, wR_i, wR_r0, wR_r1, nw_i0, nw_i1, nw_r0, nw_r1]
      · rw [q, if_pos (by decide)]; simp (disch := (first | omega | (simp only [wI_n, wR_n, nw_n, hn]; done) | (simp only [wI_n, wR_n, nw_n, hn]; omega))) only [wI_i0, wI_i1, wI_r, wR_i, wR_r0, wR_r1, nw_i0, nw_i1, nw_r0, nw_r1]
    · rw [e, rkk_1 h1] at hj; omega
def ldI5 (n : Nat) (b j : Nat) : Int32 := 0
theorem cX_5 (hn : M.2.2.2 = n) (h0 : ts_sh n = (0, 3)) : cX n (n + 4) (ldI5 n) M (kM5 n (ts_new M)) := by
  have h1 : ts_sh (n + 1) = (1, 8) := sf_of h0 0 (by decide) (by decide)
  have h2 : ts_sh (n + 2) = (1, 8) := sf_of h0 1 (by decide) (by decide)
  have h3 : ts_sh (n + 3) = (1, 8) := sf_of h0 2 (by decide) (by decide)
  unfold kM5
  refine ⟨by simp only [wI_n, wR_n, nw_n, hn], fun b hb j => ⟨?_, ?_⟩, fun b b1 b2 j => ?_, fun b b1 b2 j hj => ?_⟩
  · simp (disch := (first | omega | (simp only [wI_n, wR_n, nw_n, hn]; done) | (simp only [wI_n, wR_n, nw_n, hn]; omega))) only [wI_i0, wI_i1, wI_r, wR_i, wR_r0, wR_r1, nw_i0, nw_i1, nw_r0, nw_r1]
  · simp (disch := (first | omega | (simp only [wI_n, wR_n, nw_n, hn]; done) | (simp only [wI_n, wR_n, nw_n, hn]; omega))) only [wI_i0, wI_i1, wI_r, wR_i, wR_r0, wR_r1, nw_i0, nw_i1, nw_r0, nw_r1]
  · unfold ldI5
    have cs : b = n ∨ b = n + 1 ∨ b = n + 2 ∨ b = n + 3 := by omega
    rcases cs with e | e | e | e
    · simp (disch := (first | omega | (simp only [wI_n, wR_n, nw_n, hn]; done) | (simp only [wI_n, wR_n, nw_n, hn]; omega))) only [wI_i0, wI_i1, wI_r, wR_i, wR_r0, wR_r1, nw_i0, nw_i1, nw_r0, nw_r1]
    · simp (disch := (first | omega | (simp only [wI_n, wR_n, nw_n, hn]; done) | (simp only [wI_n, wR_n, nw_n, hn]; omega))) only [wI_i0, wI_i1, wI_r, wR_i, wR_r0, wR_r1, nw_i0, nw_i1, nw_r0, nw_r1]
    · simp (disch := (first | omega | (simp only [wI_n, wR_n, nw_n, hn]; done) | (simp only [wI_n, wR_n, nw_n, hn]; omega))) only [wI_i0, wI_i1, wI_r, wR_i, wR_r0, wR_r1, nw_i0, nw_i1, nw_r0, nw_r1]
    · simp (disch := (first | omega | (simp only [wI_n, wR_n, nw_n, hn]; done) | (simp only [wI_n, wR_n, nw_n, hn]; omega))) only [wI_i0, wI_i1, wI_r, wR_i, wR_r0, wR_r1, nw_i0, nw_i1, nw_r0, nw_r1]
  · have cs : b = n ∨ b = n + 1 ∨ b = n + 2 ∨ b = n + 3 := by omega
    rcases cs with e | e | e | e
    · rw [e, rkk_0 h0] at hj
      have hj : j < 7 := hj
      rw [e, tG_0 h0]
      have cj : j = 0 ∨ j = 1 ∨ j = 2 ∨ j = 3 ∨ j = 4 ∨ j = 5 ∨ j = 6 := by omega
      rcases cj with q | q | q | q | q | q | q
      · rw [q, if_neg (by decide)]; simp (disch := (first | omega | (simp only [wI_n, wR_n, nw_n, hn]; done) | (simp only [wI_n, wR_n, nw_n, hn]; omega))) only [wI_i0, wI_i1, wI_r, wR_i, wR_r0, wR_r1, nw_i0, nw_i1, nw_r0, nw_r1]
        first | done | (simp only [nw_n, wI_n, wR_n, hn]; first | done | rfl)
      · rw [q, if_neg (by decide)]; simp (disch := (first | omega | (simp only [wI_n, wR_n, nw_n, hn]; done) | (simp only [wI_n, wR_n, nw_n, hn]; omega))) only [wI_i0, wI_i1, wI_r, wR_i, wR_r0, wR_r1, nw_i0, nw_i1, nw_r0, nw_r1]
        first | done | (simp only [nw_n, wI_n, wR_n, hn]; first | done | rfl)
      · rw [q, if_neg (by decide)]; simp (disch := (first | omega | (simp only [wI_n, wR_n, nw_n, hn]; done) | (simp only [wI_n, wR_n, nw_n, hn]; omega))) only [wI_i0, wI_i1, wI_r, wR_i, wR_r0, wR_r1, nw_i0, nw_i1, nw_r0, nw_r1]
        first | done | (simp only [nw_n, wI_n, wR_n, hn]; first | done | rfl)
      · rw [q, if_pos (by decide)]; simp (disch := (first | omega | (simp only [wI_n, wR_n, nw_n, hn]; done) | (simp only [wI_n, wR_n, nw_n, hn]; omega))) only [wI_i0, wI_i1, wI_r, wR_i, wR_r0, wR_r1, nw_i0, nw_i1, nw_r0, nw_r1]
      · rw [q, if_pos (by decide)]; simp (disch := (first | omega | (simp only [wI_n, wR_n, nw_n, hn]; done) | (simp only [wI_n, wR_n, nw_n, hn]; omega))) only [wI_i0, wI_i1, wI_r, wR_i, wR_r0, wR_r1, nw_i0, nw_i1, nw_r0, nw_r1]
      · rw [q, if_pos (by decide)]; simp (disch := (first | omega | (simp only [wI_n, wR_n, nw_n, hn]; done) | (simp only [wI_n, wR_n, nw_n, hn]; omega))) only [wI_i0, wI_i1, wI_r, wR_i, wR_r0, wR_r1, nw_i0, nw_i1, nw_r0, nw_r1]
      · rw [q, if_pos (by decide)]; simp (disch := (first | omega | (simp only [wI_n, wR_n, nw_n, hn]; done) | (simp only [wI_n, wR_n, nw_n, hn]; omega))) only [wI_i0, wI_i1, wI_r, wR_i, wR_r0, wR_r1, nw_i0, nw_i1, nw_r0, nw_r1]
    · rw [e, rkk_1 h1] at hj; omega
    · rw [e, rkk_1 h2] at hj; omega
    · rw [e, rkk_1 h3] at hj; omega
def ldI6 (n : Nat) (b j : Nat) : Int32 := 0
theorem cX_6 (hn : M.2.2.2 = n) (h0 : ts_sh n = (0, 9)) : cX n (n + 1) (ldI6 n) M (kM6 n (ts_new M)) := by
  unfold kM6
  refine ⟨by simp only [wI_n, wR_n, nw_n, hn], fun b hb j => ⟨?_, ?_⟩, fun b b1 b2 j => ?_, fun b b1 b2 j hj => ?_⟩
  · simp (disch := (first | omega | (simp only [wI_n, wR_n, nw_n, hn]; done) | (simp only [wI_n, wR_n, nw_n, hn]; omega))) only [wI_i0, wI_i1, wI_r, wR_i, wR_r0, wR_r1, nw_i0, nw_i1, nw_r0, nw_r1]
  · simp (disch := (first | omega | (simp only [wI_n, wR_n, nw_n, hn]; done) | (simp only [wI_n, wR_n, nw_n, hn]; omega))) only [wI_i0, wI_i1, wI_r, wR_i, wR_r0, wR_r1, nw_i0, nw_i1, nw_r0, nw_r1]
  · unfold ldI6
    have e : b = n := by omega
    · simp (disch := (first | omega | (simp only [wI_n, wR_n, nw_n, hn]; done) | (simp only [wI_n, wR_n, nw_n, hn]; omega))) only [wI_i0, wI_i1, wI_r, wR_i, wR_r0, wR_r1, nw_i0, nw_i1, nw_r0, nw_r1]
  · have e : b = n := by omega
    · rw [e, rkk_0 h0] at hj
      have hj : j < 5 := hj
      rw [e, tG_0 h0]
      have cj : j = 0 ∨ j = 1 ∨ j = 2 ∨ j = 3 ∨ j = 4 := by omega
      rcases cj with q | q | q | q | q
      · rw [q, if_pos (by decide)]; simp (disch := (first | omega | (simp only [wI_n, wR_n, nw_n, hn]; done) | (simp only [wI_n, wR_n, nw_n, hn]; omega))) only [wI_i0, wI_i1, wI_r, wR_i, wR_r0, wR_r1, nw_i0, nw_i1, nw_r0, nw_r1]
      · rw [q, if_pos (by decide)]; simp (disch := (first | omega | (simp only [wI_n, wR_n, nw_n, hn]; done) | (simp only [wI_n, wR_n, nw_n, hn]; omega))) only [wI_i0, wI_i1, wI_r, wR_i, wR_r0, wR_r1, nw_i0, nw_i1, nw_r0, nw_r1]
      · rw [q, if_pos (by decide)]; simp (disch := (first | omega | (simp only [wI_n, wR_n, nw_n, hn]; done) | (simp only [wI_n, wR_n, nw_n, hn]; omega))) only [wI_i0, wI_i1, wI_r, wR_i, wR_r0, wR_r1, nw_i0, nw_i1, nw_r0, nw_r1]
      · rw [q, if_pos (by decide)]; simp (disch := (first | omega | (simp only [wI_n, wR_n, nw_n, hn]; done) | (simp only [wI_n, wR_n, nw_n, hn]; omega))) only [wI_i0, wI_i1, wI_r, wR_i, wR_r0, wR_r1, nw_i0, nw_i1, nw_r0, nw_r1]
      · rw [q, if_pos (by decide)]; simp (disch := (first | omega | (simp only [wI_n, wR_n, nw_n, hn]; done) | (simp only [wI_n, wR_n, nw_n, hn]; omega))) only [wI_i0, wI_i1, wI_r, wR_i, wR_r0, wR_r1, nw_i0, nw_i1, nw_r0, nw_r1]
def ldI1 (n : Nat) (b j : Nat) : Int32 := if b = n ∧ j = 2 then -1 else 0
theorem cX_1 (hn : M.2.2.2 = n) (h0 : ts_sh n = (0, 6)) : cX n (n + 3) (ldI1 n) M (kM1 n (ts_new M)) := by
  have h1 : ts_sh (n + 1) = (0, 10) := sf_of h0 0 (by decide) (by decide)
  have h2 : ts_sh (n + 2) = (1, 200) := sf_of h1 0 (by decide) (by decide)
  unfold kM1 kM2
  refine ⟨by simp only [wI_n, wR_n, nw_n, hn], fun b hb j => ⟨?_, ?_⟩, fun b b1 b2 j => ?_, fun b b1 b2 j hj => ?_⟩
  · simp (disch := (first | omega | (simp only [wI_n, wR_n, nw_n, hn]; done) | (simp only [wI_n, wR_n, nw_n, hn]; omega))) only [wI_i0, wI_i1, wI_r, wR_i, wR_r0, wR_r1, nw_i0, nw_i1, nw_r0, nw_r1]
  · simp (disch := (first | omega | (simp only [wI_n, wR_n, nw_n, hn]; done) | (simp only [wI_n, wR_n, nw_n, hn]; omega))) only [wI_i0, wI_i1, wI_r, wR_i, wR_r0, wR_r1, nw_i0, nw_i1, nw_r0, nw_r1]
  · unfold ldI1
    have cs : b = n ∨ b = n + 1 ∨ b = n + 2 := by omega
    rcases cs with e | e | e
    · by_cases c0 : j = 2
      · rw [if_pos ⟨e, c0⟩]; simp (disch := (first | omega | (simp only [wI_n, wR_n, nw_n, hn]; done) | (simp only [wI_n, wR_n, nw_n, hn]; omega))) only [wI_i0, wI_i1, wI_r, wR_i, wR_r0, wR_r1, nw_i0, nw_i1, nw_r0, nw_r1]
      · rw [if_neg (by omega)]; simp (disch := (first | omega | (simp only [wI_n, wR_n, nw_n, hn]; done) | (simp only [wI_n, wR_n, nw_n, hn]; omega))) only [wI_i0, wI_i1, wI_r, wR_i, wR_r0, wR_r1, nw_i0, nw_i1, nw_r0, nw_r1]
    · rw [if_neg (by omega)]; simp (disch := (first | omega | (simp only [wI_n, wR_n, nw_n, hn]; done) | (simp only [wI_n, wR_n, nw_n, hn]; omega))) only [wI_i0, wI_i1, wI_r, wR_i, wR_r0, wR_r1, nw_i0, nw_i1, nw_r0, nw_r1]
    · rw [if_neg (by omega)]; simp (disch := (first | omega | (simp only [wI_n, wR_n, nw_n, hn]; done) | (simp only [wI_n, wR_n, nw_n, hn]; omega))) only [wI_i0, wI_i1, wI_r, wR_i, wR_r0, wR_r1, nw_i0, nw_i1, nw_r0, nw_r1]
  · have cs : b = n ∨ b = n + 1 ∨ b = n + 2 := by omega
    rcases cs with e | e | e
    · rw [e, rkk_0 h0] at hj
      have hj : j < 3 := hj
      rw [e, tG_0 h0]
      have cj : j = 0 ∨ j = 1 ∨ j = 2 := by omega
      rcases cj with q | q | q
      · rw [q, if_neg (by decide)]; simp (disch := (first | omega | (simp only [wI_n, wR_n, nw_n, hn]; done) | (simp only [wI_n, wR_n, nw_n, hn]; omega))) only [wI_i0, wI_i1, wI_r, wR_i, wR_r0, wR_r1, nw_i0, nw_i1, nw_r0, nw_r1]
        first | done | (simp only [nw_n, wI_n, wR_n, hn]; first | done | rfl)
      · rw [q, if_pos (by decide)]; simp (disch := (first | omega | (simp only [wI_n, wR_n, nw_n, hn]; done) | (simp only [wI_n, wR_n, nw_n, hn]; omega))) only [wI_i0, wI_i1, wI_r, wR_i, wR_r0, wR_r1, nw_i0, nw_i1, nw_r0, nw_r1]
      · rw [q, if_pos (by decide)]; simp (disch := (first | omega | (simp only [wI_n, wR_n, nw_n, hn]; done) | (simp only [wI_n, wR_n, nw_n, hn]; omega))) only [wI_i0, wI_i1, wI_r, wR_i, wR_r0, wR_r1, nw_i0, nw_i1, nw_r0, nw_r1]
    · rw [e, rkk_0 h1] at hj
      have hj : j < 2 := hj
      rw [e, tG_0 h1]
      have cj : j = 0 ∨ j = 1 := by omega
      rcases cj with q | q
      · rw [q, if_neg (by decide)]; simp (disch := (first | omega | (simp only [wI_n, wR_n, nw_n, hn]; done) | (simp only [wI_n, wR_n, nw_n, hn]; omega))) only [wI_i0, wI_i1, wI_r, wR_i, wR_r0, wR_r1, nw_i0, nw_i1, nw_r0, nw_r1]
        first | done | (simp only [nw_n, wI_n, wR_n, hn]; first | done | rfl)
      · rw [q, if_pos (by decide)]; simp (disch := (first | omega | (simp only [wI_n, wR_n, nw_n, hn]; done) | (simp only [wI_n, wR_n, nw_n, hn]; omega))) only [wI_i0, wI_i1, wI_r, wR_i, wR_r0, wR_r1, nw_i0, nw_i1, nw_r0, nw_r1]
    · rw [e, rkk_1 h2] at hj; omega
end LEAF

/-! ===== what constructors leave ===== -/
section MEM
variable {M M' M'' : ts_M} {a b j k q n n' n'' : Nat}
/-- how many references a cell has -/
def ts_rk (b : Nat) : Nat := if (ts_sh b).1 = 0 then ts_N (ts_sh b).2 else if (ts_sh b).1 = 4 ∨ (ts_sh b).1 = 5 then (ts_sh b).2 else 0
theorem rkk_0 {c : Nat} (h : ts_sh b = (0, c)) : ts_rk b = ts_N c := by unfold ts_rk; rw [h]; rfl
theorem rkk_4 {c : Nat} (h : ts_sh b = (4, c)) : ts_rk b = c := by unfold ts_rk; rw [h]; rfl
theorem rkk_5 {c : Nat} (h : ts_sh b = (5, c)) : ts_rk b = c := by unfold ts_rk; rw [h]; rfl
theorem rkk_1 {c : Nat} (h : ts_sh b = (1, c)) : ts_rk b = 0 := by unfold ts_rk; rw [h]; rfl
theorem rkk_2 {c : Nat} (h : ts_sh b = (2, c)) : ts_rk b = 0 := by unfold ts_rk; rw [h]; rfl
theorem rkk_3 {c : Nat} (h : ts_sh b = (3, c)) : ts_rk b = 0 := by unfold ts_rk; rw [h]; rfl
theorem tG_0 {c : Nat} (h : ts_sh b = (0, c)) : ts_G b j = if ts_off c j = 0 then none else some (b + ts_off c j) := by unfold ts_G; rw [h]; rfl
theorem tG_4 {c : Nat} (h : ts_sh b = (4, c)) : ts_G b j = some (b + 5 + 3 * j) := by unfold ts_G; rw [h]; rfl
theorem tG_5 {c : Nat} (h : ts_sh b = (5, c)) : ts_G b j = some (b + 69 + 68 * j) := by unfold ts_G; rw [h]; rfl
theorem wI_i {v : Int32} : (ts_wrI M a k v).1 b j = if b = a ∧ j = k then v else M.1 b j := rfl
theorem wI_r {v : Int32} : (ts_wrI M a k v).2.2.1 b j = M.2.2.1 b j := rfl
theorem wI_n {v : Int32} : (ts_wrI M a k v).2.2.2 = M.2.2.2 := rfl
theorem wR_i {v : Option Nat} : (ts_wrR M a k v).1 b j = M.1 b j := rfl
theorem wR_r {v : Option Nat} : (ts_wrR M a k v).2.2.1 b j = if b = a ∧ j = k then v else M.2.2.1 b j := rfl
theorem wR_n {v : Option Nat} : (ts_wrR M a k v).2.2.2 = M.2.2.2 := rfl
theorem nw_i : (ts_new M).1 b j = if b = M.2.2.2 then 0 else M.1 b j := rfl
theorem nw_r : (ts_new M).2.2.1 b j = if b = M.2.2.2 then none else M.2.2.1 b j := rfl
theorem wI_i0 {v : Int32} (h : b = a) (h2 : j = k) : (ts_wrI M a k v).1 b j = v := if_pos ⟨h, h2⟩
theorem wI_i1 {v : Int32} (h : ¬ (b = a ∧ j = k)) : (ts_wrI M a k v).1 b j = M.1 b j := if_neg h
theorem wR_r0 {v : Option Nat} (h : b = a) (h2 : j = k) : (ts_wrR M a k v).2.2.1 b j = v := if_pos ⟨h, h2⟩
theorem wR_r1 {v : Option Nat} (h : ¬ (b = a ∧ j = k)) : (ts_wrR M a k v).2.2.1 b j = M.2.2.1 b j := if_neg h
theorem nw_i0 (h : b = M.2.2.2) : (ts_new M).1 b j = 0 := if_pos h
theorem nw_i1 (h : ¬ b = M.2.2.2) : (ts_new M).1 b j = M.1 b j := if_neg h
theorem nw_r0 (h : b = M.2.2.2) : (ts_new M).2.2.1 b j = none := if_pos h
theorem nw_r1 (h : ¬ b = M.2.2.2) : (ts_new M).2.2.1 b j = M.2.2.1 b j := if_neg h
theorem nw_n : (ts_new M).2.2.2 = M.2.2.2 + 1 := rfl
/-- from M to M' the cells n to n' are made: with these numbers, and the references that they always have -/
def cX (n n' : Nat) (I : Nat → Nat → Int32) (M M' : ts_M) : Prop := M'.2.2.2 = n' ∧ (∀ b, b < n → ∀ j, M'.1 b j = M.1 b j ∧ M'.2.2.1 b j = M.2.2.1 b j) ∧ (∀ b, n ≤ b → b < n' → ∀ j, M'.1 b j = I b j) ∧ ∀ b, n ≤ b → b < n' → ∀ j, j < ts_rk b → M'.2.2.1 b j = ts_G b j
def mvI (n : Nat) (x : Int32) (b j : Nat) : Int32 := if b = n ∧ j = 0 then x else if b = n ∧ j = 7 then -1 else 0
theorem off_4 : ∀ j, j < 14 → ts_off 4 j = if j = 13 then 2 else if j = 12 then 1 else 0 := by decide
theorem off_0 : ∀ j, j < 4 → ts_off 0 j = if j = 2 then 3 else if j = 1 then 2 else if j = 0 then 1 else 0 := by decide
theorem off_10 : ∀ j, j < 2 → ts_off 10 j = if j = 0 then 1 else 0 := by decide
theorem off_8 : ∀ j, j < 2 → ts_off 8 j = if j = 0 then 1 else 0 := by decide
theorem off_7 : ∀ j, j < 3 → ts_off 7 j = if j = 0 then 1 else 0 := by decide
theorem off_3 : ∀ j, j < 7 → ts_off 3 j = if j = 2 then 3 else if j = 1 then 2 else if j = 0 then 1 else 0 := by decide
theorem cX_mv {x : Int32} (hn : M.2.2.2 = n) (h0 : ts_sh n = (0, 4)) : cX n (n + 3) (mvI n x) M (kM9 n x (ts_new M)) := by
  have h1 : ts_sh (n + 1) = (1, 8) := sf_of h0 12 (by decide) (by decide)
  have h2 : ts_sh (n + 2) = (1, 8) := sf_of h0 13 (by decide) (by decide)
  unfold kM9
  refine ⟨by simp only [wI_n, wR_n, nw_n, hn], fun b hb j => ⟨?_, ?_⟩, fun b b1 b2 j => ?_, fun b b1 b2 j hj => ?_⟩
  · simp (disch := (first | omega | (simp only [wI_n, wR_n, nw_n, hn]; omega))) only [wI_i0, wI_i1, wI_r, wR_i, wR_r0, wR_r1, nw_i0, nw_i1, nw_r0, nw_r1]
  · simp (disch := (first | omega | (simp only [wI_n, wR_n, nw_n, hn]; omega))) only [wI_i0, wI_i1, wI_r, wR_i, wR_r0, wR_r1, nw_i0, nw_i1, nw_r0, nw_r1]
  · have cs : b = n ∨ b = n + 1 ∨ b = n + 2 := by omega
    unfold mvI
    rcases cs with e | e | e
    · by_cases c0 : j = 0
      · rw [if_pos ⟨e, c0⟩]; simp (disch := (first | omega | (simp only [wI_n, wR_n, nw_n, hn]; omega))) only [wI_i0, wI_i1, wI_r, wR_i, wR_r0, wR_r1, nw_i0, nw_i1, nw_r0, nw_r1]
      · rw [if_neg (by omega)]
        by_cases c7 : j = 7
        · rw [if_pos ⟨e, c7⟩]; simp (disch := (first | omega | (simp only [wI_n, wR_n, nw_n, hn]; omega))) only [wI_i0, wI_i1, wI_r, wR_i, wR_r0, wR_r1, nw_i0, nw_i1, nw_r0, nw_r1]
        · rw [if_neg (by omega)]; simp (disch := (first | omega | (simp only [wI_n, wR_n, nw_n, hn]; omega))) only [wI_i0, wI_i1, wI_r, wR_i, wR_r0, wR_r1, nw_i0, nw_i1, nw_r0, nw_r1]
    · rw [if_neg (by omega), if_neg (by omega)]; simp (disch := (first | omega | (simp only [wI_n, wR_n, nw_n, hn]; omega))) only [wI_i0, wI_i1, wI_r, wR_i, wR_r0, wR_r1, nw_i0, nw_i1, nw_r0, nw_r1]
    · rw [if_neg (by omega), if_neg (by omega)]; simp (disch := (first | omega | (simp only [wI_n, wR_n, nw_n, hn]; omega))) only [wI_i0, wI_i1, wI_r, wR_i, wR_r0, wR_r1, nw_i0, nw_i1, nw_r0, nw_r1]
  · have cs : b = n ∨ b = n + 1 ∨ b = n + 2 := by omega
    rcases cs with e | e | e
    · subst e
      rw [rkk_0 h0] at hj
      have hj : j < 14 := hj
      rw [tG_0 h0, off_4 j hj]
      by_cases c1 : j = 13
      · rw [if_pos c1, if_neg (by decide)]; simp (disch := (first | omega | (simp only [wI_n, wR_n, nw_n, hn]; omega))) only [wI_i0, wI_i1, wI_r, wR_i, wR_r0, wR_r1, nw_i0, nw_i1, nw_r0, nw_r1]
        simp only [nw_n, hn]
      · rw [if_neg c1]
        by_cases c2 : j = 12
        · rw [if_pos c2, if_neg (by decide)]; simp (disch := (first | omega | (simp only [wI_n, wR_n, nw_n, hn]; omega))) only [wI_i0, wI_i1, wI_r, wR_i, wR_r0, wR_r1, nw_i0, nw_i1, nw_r0, nw_r1]
          simp only [nw_n, hn]
        · rw [if_neg c2, if_pos rfl]; simp (disch := (first | omega | (simp only [wI_n, wR_n, nw_n, hn]; omega))) only [wI_i0, wI_i1, wI_r, wR_i, wR_r0, wR_r1, nw_i0, nw_i1, nw_r0, nw_r1]
    · rw [e, rkk_1 h1] at hj; omega
    · rw [e, rkk_1 h2] at hj; omega
end MEM

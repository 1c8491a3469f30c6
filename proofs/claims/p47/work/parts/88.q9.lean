/-! ===== holds: the movements ===== -/
def hR (T : Nat) (S : ST) (r : Option lt_r) : Prop := ∃ vs m', r = some (some (.inl 1), m') ∧ cP T S vs m'
section HOLDS
variable {T : Nat} {S : ST}
theorem h_tail (d : Nat) (hw : wfL S.N S.w) (hN : wfN S.N) (hJ : lwJ S.w) {i : Nat} (hi : i < S.w 2) {x1 x2 x4 x5 x6 x7 x8 : Int32}
    (next : ∀ vs m o11 o12 o13 o14 o15 o16 o17 o18, cP T S vs m → hR T S (L177_316 (d + 12) 0 x1 x2 (nI (S.w 0)) x4 x5 x6 x7 x8 (nI (bitsN (w_late S.N S.w) (S.w 2))) (nI (i + 1)) o11 o12 o13 o14 o15 o16 o17 o18 m)) {vs : List Int32} {m : lt_m} (h : cP T S vs m) (x16 : Int32) (o17 o18 : Option ts_V) :
    hR T S (L177_495 (d + 12) 0 x1 x2 (nI (S.w 0)) x4 x5 x6 x7 x8 (nI (bitsN (w_late S.N S.w) (S.w 2))) (nI i) (nI (w_st S.w i)) (nI (w_sp S.w i)) (nI (w_lg S.w i)) (nI (w_tm S.w i)) (nI (w_at S.w i (w_sp S.w i - 1))) x16 o17 o18 m) := by
  have h20 := hw.2.2.1
  have h99 := hw.1
  obtain ⟨g1, g2, g3, g4⟩ := wf_sp hw hi
  have b7 := wf_st hw hi
  have hwm := hw.2.2.2.2.2 i hi
  obtain ⟨m1, m2, m3, m4, m5, m6, m7, m8, m9, m10, m11, m12, ⟨m13, m13'⟩, m14, m15, m16, m17, m18, m19⟩ := hwm
  obtain ⟨j1, j2, j3⟩ := hJ i hi
  have hle := w_left_le hN hw hi
  have hlp := left_pos hw hi
  have hat := wf_at hw hi (k := w_sp S.w i - 1) (by omega)
  have bL : bitsN (w_late S.N S.w) (S.w 2) < 2 ^ 31 := Nat.lt_of_lt_of_le (bitsN_lt _ _) (Nat.pow_le_pow_right (by decide) (by omega))
  have hLi : (bitsN (w_late S.N S.w) (S.w 2)).testBit i = w_late S.N S.w i := by rw [bitsN_tb]; simp [hi]
  have hbit : ((nI (bitsN (w_late S.N S.w) (S.w 2)) >>> (nI i &&& 31)) &&& (1 : Int32)) = nI (if w_late S.N S.w i = true then 1 else 0) := by
    rw [sp_tb bL (by omega), hLi]
  -- the last: late and hours
  have h649 : ∀ vs m o17 o18, cP T S vs m → hR T S (L177_649 (d + 12) 0 x1 x2 (nI (S.w 0)) x4 x5 x6 x7 x8 (nI (bitsN (w_late S.N S.w) (S.w 2))) (nI i) (nI (w_st S.w i)) (nI (w_sp S.w i)) (nI (w_lg S.w i)) (nI (w_tm S.w i)) (nI (w_at S.w i (w_sp S.w i - 1))) x16 o17 o18 m) := by
    intro vs m o17 o18 h
    rw [E177_649 _ _ _ _ _ _ _ _ _ _ _ _ _ _ _ _ _ _ _ _ sx, hbit]
    simp (disch := omega) only [sp_eq0, nI_1]
    by_cases c0 : w_st S.w i = 0
    · rw [if_neg (by simp [c0])]
      by_cases cl : w_late S.N S.w i = true
      · rw [if_pos cl, if_pos (by decide)]
        exact next _ _ _ _ _ _ _ _ _ _ h
      · rw [if_neg cl, if_neg (by decide)]
        obtain ⟨m', e, h'⟩ := q_left d h hi
        rw [e, lt_cI_s]
        simp (disch := omega) only [nI_add, sp_len]
        have : w_at S.w i (w_sp S.w i - 1) + w_left S.N S.w i ≤ w_tm S.w i := by
          unfold w_late w_arr at cl
          simp only [decide_eq_true_eq] at cl
          omega
        rw [if_pos this]
        exact next _ _ _ _ _ _ _ _ _ _ h'
    · rw [if_pos c0]
      exact next _ _ _ _ _ _ _ _ _ _ h
  have h619 : ∀ vs m o17 o18, cP T S vs m → hR T S (L177_619 (d + 12) 0 x1 x2 (nI (S.w 0)) x4 x5 x6 x7 x8 (nI (bitsN (w_late S.N S.w) (S.w 2))) (nI i) (nI (w_st S.w i)) (nI (w_sp S.w i)) (nI (w_lg S.w i)) (nI (w_tm S.w i)) (nI (w_at S.w i (w_sp S.w i - 1))) x16 o17 o18 (if w_sp S.w i < w_lg S.w i then 1 else 0) (if w_sp S.w i < w_lg S.w i then 1 else 0) m) := by
    intro vs m o17 o18 h
    rw [E177_619 _ _ _ _ _ _ _ _ _ _ _ _ _ _ _ _ _ _ _ _ _ _ sx, if_pos rfl, hbit]
    by_cases cl : w_late S.N S.w i = true
    · rw [if_pos cl, if_neg (by decide)]
      obtain ⟨m', e, h'⟩ := q_left d h hi
      rw [e, lt_cI_s]
      simp (disch := omega) only [nI_add, sp_len]
      have : ¬ w_at S.w i (w_sp S.w i - 1) + w_left S.N S.w i ≤ w_tm S.w i := by
        unfold w_late w_arr at cl
        simp only [decide_eq_true_eq] at cl
        omega
      rw [if_neg this]
      exact h649 _ _ _ _ h'
    · rw [if_neg cl, if_pos (by decide)]
      exact h649 _ _ _ _ h
  have h607 : ∀ vs m o17 o18, cP T S vs m → hR T S (L177_607 (d + 12) 0 x1 x2 (nI (S.w 0)) x4 x5 x6 x7 x8 (nI (bitsN (w_late S.N S.w) (S.w 2))) (nI i) (nI (w_st S.w i)) (nI (w_sp S.w i)) (nI (w_lg S.w i)) (nI (w_tm S.w i)) (nI (w_at S.w i (w_sp S.w i - 1))) x16 o17 o18 (if w_sp S.w i < w_lg S.w i then 1 else 0) m) := by
    intro vs m o17 o18 h
    have := h619 vs m o17 o18 h
    rw [E177_607]
    simp (disch := omega) only [sp_len]
    by_cases c : w_sp S.w i < w_lg S.w i
    · rw [if_pos c] at this ⊢
      rw [if_neg (by omega)]
      exact this
    · rw [if_neg c] at this ⊢
      rw [if_pos (by omega)]
      exact this
  have h590 : ∀ vs m o17 o18 (z : Int32), cP T S vs m → hR T S (L177_590 (d + 12) 0 x1 x2 (nI (S.w 0)) x4 x5 x6 x7 x8 (nI (bitsN (w_late S.N S.w) (S.w 2))) (nI i) (nI (w_st S.w i)) (nI (w_sp S.w i)) (nI (w_lg S.w i)) (nI (w_tm S.w i)) (nI (w_at S.w i (w_sp S.w i - 1))) x16 o17 o18 z z m) := by
    intro vs m o17 o18 z h
    rw [E177_590 _ _ _ _ _ _ _ _ _ _ _ _ _ _ _ _ _ _ _ _ _ _ sx, if_neg (fun q => q rfl)]
    obtain ⟨m', e, h'⟩ := q_left d h hi
    rw [e, lt_cI_s]
    simp (disch := omega) only [sp_le0]
    have := h607 _ m' o17 o18 h'
    by_cases c : w_sp S.w i < w_lg S.w i
    · rw [if_pos c] at this
      rw [if_neg (by omega)]
      exact this
    · rw [if_neg c] at this
      rw [if_pos (by omega)]
      exact this
  have h563 : ∀ vs m o17 o18, cP T S vs m → hR T S (L177_563 (d + 12) 0 x1 x2 (nI (S.w 0)) x4 x5 x6 x7 x8 (nI (bitsN (w_late S.N S.w) (S.w 2))) (nI i) (nI (w_st S.w i)) (nI (w_sp S.w i)) (nI (w_lg S.w i)) (nI (w_tm S.w i)) (nI (w_at S.w i (w_sp S.w i - 1))) x16 o17 o18 m) := by
    intro vs m o17 o18 h
    have e10 : lt_ev (d + 12) 129 [.inr (.inr (some 0)), .inl (nI i), .inl (10 : Int32)] m = some (some (.inl (nI (w_db S.w i))), m) := q_mv d h hi (k := 10) (by omega) (by omega)
    rw [E177_563 _ _ _ _ _ _ _ _ _ _ _ _ _ _ _ _ _ _ _ _ sx, e10, lt_cI_s]
    simp (disch := omega) only [sp_le0]
    by_cases c : 4 ≤ w_st S.w i
    · have := j3 c
      rw [if_neg (by omega), E177_579]
      simp (disch := omega) only [q_3, sp_len]
      rw [if_neg (by omega)]
      exact h590 _ _ _ _ _ h
    · have := m13' (by omega)
      rw [if_pos (by omega), E177_579]
      simp (disch := omega) only [q_3, sp_len]
      rw [if_pos (by omega)]
      exact h590 _ _ _ _ _ h
  have h545 : ∀ vs m o17 o18 (z : Int32), cP T S vs m → hR T S (L177_545 (d + 12) 0 x1 x2 (nI (S.w 0)) x4 x5 x6 x7 x8 (nI (bitsN (w_late S.N S.w) (S.w 2))) (nI i) (nI (w_st S.w i)) (nI (w_sp S.w i)) (nI (w_lg S.w i)) (nI (w_tm S.w i)) (nI (w_at S.w i (w_sp S.w i - 1))) x16 o17 o18 z z m) := by
    intro vs m o17 o18 z h
    rw [E177_545, if_neg (fun q => q rfl)]
    simp (disch := omega) only [q_1, sp_len, sp_eqn]
    by_cases c : w_lg S.w i ≤ w_sp S.w i
    · rw [if_pos c]; exact h563 _ _ _ _ h
    · rw [if_neg c, if_pos (fun q => by have := j2 q; omega)]; exact h563 _ _ _ _ h
  have h516 : ∀ vs m o17 o18, cP T S vs m → hR T S (L177_516 (d + 12) 0 x1 x2 (nI (S.w 0)) x4 x5 x6 x7 x8 (nI (bitsN (w_late S.N S.w) (S.w 2))) (nI i) (nI (w_st S.w i)) (nI (w_sp S.w i)) (nI (w_lg S.w i)) (nI (w_tm S.w i)) (nI (w_at S.w i (w_sp S.w i - 1))) x16 o17 o18 m) := by
    intro vs m o17 o18 h
    rw [E177_516]
    simp (disch := omega) only [q_1, sp_eqn]
    by_cases c : w_st S.w i = 1
    · have := j2 c
      rw [if_neg (fun q => q c), E177_527]
      simp (disch := omega) only [q_1, sp_eqn]
      rw [if_neg (fun q => q c), if_neg (fun q => q this)]
      exact h545 _ _ _ _ _ h
    · rw [if_pos c, E177_527]
      simp (disch := omega) only [q_1, sp_eqn]
      rw [if_pos c]
      exact h545 _ _ _ _ _ h
  rw [E177_495]
  simp (disch := omega) only [q_3, q_72, nI_add, sp_eqn, sp_len]
  by_cases c : w_st S.w i = 3
  · have := m19 c
    rw [if_neg (fun q => q c), if_neg (by omega), if_neg (by omega)]
    exact h516 _ _ _ _ h
  · rw [if_pos c]
    exact h516 _ _ _ _ h
/-- the stops of a movement, from stop k on -/
theorem h_stops (d : Nat) (hw : wfL S.N S.w) (hN : wfN S.N) (hJ : lwJ S.w) {i : Nat} (hi : i < S.w 2) {x1 x2 x4 x5 x6 x7 x8 : Int32}
    (next : ∀ vs m o11 o12 o13 o14 o15 o16 o17 o18, cP T S vs m → hR T S (L177_316 (d + 12) 0 x1 x2 (nI (S.w 0)) x4 x5 x6 x7 x8 (nI (bitsN (w_late S.N S.w) (S.w 2))) (nI (i + 1)) o11 o12 o13 o14 o15 o16 o17 o18 m)) :
    ∀ n k vs m o17 o18, k + n = w_lg S.w i → cP T S vs m → hR T S (L177_367 (d + 12) 0 x1 x2 (nI (S.w 0)) x4 x5 x6 x7 x8 (nI (bitsN (w_late S.N S.w) (S.w 2))) (nI i) (nI (w_st S.w i)) (nI (w_sp S.w i)) (nI (w_lg S.w i)) (nI (w_tm S.w i)) (nI (if k = 0 then 0 else w_at S.w i (min k (w_sp S.w i) - 1))) (nI k) o17 o18 m) := by
  have h20 := hw.2.2.1
  have h99 := hw.1
  obtain ⟨g1, g2, g3, g4⟩ := wf_sp hw hi
  have b7 := wf_st hw hi
  have hwm := hw.2.2.2.2.2 i hi
  have b18 := hwm.2.2.2.2.2.2.2.2.2.2.2.2.2.2.2.2.2.1
  have btm := hwm.2.2.2.2.2.2.1
  obtain ⟨j1, j2, j3⟩ := hJ i hi
  intro n
  induction n with
  | zero =>
    intro k vs m o17 o18 hk h
    have hk : k = w_lg S.w i := hk
    subst hk
    rw [E177_367 _ _ _ _ _ _ _ _ _ _ _ _ _ _ _ _ _ _ _ _ sx, if_neg (show ¬ w_lg S.w i = 0 by omega), show min (w_lg S.w i) (w_sp S.w i) = w_sp S.w i by omega]
    simp (disch := omega) only [sp_len, sp_eq0, sp_ltn]
    rw [if_pos (Nat.le_refl _)]
    by_cases c : w_st S.w i = 0
    · have := b18 c
      rw [if_neg (fun q => q c), if_neg (by omega)]
      exact h_tail d hw hN hJ hi next h _ _ _
    · rw [if_pos c]
      exact h_tail d hw hN hJ hi next h _ _ _
  | succ n ih =>
    intro k vs m o17 o18 hk h
    have hkl : k < w_lg S.w i := by omega
    obtain ⟨at0, hat0⟩ : ∃ at0, at0 = if k = 0 then 0 else w_at S.w i (min k (w_sp S.w i) - 1) := ⟨_, rfl⟩
    rw [← hat0]
    have hatb : at0 ≤ 99999 := by
      rw [hat0]
      split
      · omega
      · have := wf_at hw hi (k := min k (w_sp S.w i) - 1) (by omega)
        omega
    obtain ⟨m1, e1, h1⟩ := q_stop d h hi hkl
    have hrt : w_rt S.w i k < S.N.1 := wf_rt hw hi hkl
    have bn := hN.2.1
    have er : lt_ev (d + 12) 175 [.inr (.inr (some 0)), .inl (0 : Int32)] m1 = some (some (.inr (.inl (if k < w_sp S.w i then nI (w_at S.w i k) else -1).toInt64)), m1) := q_row d h1 (j := 0) rfl
    rw [E177_367 _ _ _ _ _ _ _ _ _ _ _ _ _ _ _ _ _ _ _ _ sx, if_neg (by rw [sp_len (by omega) (by omega)]; omega), e1, lt_cI_s, er, lt_cL_s]
    by_cases c : k < w_sp S.w i
    · have hak := wf_at hw hi c
      have hmono : at0 ≤ w_at S.w i k := by
        rw [hat0]
        split
        · omega
        · next q =>
          rw [show min k (w_sp S.w i) - 1 = k - 1 by omega]
          have := j1 (k - 1) (by omega)
          rw [show k - 1 + 1 = k by omega] at this
          exact this
      have z0 : (0 : Int64) = (nI 0).toInt64 := by decide
      rw [if_pos c, z0]
      simp (disch := omega) only [cl_ltn]
      rw [if_neg (by omega), E177_403]
      simp (disch := omega) only [sp_len]
      rw [if_neg (by omega), E177_415, if_neg (fun q => q rfl)]
      simp (disch := omega) only [sp_len, cl_ltn]
      rw [if_neg (by omega), if_neg (by omega)]
      have h466 : ∀ vs m, cP T S vs m → hR T S (L177_466 (d + 12) 0 x1 x2 (nI (S.w 0)) x4 x5 x6 x7 x8 (nI (bitsN (w_late S.N S.w) (S.w 2))) (nI i) (nI (w_st S.w i)) (nI (w_sp S.w i)) (nI (w_lg S.w i)) (nI (w_tm S.w i)) (nI at0) (nI k) (nI (w_rt S.w i k)) (nI (w_at S.w i k)).toInt64 m) := by
        intro vs m h
        rw [E177_466]
        simp (disch := omega) only [sp_len]
        rw [if_neg (by omega), to32, nI_1]
        have := ih (k + 1) vs m (some (.inl (nI (w_rt S.w i k)))) (some (.inr (.inl (nI (w_at S.w i k)).toInt64))) (by omega) h
        rw [if_neg (show ¬ k + 1 = 0 by omega), show min (k + 1) (w_sp S.w i) - 1 = k by omega] at this
        exact this
      rw [E177_434 _ _ _ _ _ _ _ _ _ _ _ _ _ _ _ _ _ _ _ _ sx]
      simp (disch := omega) only [cl_gtn, q_1, pk_sub, sp_eqn]
      rw [if_neg (by omega)]
      by_cases c2 : k = w_sp S.w i - 1
      · have e8 : lt_ev (d + 12) 129 [.inr (.inr (some 0)), .inl (nI i), .inl (8 : Int32)] m1 = some (some (.inl (nI (w_seen S.w i))), m1) := q_mv d h1 hi (k := 8) (by omega) (by omega)
        rw [if_neg (fun q => q c2), e8, lt_cI_s, if_pos (by rw [c2]; rfl)]
        exact h466 _ _ h1
      · rw [if_pos c2]
        exact h466 _ _ h1
    · have zm : lg_cmp ((-1 : Int32)).toInt64 (0 : Int64) < 0 := by
        rw [sp_cmp_lt, sp_tt]
        decide
      have zg : ¬ 0 < lg_cmp ((-1 : Int32)).toInt64 (nI (S.w 0)).toInt64 := by
        rw [sp_cmp_gt, sp_tt, sp_tt, nI_toInt (by omega), show ((-1 : Int32)).toInt = -1 by decide]
        omega
      rw [if_neg c, if_pos zm, E177_403]
      simp (disch := omega) only [sp_len]
      rw [if_pos (by omega), E177_415, if_neg (fun q => q rfl)]
      simp (disch := omega) only [sp_len]
      rw [if_pos (by omega), E177_434 _ _ _ _ _ _ _ _ _ _ _ _ _ _ _ _ _ _ _ _ sx, if_neg zg]
      simp (disch := omega) only [q_1, pk_sub, sp_eqn]
      rw [if_pos (by omega), E177_466]
      simp (disch := omega) only [sp_len]
      rw [if_pos (by omega), nI_1]
      have := ih (k + 1) _ m1 (some (.inl (nI (w_rt S.w i k)))) (some (.inr (.inl ((-1 : Int32)).toInt64))) (by omega) h1
      rw [if_neg (show ¬ k + 1 = 0 by omega), show min (k + 1) (w_sp S.w i) - 1 = min k (w_sp S.w i) - 1 by omega] at this
      rw [hat0, if_neg (by omega)]
      exact this
/-- all movements, from i on -/
theorem h_moves (d : Nat) (hw : wfL S.N S.w) (hN : wfN S.N) (hJ : lwJ S.w) {x1 x4 x5 x6 x7 x8 : Int32} : ∀ n i vs m o11 o12 o13 o14 o15 o16 o17 o18, i + n = S.w 2 → cP T S vs m → hR T S (L177_316 (d + 12) 0 x1 (nI (S.w 2)) (nI (S.w 0)) x4 x5 x6 x7 x8 (nI (bitsN (w_late S.N S.w) (S.w 2))) (nI i) o11 o12 o13 o14 o15 o16 o17 o18 m) := by
  have h20 := hw.2.2.1
  intro n
  induction n with
  | zero =>
    intro i vs m o11 o12 o13 o14 o15 o16 o17 o18 hi h
    have hi : i = S.w 2 := hi
    rw [E177_316 _ _ _ _ _ _ _ _ _ _ _ _ _ _ _ _ _ _ _ _ sx, if_pos (by rw [sp_len (by omega) (by omega)]; omega)]
    exact ⟨vs, m, rfl, h⟩
  | succ n ih =>
    intro i vs m o11 o12 o13 o14 o15 o16 o17 o18 hi h
    have hil : i < S.w 2 := by omega
    have e3 : lt_ev (d + 12) 129 [.inr (.inr (some 0)), .inl (nI i), .inl (3 : Int32)] m = some (some (.inl (nI (w_st S.w i))), m) := q_mv d h hil (k := 3) (by omega) (by omega)
    have e7 : lt_ev (d + 12) 129 [.inr (.inr (some 0)), .inl (nI i), .inl (7 : Int32)] m = some (some (.inl (nI (w_sp S.w i))), m) := q_mv d h hil (k := 7) (by omega) (by omega)
    have e12 : lt_ev (d + 12) 129 [.inr (.inr (some 0)), .inl (nI i), .inl (12 : Int32)] m = some (some (.inl (nI (w_lg S.w i))), m) := q_mv d h hil (k := 12) (by omega) (by omega)
    have e6 : lt_ev (d + 12) 129 [.inr (.inr (some 0)), .inl (nI i), .inl (6 : Int32)] m = some (some (.inl (nI (w_tm S.w i))), m) := q_mv d h hil (k := 6) (by omega) (by omega)
    rw [E177_316 _ _ _ _ _ _ _ _ _ _ _ _ _ _ _ _ _ _ _ _ sx, if_neg (by rw [sp_len (by omega) (by omega)]; omega), e3, lt_cI_s, e7, lt_cI_s, e12, lt_cI_s, e6, lt_cI_s]
    exact h_stops d hw hN hJ hil (fun vs m o11 o12 o13 o14 o15 o16 o17 o18 h => ih (i + 1) vs m _ _ _ _ _ _ _ _ (by omega) h) (w_lg S.w i) 0 vs m _ _ (by omega) h
end HOLDS

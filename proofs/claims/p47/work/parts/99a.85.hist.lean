/-! ===== the constructor of the history ===== -/
abbrev YC10 : ts_Y := (yX1_init, cX1_init, 2, none, 1)
theorem hYC10 : ts_mL[10]? = some YC10 := rfl
theorem dc10_0 : decode YC10.2.1 0 = .ok (.aload_n 0, 1) := by decide +kernel
theorem dc10_1 : decode YC10.2.1 1 = .ok (.invokespecial 3, 3) := by decide +kernel
theorem dc10_4 : decode YC10.2.1 4 = .ok (.aload_n 0, 1) := by decide +kernel
theorem dc10_5 : decode YC10.2.1 5 = .ok (.bipush 8, 2) := by decide +kernel
theorem dc10_7 : decode YC10.2.1 7 = .ok (.anewarray 9, 3) := by decide +kernel
theorem dc10_10 : decode YC10.2.1 10 = .ok (.putfield 11, 3) := by decide +kernel
theorem dc10_13 : decode YC10.2.1 13 = .ok (.aload_n 0, 1) := by decide +kernel
theorem dc10_14 : decode YC10.2.1 14 = .ok (.new 9, 3) := by decide +kernel
theorem dc10_17 : decode YC10.2.1 17 = .ok (.dup, 1) := by decide +kernel
theorem dc10_18 : decode YC10.2.1 18 = .ok (.invokespecial 17, 3) := by decide +kernel
theorem dc10_21 : decode YC10.2.1 21 = .ok (.putfield 18, 3) := by decide +kernel
theorem dc10_24 : decode YC10.2.1 24 = .ok (.iconst 0, 1) := by decide +kernel
theorem dc10_25 : decode YC10.2.1 25 = .ok (.istore_n 1, 1) := by decide +kernel
theorem dc10_26 : decode YC10.2.1 26 = .ok (.iload_n 1, 1) := by decide +kernel
theorem dc10_27 : decode YC10.2.1 27 = .ok (.aload_n 0, 1) := by decide +kernel
theorem dc10_28 : decode YC10.2.1 28 = .ok (.getfield 11, 3) := by decide +kernel
theorem dc10_31 : decode YC10.2.1 31 = .ok (.arraylength, 1) := by decide +kernel
theorem dc10_32 : decode YC10.2.1 32 = .ok (.if_icmp .ge 22, 3) := by decide +kernel
theorem dc10_35 : decode YC10.2.1 35 = .ok (.aload_n 0, 1) := by decide +kernel
theorem dc10_36 : decode YC10.2.1 36 = .ok (.getfield 11, 3) := by decide +kernel
theorem dc10_39 : decode YC10.2.1 39 = .ok (.iload_n 1, 1) := by decide +kernel
theorem dc10_40 : decode YC10.2.1 40 = .ok (.new 9, 3) := by decide +kernel
theorem dc10_43 : decode YC10.2.1 43 = .ok (.dup, 1) := by decide +kernel
theorem dc10_44 : decode YC10.2.1 44 = .ok (.invokespecial 17, 3) := by decide +kernel
theorem dc10_47 : decode YC10.2.1 47 = .ok (.aastore, 1) := by decide +kernel
theorem dc10_48 : decode YC10.2.1 48 = .ok (.iinc 1 1, 3) := by decide +kernel
theorem dc10_51 : decode YC10.2.1 51 = .ok (.goto (-25), 3) := by decide +kernel
theorem dc10_54 : decode YC10.2.1 54 = .ok (.return_, 1) := by decide +kernel
def hiI (b j : Nat) : Int32 := if b < 83 then 0 else if b < 151 then leI 83 b j else leI (151 + 68 * ((b - 151) / 68)) b j
def hiL (i : Nat) : List (Option ts_V) := [some (.inr (.inr (some 81))), some (.inl (nI i))]
def hiV (i : Nat) (M M' : ts_M) : Prop := M'.2.2.2 = 151 + 68 * i ∧ (∀ b, b < 81 → ∀ j, M'.1 b j = M.1 b j ∧ M'.2.2.1 b j = M.2.2.1 b j) ∧ (∀ b, 81 ≤ b → b < 151 + 68 * i → ∀ j, M'.1 b j = hiI b j) ∧ ∀ b, 81 ≤ b → b < 151 + 68 * i → ∀ j, j < ts_rk b → (b = 82 → j < i) → M'.2.2.1 b j = ts_G b j
theorem s82 : ts_sh 82 = (5, 8) := sf_of s81 0 (by decide) (by decide)
theorem off_1 : ∀ j, j < 5 → ts_off 1 j = if j = 1 then 2 else if j = 0 then 1 else 0 := by decide
theorem c10_loop {M : ts_M} : ∀ r i M1, i + r = 8 → hiV i M M1 → ∃ M2, (∀ d, ts_run (ts_ev (d + 2)) YC10 (26, hiL i, [], M1) = some (none, M2)) ∧ hiV 8 M M2 := by
  have hG : ∀ i M1, hiV i M M1 → M1.2.2.1 81 0 = some 82 := fun i M1 h => by
    rw [h.2.2.2 81 (by omega) (by omega) 0 (by rw [rkk_0 s81]; decide) (by omega), tG_0 s81, if_neg (by decide)]
    rfl
  have head : ∀ d i M1, i ≤ 8 → hiV i M M1 → ts_run (ts_ev (d + 2)) YC10 (26, hiL i, [], M1) = if nI 8 ≤ nI i then ts_run (ts_ev (d + 2)) YC10 (54, hiL i, [], M1) else ts_run (ts_ev (d + 2)) YC10 (35, hiL i, [], M1) := fun d i M1 hi h => by
    have hc := h.1
    refine (cs_iload dc10_26 rfl).trans ?_
    refine (cs_aload dc10_27 rfl).trans ?_
    refine (cs_getR (c := 1) (k := 0) dc10_28 (by decide +kernel) s81 (by omega) rfl (hG i M1 h)).trans ?_
    refine (cs_alen dc10_31 s82 (by decide) (by omega)).trans ?_
    exact cs_ge dc10_32 rfl
  intro r
  induction r with
  | zero =>
    intro i M1 hi h
    have hi : i = 8 := hi
    subst hi
    exact ⟨M1, fun d => by rw [head d 8 M1 (by omega) h, if_pos (by decide)]; exact cs_ret dc10_54 rfl, h⟩
  | succ r ih =>
    intro i M1 hi h
    have hc := h.1
    obtain ⟨q, hq⟩ : ∃ q, q = 151 + 68 * i := ⟨_, rfl⟩
    have sq : ts_sh q = (0, 2) := by rw [hq]; exact s151_all i (by omega)
    obtain ⟨M2, e2, m1, m2, m3, m4⟩ := cX_7 (M := M1) (L := q) (by rw [hc, hq]) sq (by omega)
    have h2 : hiV (i + 1) M (ts_wrR M2 82 i (some q)) := by
      refine ⟨by rw [wR_n, m1]; omega, fun b hb j => ⟨?_, ?_⟩, fun b b1 b2 j => ?_, fun b b1 b2 j hj hx => ?_⟩
      · rw [wR_i, (m2 b (by omega) j).1]; exact (h.2.1 b hb j).1
      · rw [wR_r1 (by omega), (m2 b (by omega) j).2]; exact (h.2.1 b hb j).2
      · rw [wR_i]
        rcases Nat.lt_or_ge b q with c | c
        · rw [(m2 b c j).1]; exact h.2.2.1 b b1 (by omega) j
        · rw [m3 b c (by omega) j]
          unfold hiI
          rw [if_neg (by omega), if_neg (by omega), show 151 + 68 * ((b - 151) / 68) = q by omega]
      · rcases Nat.lt_or_ge b q with c | c
        · by_cases e : b = 82 ∧ j = i
          · rw [wR_r0 e.1 e.2, e.1, tG_5 s82, e.2, hq]
          · rw [wR_r1 e, (m2 b c j).2]
            exact h.2.2.2 b b1 (by omega) j hj (fun q => by have := hx q; omega)
        · rw [wR_r1 (by omega)]
          exact m4 b c (by omega) j hj
    obtain ⟨M3, e3, h3⟩ := ih (i + 1) _ (by omega) h2
    refine ⟨M3, fun d => ?_, h3⟩
    rw [head d i M1 (by omega) h, if_neg (by rw [sp_len (by omega) (by omega)]; omega)]
    refine (cs_aload dc10_35 rfl).trans ?_
    refine (cs_getR (c := 1) (k := 0) dc10_36 (by decide +kernel) s81 (by omega) rfl (hG i M1 h)).trans ?_
    refine (cs_iload dc10_39 rfl).trans ?_
    refine (cs_new (M := M1) (c := 2) dc10_40 rfl (by decide +kernel) (by rw [hc, ← hq]; exact sq) (by rw [hc]; show _ < 711; omega)).trans ?_
    rw [show M1.2.2.2 = q by rw [hc, hq]]
    refine (cs_dup dc10_43).trans ?_
    refine (cs_init (y := 7) (n := 0) (z := 0) dc10_44 rfl (by decide +kernel) (by decide +kernel) (by decide +kernel) rfl rfl (Nat.zero_le _) (Nat.le_of_ble_eq_true rfl) (e2 d)).trans ?_
    refine (cs_aast (n := 8) dc10_47 rfl (Or.inr ⟨s82, sq⟩) (by rw [m1]; omega) (by rw [m1]; omega) (by omega) (by decide)).trans ?_
    refine (cs_iinc (x := nI i) dc10_48 rfl (by decide)).trans ?_
    refine (cs_goto (t := 26) dc10_51 rfl).trans ?_
    rw [show Int32.ofInt 1 = (1 : Int32) from by decide +kernel, nI_1]
    exact e3 d
theorem cX_10 {M : ts_M} (hn : M.2.2.2 = 81) : ∃ M2, (∀ d, ts_ev (d + 3) 10 [.inr (.inr (some 81))] (ts_new M) = some (none, M2)) ∧ cX 81 695 hiI M M2 := by
  obtain ⟨M1, hM1⟩ : ∃ M1, M1 = ts_wrR (ts_new (ts_new M)) 81 0 (some 82) := ⟨_, rfl⟩
  have c1 : M1.2.2.2 = 83 := by rw [hM1]; simp only [wI_n, wR_n, nw_n, hn]
  have k1 : ∀ b, b < 81 → ∀ j, M1.1 b j = M.1 b j ∧ M1.2.2.1 b j = M.2.2.1 b j := fun b hb j => by
    rw [hM1]
    exact ⟨(by simp (disch := (first | omega | (simp only [wI_n, wR_n, nw_n, hn]; done) | (simp only [wI_n, wR_n, nw_n, hn]; omega))) only [wI_i0, wI_i1, wI_r, wR_i, wR_r0, wR_r1, nw_i0, nw_i1, nw_r0, nw_r1]), (by simp (disch := (first | omega | (simp only [wI_n, wR_n, nw_n, hn]; done) | (simp only [wI_n, wR_n, nw_n, hn]; omega))) only [wI_i0, wI_i1, wI_r, wR_i, wR_r0, wR_r1, nw_i0, nw_i1, nw_r0, nw_r1])⟩
  have k2 : ∀ b, 81 ≤ b → b < 83 → ∀ j, M1.1 b j = 0 := fun b b1 b2 j => by
    rw [hM1]
    have cs : b = 81 ∨ b = 82 := by omega
    rcases cs with e | e
    · exact (by simp (disch := (first | omega | (simp only [wI_n, wR_n, nw_n, hn]; done) | (simp only [wI_n, wR_n, nw_n, hn]; omega))) only [wI_i0, wI_i1, wI_r, wR_i, wR_r0, wR_r1, nw_i0, nw_i1, nw_r0, nw_r1])
    · exact (by simp (disch := (first | omega | (simp only [wI_n, wR_n, nw_n, hn]; done) | (simp only [wI_n, wR_n, nw_n, hn]; omega))) only [wI_i0, wI_i1, wI_r, wR_i, wR_r0, wR_r1, nw_i0, nw_i1, nw_r0, nw_r1])
  have k3 : ∀ j, M1.2.2.1 81 j = if j = 0 then some 82 else none := fun j => by
    rw [hM1]
    by_cases j0 : j = 0
    · rw [if_pos j0]; exact (by simp (disch := (first | omega | (simp only [wI_n, wR_n, nw_n, hn]; done) | (simp only [wI_n, wR_n, nw_n, hn]; omega))) only [wI_i0, wI_i1, wI_r, wR_i, wR_r0, wR_r1, nw_i0, nw_i1, nw_r0, nw_r1])
    · rw [if_neg j0]; exact (by simp (disch := (first | omega | (simp only [wI_n, wR_n, nw_n, hn]; done) | (simp only [wI_n, wR_n, nw_n, hn]; omega))) only [wI_i0, wI_i1, wI_r, wR_i, wR_r0, wR_r1, nw_i0, nw_i1, nw_r0, nw_r1])
  obtain ⟨M2, e2, g1, g2, g3, g4⟩ := cX_7 (M := M1) (L := 83) c1 s83 (by decide)
  have h0 : hiV 0 M (ts_wrR M2 81 1 (some 83)) := by
    refine ⟨by rw [wR_n, g1], fun b hb j => ⟨?_, ?_⟩, fun b b1 b2 j => ?_, fun b b1 b2 j hj hx => ?_⟩
    · rw [wR_i, (g2 b (by omega) j).1]; exact (k1 b hb j).1
    · rw [wR_r1 (by omega), (g2 b (by omega) j).2]; exact (k1 b hb j).2
    · rw [wR_i]
      unfold hiI
      rcases Nat.lt_or_ge b 83 with c | c
      · rw [if_pos c, (g2 b c j).1]; exact k2 b b1 c j
      · rw [if_neg (by omega), if_pos (by omega)]
        exact g3 b c (by omega) j
    · rcases Nat.lt_or_ge b 83 with c | c
      · have cs : b = 81 ∨ b = 82 := by omega
        rcases cs with e | e
        · rw [e, rkk_0 s81] at hj
          have hj : j < 5 := hj
          rw [e, tG_0 s81, off_1 j hj]
          by_cases j1 : j = 1
          · rw [wR_r0 rfl j1, if_pos j1, if_neg (by decide)]
          · rw [wR_r1 (fun q => j1 q.2), (g2 81 (by omega) j).2, k3 j, if_neg j1]
            by_cases j0 : j = 0
            · rw [if_pos j0, if_pos j0, if_neg (by decide)]
            · rw [if_neg j0, if_neg j0, if_pos rfl]
        · exact absurd (hx e) (Nat.not_lt_zero j)
      · rw [wR_r1 (by omega)]
        exact g4 b c (by omega) j hj
  obtain ⟨M3, e3, h3⟩ := c10_loop 8 0 _ rfl h0
  refine ⟨M3, fun d => ?_, by rw [h3.1], h3.2.1, fun b b1 b2 => h3.2.2.1 b b1 (by omega), fun b b1 b2 j hj => h3.2.2.2 b b1 (by omega) j hj (fun e => by rw [e, rkk_5 s82] at hj; exact hj)⟩
  refine cs_ev hYC10 (Nat.le_of_ble_eq_true rfl) ?_
  refine (cs_aload dc10_0 rfl).trans ?_
  refine (cs_obj dc10_1 rfl (by decide +kernel) (by decide)).trans ?_
  refine (cs_aload dc10_4 rfl).trans ?_
  refine (cs_bi (v := nI 8) dc10_5 (by decide +kernel)).trans ?_
  refine (cs_anew (M := ts_new M) (k := 8) dc10_7 rfl rfl (by decide) (Or.inr ⟨by decide +kernel, by rw [nw_n, hn]; exact s82⟩) (by rw [nw_n, hn]; decide)).trans ?_
  rw [show (ts_new M).2.2.2 = 82 by rw [nw_n, hn]]
  refine (cs_putR (c := 1) (k := 0) dc10_10 rfl (by decide +kernel) rfl s81 (by simp only [wI_n, wR_n, nw_n, hn]; decide) rfl).trans ?_
  rw [← hM1]
  refine (cs_aload dc10_13 rfl).trans ?_
  refine (cs_new (M := M1) (c := 2) dc10_14 rfl (by decide +kernel) (by rw [c1]; exact s83) (by rw [c1]; decide)).trans ?_
  rw [c1]
  refine (cs_dup dc10_17).trans ?_
  refine (cs_init (y := 7) (n := 0) (z := 0) dc10_18 rfl (by decide +kernel) (by decide +kernel) (by decide +kernel) rfl rfl (Nat.zero_le _) (Nat.le_of_ble_eq_true rfl) (e2 d)).trans ?_
  refine (cs_putR (M := M2) (c := 1) (k := 1) dc10_21 rfl (by decide +kernel) rfl s81 (by rw [g1]; decide) rfl).trans ?_
  refine (cs_ic (v := nI 0) dc10_24 (by decide +kernel)).trans ?_
  refine (cs_istore dc10_25 (by decide)).trans ?_
  exact e3 d

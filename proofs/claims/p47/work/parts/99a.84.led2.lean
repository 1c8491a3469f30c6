/-! ===== the ledger's constructor ===== -/
theorem off_2 : ∀ j, j < 7 → ts_off 2 j = if j = 3 then 4 else if j = 2 then 3 else if j = 1 then 2 else if j = 0 then 1 else 0 := by decide
theorem cX_7 {L : Nat} {M : ts_M} (hn : M.2.2.2 = L) (hL : ts_sh L = (0, 2)) (hN : L + 68 ≤ 711) : ∃ M2, (∀ d, ts_ev (d + 2) 7 [.inr (.inr (some L))] (ts_new M) = some (none, M2)) ∧ cX L (L + 68) (leI L) M M2 := by
  have s1 : ts_sh (L + 1) = (1, 6) := sf_of hL 0 (by decide) (by decide)
  have s2 : ts_sh (L + 2) = (1, 6) := sf_of hL 1 (by decide) (by decide)
  have s3 : ts_sh (L + 3) = (4, 20) := sf_of hL 2 (by decide) (by decide)
  have s4 : ts_sh (L + 4) = (0, 0) := sf_of hL 3 (by decide) (by decide)
  have s5 : ts_sh (L + 4 + 1) = (1, 30) := sf_of s4 0 (by decide) (by decide)
  have s6 : ts_sh (L + 4 + 2) = (1, 30) := sf_of s4 1 (by decide) (by decide)
  have s7 : ts_sh (L + 4 + 3) = (1, 30) := sf_of s4 2 (by decide) (by decide)
  obtain ⟨M1, hM1⟩ : ∃ M1, M1 = ts_wrR (ts_new (ts_wrR (ts_new (ts_wrR (ts_new (ts_new M)) L 0 (some (L + 1)))) L 1 (some (L + 2)))) L 2 (some (L + 3)) := ⟨_, rfl⟩
  have c1 : M1.2.2.2 = L + 4 := by rw [hM1]; simp only [wI_n, wR_n, nw_n, hn]
  have k1 : ∀ b, b < L → ∀ j, M1.1 b j = M.1 b j ∧ M1.2.2.1 b j = M.2.2.1 b j := fun b hb j => by
    rw [hM1]
    constructor
    · simp (disch := (first | omega | (simp only [wI_n, wR_n, nw_n, hn]; done) | (simp only [wI_n, wR_n, nw_n, hn]; omega))) only [wI_i0, wI_i1, wI_r, wR_i, wR_r0, wR_r1, nw_i0, nw_i1, nw_r0, nw_r1]
    · simp (disch := (first | omega | (simp only [wI_n, wR_n, nw_n, hn]; done) | (simp only [wI_n, wR_n, nw_n, hn]; omega))) only [wI_i0, wI_i1, wI_r, wR_i, wR_r0, wR_r1, nw_i0, nw_i1, nw_r0, nw_r1]
  have k2 : ∀ b, L ≤ b → b < L + 4 → ∀ j, M1.1 b j = 0 := fun b b1 b2 j => by
    rw [hM1]
    have cs : b = L ∨ b = L + 1 ∨ b = L + 2 ∨ b = L + 3 := by omega
    rcases cs with e | e | e | e
    · simp (disch := (first | omega | (simp only [wI_n, wR_n, nw_n, hn]; done) | (simp only [wI_n, wR_n, nw_n, hn]; omega))) only [wI_i0, wI_i1, wI_r, wR_i, wR_r0, wR_r1, nw_i0, nw_i1, nw_r0, nw_r1]
    · simp (disch := (first | omega | (simp only [wI_n, wR_n, nw_n, hn]; done) | (simp only [wI_n, wR_n, nw_n, hn]; omega))) only [wI_i0, wI_i1, wI_r, wR_i, wR_r0, wR_r1, nw_i0, nw_i1, nw_r0, nw_r1]
    · simp (disch := (first | omega | (simp only [wI_n, wR_n, nw_n, hn]; done) | (simp only [wI_n, wR_n, nw_n, hn]; omega))) only [wI_i0, wI_i1, wI_r, wR_i, wR_r0, wR_r1, nw_i0, nw_i1, nw_r0, nw_r1]
    · simp (disch := (first | omega | (simp only [wI_n, wR_n, nw_n, hn]; done) | (simp only [wI_n, wR_n, nw_n, hn]; omega))) only [wI_i0, wI_i1, wI_r, wR_i, wR_r0, wR_r1, nw_i0, nw_i1, nw_r0, nw_r1]
  have k3 : ∀ j, M1.2.2.1 L j = if j = 2 then some (L + 3) else if j = 1 then some (L + 2) else if j = 0 then some (L + 1) else none := fun j => by
    rw [hM1]
    by_cases j2 : j = 2
    · rw [if_pos j2]
      simp (disch := (first | omega | (simp only [wI_n, wR_n, nw_n, hn]; done) | (simp only [wI_n, wR_n, nw_n, hn]; omega))) only [wI_i0, wI_i1, wI_r, wR_i, wR_r0, wR_r1, nw_i0, nw_i1, nw_r0, nw_r1]
    · rw [if_neg j2]
      by_cases j1 : j = 1
      · rw [if_pos j1]
        simp (disch := (first | omega | (simp only [wI_n, wR_n, nw_n, hn]; done) | (simp only [wI_n, wR_n, nw_n, hn]; omega))) only [wI_i0, wI_i1, wI_r, wR_i, wR_r0, wR_r1, nw_i0, nw_i1, nw_r0, nw_r1]
      · rw [if_neg j1]
        by_cases j0 : j = 0
        · rw [if_pos j0]
          simp (disch := (first | omega | (simp only [wI_n, wR_n, nw_n, hn]; done) | (simp only [wI_n, wR_n, nw_n, hn]; omega))) only [wI_i0, wI_i1, wI_r, wR_i, wR_r0, wR_r1, nw_i0, nw_i1, nw_r0, nw_r1]
        · rw [if_neg j0]
          simp (disch := (first | omega | (simp only [wI_n, wR_n, nw_n, hn]; done) | (simp only [wI_n, wR_n, nw_n, hn]; omega))) only [wI_i0, wI_i1, wI_r, wR_i, wR_r0, wR_r1, nw_i0, nw_i1, nw_r0, nw_r1]
  obtain ⟨g1, g2, g3, g4⟩ := cX_8 c1 s4
  obtain ⟨M2, hM2⟩ : ∃ M2, M2 = kM8 (L + 4) (ts_new M1) := ⟨_, rfl⟩
  rw [← hM2] at g1 g2 g3 g4
  have h0 : leV L 0 M (ts_wrR M2 L 3 (some (L + 4))) := by
    refine ⟨by rw [wR_n, g1], fun b hb j => ⟨?_, ?_⟩, fun b b1 b2 j => ?_, fun b b1 b2 j hj hx => ?_⟩
    · rw [wR_i, (g2 b (by omega) j).1]; exact (k1 b hb j).1
    · rw [wR_r1 (by omega), (g2 b (by omega) j).2]; exact (k1 b hb j).2
    · rw [wR_i]
      unfold leI
      rw [if_neg (by omega)]
      rcases Nat.lt_or_ge b (L + 4) with c | c
      · rw [(g2 b c j).1]; exact k2 b b1 c j
      · rw [g3 b c (by omega) j]; rfl
    · rcases Nat.lt_or_ge b (L + 4) with c | c
      · have cs : b = L ∨ b = L + 1 ∨ b = L + 2 ∨ b = L + 3 := by omega
        rcases cs with e | e | e | e
        · rw [e, rkk_0 hL] at hj
          have hj : j < 7 := hj
          rw [e, tG_0 hL, off_2 j hj]
          by_cases j3 : j = 3
          · rw [wR_r0 rfl j3, if_pos j3, if_neg (by decide)]
          · rw [wR_r1 (fun q => j3 q.2), (g2 L (by omega) j).2, k3 j, if_neg j3]
            by_cases j2 : j = 2
            · rw [if_pos j2, if_pos j2, if_neg (by decide)]
            · rw [if_neg j2, if_neg j2]
              by_cases j1 : j = 1
              · rw [if_pos j1, if_pos j1, if_neg (by decide)]
              · rw [if_neg j1, if_neg j1]
                by_cases j0 : j = 0
                · rw [if_pos j0, if_pos j0, if_neg (by decide)]
                · rw [if_neg j0, if_neg j0, if_pos rfl]
        · rw [e, rkk_1 s1] at hj; omega
        · rw [e, rkk_1 s2] at hj; omega
        · exact absurd (hx e) (Nat.not_lt_zero j)
      · rw [wR_r1 (by omega)]
        exact g4 b c (by omega) j hj
  obtain ⟨M3, e3, h3⟩ := c7_loop hL hN 20 0 _ rfl h0
  refine ⟨M3, fun d => ?_, by rw [h3.1], h3.2.1, fun b b1 b2 => h3.2.2.1 b b1 (by omega), fun b b1 b2 j hj => h3.2.2.2 b b1 (by omega) j hj (fun e => by rw [e, rkk_4 s3] at hj; exact hj)⟩
  refine cs_ev hYC7 (Nat.le_of_ble_eq_true rfl) ?_
  refine (cs_aload dc7_0 rfl).trans ?_
  refine (cs_obj dc7_1 rfl (by decide +kernel) (by decide)).trans ?_
  refine (cs_aload dc7_4 rfl).trans ?_
  refine (cs_bi (v := nI 6) dc7_5 (by decide +kernel)).trans ?_
  refine (cs_newI (M := ts_new M) (k := 6) dc7_7 rfl rfl (by decide) (by rw [nw_n, hn]; exact s1) (by rw [nw_n, hn]; show _ < 711; omega)).trans ?_
  rw [show (ts_new M).2.2.2 = L + 1 by rw [nw_n, hn]]
  refine (cs_putR (c := 2) (k := 0) dc7_9 rfl (by decide +kernel) rfl hL (by simp only [wI_n, wR_n, nw_n, hn]; omega) rfl).trans ?_
  refine (cs_aload dc7_12 rfl).trans ?_
  refine (cs_bi (v := nI 6) dc7_13 (by decide +kernel)).trans ?_
  refine (cs_newI (M := ts_wrR (ts_new (ts_new M)) L 0 (some (L + 1))) (k := 6) dc7_15 rfl rfl (by decide) (by simp only [wI_n, wR_n, nw_n, hn]; exact s2) (by simp only [wI_n, wR_n, nw_n, hn]; show _ < 711; omega)).trans ?_
  rw [show (ts_wrR (ts_new (ts_new M)) L 0 (some (L + 1))).2.2.2 = L + 2 by simp only [wI_n, wR_n, nw_n, hn]]
  refine (cs_putR (c := 2) (k := 1) dc7_17 rfl (by decide +kernel) rfl hL (by simp only [wI_n, wR_n, nw_n, hn]; omega) rfl).trans ?_
  refine (cs_aload dc7_20 rfl).trans ?_
  refine (cs_bi (v := nI 20) dc7_21 (by decide +kernel)).trans ?_
  refine (cs_anew (M := ts_wrR (ts_new (ts_wrR (ts_new (ts_new M)) L 0 (some (L + 1)))) L 1 (some (L + 2))) (k := 20) dc7_23 rfl rfl (by decide) (Or.inl ⟨by decide +kernel, by simp only [wI_n, wR_n, nw_n, hn]; exact s3⟩) (by simp only [wI_n, wR_n, nw_n, hn]; show _ < 711; omega)).trans ?_
  rw [show (ts_wrR (ts_new (ts_wrR (ts_new (ts_new M)) L 0 (some (L + 1)))) L 1 (some (L + 2))).2.2.2 = L + 3 by simp only [wI_n, wR_n, nw_n, hn]]
  refine (cs_putR (c := 2) (k := 2) dc7_26 rfl (by decide +kernel) rfl hL (by simp only [wI_n, wR_n, nw_n, hn]; omega) rfl).trans ?_
  rw [← hM1]
  refine (cs_aload dc7_29 rfl).trans ?_
  refine (cs_new (M := M1) (c := 0) dc7_30 rfl (by decide +kernel) (by rw [c1]; exact s4) (by rw [c1]; show _ < 711; omega)).trans ?_
  rw [c1]
  refine (cs_dup dc7_33).trans ?_
  have hcn : (ts_new M1).2.2.2 = L + 4 + 1 := by rw [nw_n, c1]
  have k8 : ts_ev (d + 1) 8 [.inr (.inr (some (L + 4)))] (ts_new M1) = some (none, M2) := by
    rw [hM2]
    exact kC8 d s4 (by rw [hcn]; omega) (by rw [hcn]; exact s5) (by rw [hcn]; exact s6) (by rw [hcn]; exact s7) (by rw [hcn]; omega)
  refine (cs_init (y := 8) (n := 0) (z := 1) dc7_34 rfl (by decide +kernel) (by decide +kernel) (by decide +kernel) rfl rfl (Nat.zero_le _) (Nat.le_of_ble_eq_true rfl) k8).trans ?_
  refine (cs_putR (M := M2) (c := 2) (k := 3) dc7_37 rfl (by decide +kernel) rfl hL (by rw [g1]; omega) rfl).trans ?_
  refine (cs_ic (v := nI 0) dc7_40 (by decide +kernel)).trans ?_
  refine (cs_istore dc7_41 (by decide)).trans ?_
  exact e3 d

/-! ===== hours: class and reference go through the same changes ===== -/
section H3
variable {N : NT} {w w' : Nat → Nat} {u j L T : Nat} {m : lt_m}
theorem c127x (h : cl N w L m) (hst : ∀ i, i < w 2 → w_st w i ≤ 5) {i : Nat} (hi : i < 20) : v127 m (L + 3 + 5 + 3 * i) = nI (if i < w 2 then w_ch w i else 1000000) := by
  unfold v127
  by_cases h2 : i < w 2
  · obtain ⟨-, -, -, -, -, e6, e7, -⟩ := h.2.2.2.2.1 i h2
    have b7 := hst i h2
    rw [e6, e7, if_pos h2]
    unfold w_ch
    simp (disch := omega) only [sp_eq0, q_3, sp_eqn]
    by_cases c : w_st w i = 0
    · rw [if_neg (by simp [c]), if_pos c, nI_1]
    · rw [if_pos c, if_neg c]
      by_cases c3 : w_st w i = 3
      · rw [if_neg (by simp [c3]), if_pos c3, q_72, nI_add]
      · rw [if_pos c3, if_neg c3]; rfl
  · rw [h.2.2.2.2.2.1 i (by omega) hi, if_neg h2]
    rfl
theorem w_ch_lex (htm : ∀ i, i < w 2 → w_tm w i ≤ 200000) {i : Nat} (hi : i < w 2) : w_ch w i ≤ 1000000 := by
  have bt := htm i hi
  unfold w_ch
  split
  · omega
  · split <;> omega
theorem k126x (d : Nat) (h0 : ts_sh L = (0, 2)) (h : cl N w L m) (h20 : w 2 ≤ 20) (hst : ∀ i, i < w 2 → w_st w i ≤ 5) (htm : ∀ i, i < w 2 → w_tm w i ≤ 200000) (hu : u < 1000000) : lt_ev (d + 2) 126 [.inr (.inr (some L)), .inl (nI u)] m = some (some (.inr (.inr ((w_ear w u 20).map (fun j => L + 3 + 5 + 3 * j)))), m) := by
  refine (E126 (d + 1) L _ h0 m).trans ?_
  refine lp_it (F := fun i o => L126_14 (d + 1) L (nI u) ((w_ear w u i).map (fun j => L + 3 + 5 + 3 * j)) (nI i) o m) 20 ?_ ?_ none
  · intro i o hi
    have hq := sh_mv h0 hi
    have hc : (if i < w 2 then w_ch w i else 1000000) < 2 ^ 31 := by
      split
      · next q => have := w_ch_lex htm q; omega
      · omega
    refine ⟨some (.inr (.inr (some (L + 3 + 5 + 3 * i)))), ?_⟩
    rw [E126_14 _ _ _ _ _ _ h0]
    simp (disch := omega) only [q_20, sp_len, nI_clamp]
    rw [if_neg (by omega), lt_gd_t ⟨nI_pos' (by omega), hi⟩, p127 d _ hq m, lt_cI_s, c127x h hst hi, nI_1]
    simp (disch := omega) only [sp_ltn]
    simp only [w_ear]
    by_cases c : i < w 2 ∧ w_ch w i ≤ u
    · rw [if_neg (by rw [if_pos c.1]; omega), if_pos c]
      cases hg : w_ear w u i with
      | none => rw [Option.map_none, lt_nl_n]; rfl
      | some j =>
        obtain ⟨j1, j2, j3⟩ := w_ear_b i j hg
        have b1 := w_ch_lex htm c.1
        have b2 := w_ch_lex htm j2
        rw [Option.map_some, lt_nl_s, p127 d _ hq m, lt_cI_s, c127x h hst hi, if_pos c.1, lt_gd_t (sh_mv h0 (by omega)), p127 d _ (sh_mv h0 (by omega)) m, lt_cI_s, c127x h hst (by omega), if_pos j2]
        simp (disch := omega) only [sp_len]
        by_cases c2 : w_ch w j ≤ w_ch w i
        · rw [if_pos c2, if_pos c2]; rfl
        · rw [if_neg c2, if_neg c2]; rfl
    · rw [if_neg c, if_pos]
      by_cases h2 : i < w 2
      · rw [if_pos h2]; omega
      · rw [if_neg h2]; omega
  · intro o
    rw [E126_14 _ _ _ _ _ _ h0, if_pos (by decide)]
theorem cl_mvx {m' : lt_m} {i : Nat} (a1 : w 1 ≤ 6) (a2 : w 2 ≤ 20) (hl : ∀ j, j < w 2 → w_sp w j ≤ 8 ∧ w_lg w j ≤ 8) (hi : i < w 2) (hf : ∀ k, k < 536 → k ≠ 3 → ¬ (16 + 26 * i ≤ k ∧ k < 42 + 26 * i) → w' k = w k) (hm : ∀ b, L ≤ b → b < L + 68 → b ≠ L + 4 → b ≠ L + 5 → b ≠ L + 6 → b ≠ L + 7 → b ≠ L + 3 + 5 + 3 * i → b ≠ L + 3 + 5 + 3 * i + 2 → m'.1 b = m.1 b) (h0 : m'.1 (L + 3 + 5 + 3 * i) 0 = m.1 (L + 3 + 5 + 3 * i) 0) (hv : mvR N w' i (L + 3 + 5 + 3 * i) m') (h : cl N w L m) : cl N w' L m' := by
  obtain ⟨h1, h2, h3, h4, h5, h6, h7⟩ := h
  have g0 := hf 0 (by omega) (by omega) (by omega)
  have g1 := hf 1 (by omega) (by omega) (by omega)
  have g2 := hf 2 (by omega) (by omega) (by omega)
  have mL := hm L (by omega) (by omega) (by omega) (by omega) (by omega) (by omega) (by omega) (by omega)
  refine ⟨by rw [mL, g0]; exact h1, by rw [mL, g1]; exact h2, by rw [mL, g2]; exact h3, fun t ht => ?_, fun j hj => ?_, fun j q1 q2 => ?_, fun j hj => ?_⟩
  · rw [g1] at ht
    rw [hm (L + 1) (by omega) (by omega) (by omega) (by omega) (by omega) (by omega) (by omega) (by omega), hm (L + 2) (by omega) (by omega) (by omega) (by omega) (by omega) (by omega) (by omega) (by omega), hf (4 + 2 * t) (by omega) (by omega) (by omega), hf (5 + 2 * t) (by omega) (by omega) (by omega)]
    exact h4 t ht
  · rw [g2] at hj
    by_cases e : j = i
    · subst e; exact hv
    · have hl := hl j hj
      refine mvR_cg (fun k k1 k2 => hf k (by omega) (by omega) (by omega)) (by omega) (by omega) (mvR_fr ?_ ?_ ?_ (h5 j hj))
      · exact hm _ (by omega) (by omega) (by omega) (by omega) (by omega) (by omega) (by omega) (by omega)
      · exact hm _ (by omega) (by omega) (by omega) (by omega) (by omega) (by omega) (by omega) (by omega)
      · exact hm _ (by omega) (by omega) (by omega) (by omega) (by omega) (by omega) (by omega) (by omega)
  · rw [g2] at q1
    rw [hm _ (by omega) (by omega) (by omega) (by omega) (by omega) (by omega) (by omega) (by omega)]
    exact h6 j q1 q2
  · by_cases e : j = i
    · subst e; rw [h0]; exact h7 j hj
    · rw [hm _ (by omega) (by omega) (by omega) (by omega) (by omega) (by omega) (by omega) (by omega)]
      exact h7 j hj
theorem evo_b (h : evo N u w w') (hw : wfL N w) : w' 1 ≤ 6 ∧ w' 2 = w 2 ∧ w' 2 ≤ 20 ∧ w' 3 ≤ 30 ∧ (∀ j, j < w' 2 → w_sp w' j ≤ 8 ∧ w_lg w' j ≤ 8) ∧ (∀ j, j < w' 2 → w_st w' j ≤ 5) ∧ ∀ j, j < w' 2 → w_tm w' j ≤ 200000 := by
  have g2 := evo_at h (k := 2) (by omega)
  have g1 := evo_at h (k := 1) (by omega)
  have h20 := hw.2.2.1
  refine ⟨by rw [g1]; exact hw.2.1, g2, by rw [g2]; exact h20, h.2.1, fun j hj => ?_, fun j hj => ?_, fun j hj => ?_⟩
  · rw [g2] at hj
    have := wf_sp hw hj
    rw [show w_sp w' j = w_sp w j from evo_mv h hw hj (by omega) (by omega) (by omega), show w_lg w' j = w_lg w j from evo_mv h hw hj (by omega) (by omega) (by omega)]
    omega
  · rw [g2] at hj; exact evo_st h hw hj
  · rw [g2] at hj; rw [evo_tm h hw hj]; exact wf_tm hw hj
/-- one change of the class -/
theorem k128c (h0 : ts_sh L = (0, 2)) (hT : T < 2 ^ 30) (hw : wfL N w) (he : evo N u w w') (hu : u < 1000000) (hj : j < w 2) (hc : w_ch w' j ≤ u) (hcl : cl N w' L m) (hb : bkR w' L T m) (hn : nmR L m) : ∃ m', (∀ d, lt_ev (d + 3) 128 [.inr (.inr (some L)), .inr (.inr (some (L + 3 + 5 + 3 * j)))] m = some (none, m')) ∧ cl N (chg N w' j) L m' ∧ bkR (chg N w' j) L (T + 1) m' ∧ nmR L m' ∧ m'.2 = m.2 ∧ ∀ b, ¬ (L ≤ b ∧ b < L + 68) → m'.1 b = m.1 b := by
  have h20 := hw.2.2.1
  obtain ⟨b1, b2, b3, b4, b5, b6, b7⟩ := evo_b he hw
  have hj' : j < w' 2 := by rw [b2]; exact hj
  have hmv := hcl.2.2.2.2.1 j hj'
  have e7 := hmv.2.2.2.2.2.2.1
  have e6 := hmv.2.2.2.2.2.1
  have e4 := hmv.2.2.2.1
  have en := hcl.2.2.2.2.2.2 j (by omega)
  have nm : ∀ {M : lt_m}, (∀ b, L + 8 ≤ b → b < L + 68 → b ≠ L + 3 + 5 + 3 * j → M.1 b = m.1 b) → M.1 (L + 3 + 5 + 3 * j) 0 = m.1 (L + 3 + 5 + 3 * j) 0 → M.1 (L + 3 + 5 + 3 * j) 11 = m.1 (L + 3 + 5 + 3 * j) 11 → nmR L M := by
    intro M f f0 f11 i hi
    by_cases e : i = j
    · subst e; rw [f0, f11]; exact hn i hi
    · rw [f _ (by omega) (by omega) (by omega)]; exact hn i hi
  rcases ch_st hu hc with ⟨s0, -⟩ | ⟨s3, -⟩
  · have e7' : m.1 (L + 3 + 5 + 3 * j) 7 = nI 0 := by rw [e7, s0]
    have hb' : bkR (wset w' (19 + 26 * j) 3) L T m := bkR_cg (wset_ne (by omega)) (fun k hk => wset_ne (by omega)) (fun _ _ _ => rfl) hb
    obtain ⟨M, e3, hb3, r3, f3⟩ := k128a (w := wset w' (19 + 26 * j) 3) h0 (by omega) hT (by rw [wset_ne (by omega)]; exact b4) hb' e7' e6 en
    have hch : chg N w' j = wnote (wset w' (19 + 26 * j) 3) 4 j (w_tm w' j + 1) := by unfold chg; rw [if_pos s0]
    have fq : M.1 (L + 3 + 5 + 3 * j) = (lm_i m (L + 3 + 5 + 3 * j) 7 3).1 (L + 3 + 5 + 3 * j) := f3 _ (by omega)
    have fo : ∀ b, ¬ (L + 4 ≤ b ∧ b < L + 8) → b ≠ L + 3 + 5 + 3 * j → M.1 b = m.1 b := fun b g1 g2 => by rw [f3 b g1, lm_i_ne g2]
    refine ⟨M, e3, ?_, by rw [hch]; exact hb3, nm (fun b g1 g2 g3 => fo b (by omega) g3) (by rw [fq, lm_i_ns (by omega)]) (by rw [fq, lm_i_ns (by omega)]), r3, fun b hb => fo b (by omega) (by omega)⟩
    refine cl_mvx b1 b3 b5 hj' (fun k k1 k2 k3 => chg_lo k1 k2 (by omega) (by omega)) (fun b g1 g2 g3 g4 g5 g6 g7 g8 => fo b (by omega) g7) (by rw [fq, lm_i_ns (by omega)]) ?_ hcl
    have hlg : w_lg (wset w' (19 + 26 * j) 3) j = w_lg w' j := wset_ne (by omega)
    have hsp : w_sp (wset w' (19 + 26 * j) 3) j = w_sp w' j := wset_ne (by omega)
    refine mvR_cg (w := wset w' (19 + 26 * j) 3) (fun k k1 k2 => by rw [hch, wnote_lo (by omega) (by omega)]) (by rw [hlg]; exact (b5 j hj').2) (by rw [hsp]; exact (b5 j hj').1) ?_
    exact mvR_fr (m := lm_i m (L + 3 + 5 + 3 * j) 7 3) fq (f3 _ (by omega)) (f3 _ (by omega)) (mvR_st hmv)
  · have e7' : m.1 (L + 3 + 5 + 3 * j) 7 = nI 3 := by rw [e7, s3]
    have hb' : bkR (wset (wset w' (24 + 26 * j) (w_un w' j * N.2.2.2.2 (w_kd w' j))) (19 + 26 * j) 4) L T m := bkR_cg (by rw [wset_ne (by omega), wset_ne (by omega)]) (fun k hk => by rw [wset_ne (by omega), wset_ne (by omega)]) (fun _ _ _ => rfl) hb
    obtain ⟨M, e3, hb3, r3, f3⟩ := k128b (w := wset (wset w' (24 + 26 * j) (w_un w' j * N.2.2.2.2 (w_kd w' j))) (19 + 26 * j) 4) h0 (by omega) hT (by rw [wset_ne (by omega), wset_ne (by omega)]; exact b4) hb' e7' e6 e4 en
    have hch : chg N w' j = wnote (wset (wset w' (24 + 26 * j) (w_un w' j * N.2.2.2.2 (w_kd w' j))) (19 + 26 * j) 4) 5 j (w_tm w' j + 72) := by unfold chg; rw [if_neg (by omega)]
    have fq : M.1 (L + 3 + 5 + 3 * j) = (lm_i (lm_i m (L + 3 + 5 + 3 * j) 7 4) (L + 3 + 5 + 3 * j) 10 (nI (w_un w' j * N.2.2.2.2 (w_kd w' j)))).1 (L + 3 + 5 + 3 * j) := f3 _ (by omega)
    have fo : ∀ b, ¬ (L + 4 ≤ b ∧ b < L + 8) → b ≠ L + 3 + 5 + 3 * j → M.1 b = m.1 b := fun b g1 g2 => by rw [f3 b g1, lm_i_ne g2, lm_i_ne g2]
    refine ⟨M, e3, ?_, by rw [hch]; exact hb3, nm (fun b g1 g2 g3 => fo b (by omega) g3) (by rw [fq, lm_i_ns (by omega), lm_i_ns (by omega)]) (by rw [fq, lm_i_ns (by omega), lm_i_ns (by omega)]), r3, fun b hb => fo b (by omega) (by omega)⟩
    refine cl_mvx b1 b3 b5 hj' (fun k k1 k2 k3 => chg_lo k1 k2 (by omega) (by omega)) (fun b g1 g2 g3 g4 g5 g6 g7 g8 => fo b (by omega) g7) (by rw [fq, lm_i_ns (by omega), lm_i_ns (by omega)]) ?_ hcl
    have hlg : w_lg (wset (wset w' (19 + 26 * j) 4) (24 + 26 * j) (w_un w' j * N.2.2.2.2 (w_kd w' j))) j = w_lg w' j := (wset_ne (by omega)).trans (wset_ne (by omega))
    have hsp : w_sp (wset (wset w' (19 + 26 * j) 4) (24 + 26 * j) (w_un w' j * N.2.2.2.2 (w_kd w' j))) j = w_sp w' j := (wset_ne (by omega)).trans (wset_ne (by omega))
    refine mvR_cg (w := wset (wset w' (19 + 26 * j) 4) (24 + 26 * j) (w_un w' j * N.2.2.2.2 (w_kd w' j))) (fun k k1 k2 => by rw [hch, wnote_lo (by omega) (by omega), wset_cm (k := 24 + 26 * j) (by omega)]) (by rw [hlg]; exact (b5 j hj').2) (by rw [hsp]; exact (b5 j hj').1) ?_
    exact mvR_fr (m := lm_i (lm_i m (L + 3 + 5 + 3 * j) 7 4) (L + 3 + 5 + 3 * j) 10 (nI (w_un w' j * N.2.2.2.2 (w_kd w' j)))) fq (f3 _ (by omega)) (f3 _ (by omega)) (mvR_db (mvR_st hmv))
theorem cl_hr (a1 : w 1 ≤ 6) (a2 : w 2 ≤ 20) (hl : ∀ j, j < w 2 → w_sp w j ≤ 8 ∧ w_lg w j ≤ 8) (h : cl N w L m) : cl N (wset w 0 u) L (lm_i m L 4 (nI u)) := by
  obtain ⟨h1, h2, h3, h4, h5, h6, h7⟩ := h
  refine ⟨by rw [lm_i_eq, wset_eq], by rw [lm_i_ns (by omega), wset_ne (by omega)]; exact h2, by rw [lm_i_ns (by omega), wset_ne (by omega)]; exact h3, fun t ht => ?_, fun i hi => ?_, fun i hi => ?_, fun i hi => ?_⟩
  · rw [wset_ne (by omega)] at ht
    rw [lm_i_ne (by omega), lm_i_ne (by omega), wset_ne (by omega), wset_ne (by omega)]
    exact h4 t ht
  · rw [wset_ne (by omega)] at hi
    exact mvR_cg (fun k k1 k2 => wset_ne (by omega)) (hl i hi).2 (hl i hi).1 (mvR_fr (lm_i_ne (by omega)) (lm_i_ne (by omega)) (lm_i_ne (by omega)) (h5 i hi))
  · rw [wset_ne (by omega)] at hi
    rw [lm_i_ne (by omega)]; exact h6 i hi
  · rw [lm_i_ne (by omega)]; exact h7 i hi
theorem itW_lt : ∀ n w, (itW N u n w).2 < 2 ^ 20 := by
  intro n
  induction n with
  | zero => intro w; exact Nat.two_pow_pos 20
  | succ n ih =>
    intro w
    cases h : w_ear w u 20 with
    | none => rw [itW_n h]; exact Nat.two_pow_pos 20
    | some j =>
      rw [itW_s h]
      exact Nat.or_lt_two_pow (Nat.pow_lt_pow_right (by omega) (w_ear_b 20 j h).1) (ih _)
/-- letPass -/
theorem k125 (h0 : ts_sh L = (0, 2)) (hT : T + 40 < 2 ^ 30) (hw : wfL N w) (hu : u < 1000000) (x1 : Int32) : ∀ n i w' s o m, i + n = 40 → evo N u w w' → cl N w' L m → bkR w' L (T + i) m → nmR L m → s < 2 ^ 20 → ∃ m', (∀ d, L125_12 (d + 3) L x1 (nI u) (nI s) (nI i) o m = some (some (.inl (nI (pcN (s ||| (itW N u n w').2) 24))), m')) ∧ cl N (wset (itW N u n w').1 0 u) L m' ∧ bkR (wset (itW N u n w').1 0 u) L (T + 40) m' ∧ nmR L m' ∧ m'.2 = m.2 ∧ ∀ b, ¬ (L ≤ b ∧ b < L + 68) → m'.1 b = m.1 b := by
  have stop : ∀ (w' : Nat → Nat) (s i : Nat) (m : lt_m), i ≤ 40 → evo N u w w' → cl N w' L m → bkR w' L (T + i) m → nmR L m → s < 2 ^ 20 → (∀ d, lt_cI (lt_ev (d + 3) 60 [.inl (nI s)] (lm_i m L 4 (nI u))) (fun v1 m1 => (some (some (.inl v1), m1))) = some (some (.inl (nI (pcN s 24))), lm_i m L 4 (nI u))) ∧ cl N (wset w' 0 u) L (lm_i m L 4 (nI u)) ∧ bkR (wset w' 0 u) L (T + 40) (lm_i m L 4 (nI u)) ∧ nmR L (lm_i m L 4 (nI u)) ∧ (lm_i m L 4 (nI u)).2 = m.2 ∧ ∀ b, ¬ (L ≤ b ∧ b < L + 68) → (lm_i m L 4 (nI u)).1 b = m.1 b := by
    intro w' s i m hi he hcl hb hn hs
    obtain ⟨b1, b2, b3, b4, b5, b6, b7⟩ := evo_b he hw
    refine ⟨fun d => ?_, cl_hr b1 b3 b5 hcl, bkR_mono (T := T + i) (by omega) (bkR_cg (wset_ne (by omega)) (fun k hk => wset_ne (by omega)) (fun b g1 g2 => lm_i_ne (by omega)) hb), fun i hi => ?_, rfl, fun b hb => lm_i_ne (by omega)⟩
    · rw [k60 (d + 2) (by omega), lt_cI_s]
    · rw [lm_i_ne (by omega)]; exact hn i hi
  intro n
  induction n with
  | zero =>
    intro i w' s o m hi he hcl hb hn hs
    have hi : i = 40 := hi
    subst hi
    obtain ⟨s1, s2⟩ := stop w' s 40 m (by omega) he hcl hb hn hs
    refine ⟨_, fun d => ?_, s2⟩
    rw [E125_12 _ _ _ _ _ _ _ h0, if_pos (by decide), s1 d]
    simp only [itW, Nat.or_zero]
  | succ n ih =>
    intro i w' s o m hi he hcl hb hn hs
    obtain ⟨b1, b2, b3, b4, b5, b6, b7⟩ := evo_b he hw
    have h126 : ∀ d, lt_ev (d + 3) 126 [.inr (.inr (some L)), .inl (nI u)] m = _ := fun d => k126x (d + 1) h0 hcl b3 b6 b7 hu
    cases hg : w_ear w' u 20 with
    | none =>
      obtain ⟨s1, s2⟩ := stop w' s i m (by omega) he hcl hb hn hs
      rw [itW_n hg]
      refine ⟨_, fun d => ?_, s2⟩
      rw [E125_12 _ _ _ _ _ _ _ h0, if_neg (by rw [q_40, sp_len (by omega) (by omega)]; omega), h126 d, hg, Option.map_none, lt_cR_s, lt_nl_n, s1 d, Nat.or_zero]
    | some j =>
      obtain ⟨j1, j2, j3⟩ := w_ear_b 20 j hg
      obtain ⟨M, e3, hcl3, hb3, hn3, r3, f3⟩ := k128c h0 (by omega) hw he hu (by omega) j3 hcl hb hn
      obtain ⟨m', e4, c4, b4', n4, r4, f4⟩ := ih (i + 1) (chg N w' j) (s ||| 2 ^ j) (some (.inr (.inr (some (L + 3 + 5 + 3 * j))))) M (by omega) (evo_chg he hw hu (by omega) j3) hcl3 (by rw [← Nat.add_assoc]; exact hb3) hn3 (Nat.or_lt_two_pow hs (Nat.pow_lt_pow_right (by omega) j1))
      rw [itW_s hg]
      refine ⟨m', fun d => ?_, c4, b4', n4, by rw [r4, r3], fun b hb => by rw [f4 b hb, f3 b hb]⟩
      have hq := sh_mv h0 j1
      rw [E125_12 _ _ _ _ _ _ _ h0, if_neg (by rw [q_40, sp_len (by omega) (by omega)]; omega), h126 d, hg, Option.map_some, lt_cR_s, lt_nl_s, e3 d, lt_cV_s, lt_gd_t hq, p65 (d + 2) _ hq M, lt_cI_s, c65 hcl3 j1, sp_orN, nI_1, e4 d]
      rw [Nat.or_assoc]
end H3

/-! ===== stamps ===== -/
theorem wnote_set {w : Nat → Nat} {k0 v a b c : Nat} (h1 : k0 < 536) (h3 : k0 ≠ 3) : wset (wnote w a b c) k0 v = wnote (wset w k0 v) a b c := funext fun j => by
  have e3 : wset w k0 v 3 = w 3 := wset_ne (fun q => h3 q.symm)
  by_cases cj : j = k0
  · subst cj
    rw [wset_eq, wnote_lo h1 h3, wset_eq]
  · rw [wset_ne cj]
    unfold wnote
    rw [e3]
    by_cases q : w 3 = 30
    · rw [if_pos q, if_pos q]
      by_cases q1 : 536 ≤ j ∧ j < 623
      · rw [if_pos q1, if_pos q1, wset_ne (by omega)]
      · rw [if_neg q1, if_neg q1, wset_ne cj]
    · rw [if_neg q, if_neg q, wset_ne cj]
section ST
variable {dist wl : DT} {T : Nat} {S : ST} {N : NT} {w w' : Nat → Nat} {m m' M M2 : lt_m} {vs : List Int32} {i q : Nat}
theorem mvR_at {h : Nat} (hl8 : w_lg w i ≤ 8) (hsp : w_sp w i < 8) (hm : mvR N w i q m) : mvR N (wset (wset w (34 + 26 * i + w_sp w i) h) (22 + 26 * i) (w_sp w i + 1)) i q (lm_i (lm_i m (q + 2) (w_sp w i) (nI h)) q 9 (nI (w_sp w i + 1))) := by
  obtain ⟨s, hs⟩ : ∃ s, s = w_sp w i := ⟨_, rfl⟩
  rw [← hs] at hsp ⊢
  obtain ⟨W, hW⟩ : ∃ W, W = wset (wset w (34 + 26 * i + s) h) (22 + 26 * i) (s + 1) := ⟨_, rfl⟩
  have ne : ∀ k, k ≠ 22 + 26 * i → k ≠ 34 + 26 * i + s → W k = w k := fun k h1 h2 => by rw [hW, wset_ne h1, wset_ne h2]
  have e_of : w_of W i = w_of w i := ne _ (by omega) (by omega)
  have e_kd : w_kd W i = w_kd w i := ne _ (by omega) (by omega)
  have e_un : w_un W i = w_un w i := ne _ (by omega) (by omega)
  have e_st : w_st W i = w_st w i := ne _ (by omega) (by omega)
  have e_sh : w_sh W i = w_sh w i := ne _ (by omega) (by omega)
  have e_tm : w_tm W i = w_tm w i := ne _ (by omega) (by omega)
  have e_sp : w_sp W i = s + 1 := by rw [hW]; exact wset_eq
  have e_br : w_br W i = w_br w i := ne _ (by omega) (by omega)
  have e_db : w_db W i = w_db w i := ne _ (by omega) (by omega)
  have e_lg : w_lg W i = w_lg w i := ne _ (by omega) (by omega)
  have e_rt : ∀ k, k < 8 → w_rt W i k = w_rt w i k := fun k hk => ne _ (by omega) (by omega)
  have e_at : ∀ k, k < 8 → k ≠ s → w_at W i k = w_at w i k := fun k hk hne => ne _ (by omega) (by omega)
  have e_as : w_at W i s = h := by
    rw [hW]
    show wset _ _ _ (34 + 26 * i + s) = h
    rw [wset_ne (by omega), wset_eq]
  rw [← hW]
  unfold mvR at hm ⊢
  rw [e_of, e_kd, e_un, e_st, e_sh, e_tm, e_sp, e_br, e_db, e_lg]
  obtain ⟨a1, a2, a3, a4, a5, a6, a7, a8, a9, a10, a11, a12, a13⟩ := hm
  have g : ∀ k, k ≠ 9 → (lm_i (lm_i m (q + 2) s (nI h)) q 9 (nI (s + 1))).1 q k = m.1 q k := fun k hk => by rw [lm_i_ns (by omega), lm_i_ne (by omega)]
  refine ⟨by rw [g 1 (by decide)]; exact a1, by rw [g 2 (by decide)]; exact a2, by rw [g 3 (by decide)]; exact a3, by rw [g 4 (by decide)]; exact a4, by rw [g 5 (by decide)]; exact a5, by rw [g 6 (by decide)]; exact a6, by rw [g 7 (by decide)]; exact a7, by rw [g 8 (by decide)]; exact a8, lm_i_eq, by rw [g 10 (by decide)]; exact a10, by rw [g 11 (by decide)]; exact a11, fun k hk => ?_, fun k hk => ?_⟩
  · rw [lm_i_ne (by omega), lm_i_ne (by omega), e_rt k (by omega)]; exact a12 k hk
  · rw [lm_i_ne (by omega)]
    by_cases c : k = s
    · subst c; rw [lm_i_eq, e_as]
    · rw [lm_i_ns (by omega), e_at k (by omega) c]; exact a13 k (by omega)
theorem wfM_at (hl8 : w_lg w i ≤ 8) (hsp : w_sp w i < w_lg w i) (hg : w_goes w i = true) (h : wfM N w i) : wfM N (wset (wset (wset w (34 + 26 * i + w_sp w i) (w 0)) (22 + 26 * i) (w_sp w i + 1)) (19 + 26 * i) (if w_sp w i + 1 = w_lg w i then 1 else w_st w i)) i := by
  obtain ⟨s, hs⟩ : ∃ s, s = w_sp w i := ⟨_, rfl⟩
  rw [← hs] at hsp ⊢
  obtain ⟨st, hst⟩ : ∃ st, st = if s + 1 = w_lg w i then 1 else w_st w i := ⟨_, rfl⟩
  rw [← hst]
  obtain ⟨W, hW⟩ : ∃ W, W = wset (wset (wset w (34 + 26 * i + s) (w 0)) (22 + 26 * i) (s + 1)) (19 + 26 * i) st := ⟨_, rfl⟩
  have ne : ∀ k, k ≠ 19 + 26 * i → k ≠ 22 + 26 * i → k ≠ 34 + 26 * i + s → W k = w k := fun k h0 h1 h2 => by rw [hW, wset_ne h0, wset_ne h1, wset_ne h2]
  have e_of : w_of W i = w_of w i := ne _ (by omega) (by omega) (by omega)
  have e_kd : w_kd W i = w_kd w i := ne _ (by omega) (by omega) (by omega)
  have e_un : w_un W i = w_un w i := ne _ (by omega) (by omega) (by omega)
  have e_st : w_st W i = st := by rw [hW]; exact wset_eq
  have e_sh : w_sh W i = w_sh w i := ne _ (by omega) (by omega) (by omega)
  have e_tm : w_tm W i = w_tm w i := ne _ (by omega) (by omega) (by omega)
  have e_sp : w_sp W i = s + 1 := by rw [hW]; exact (wset_ne (by omega)).trans wset_eq
  have e_br : w_br W i = w_br w i := ne _ (by omega) (by omega) (by omega)
  have e_db : w_db W i = w_db w i := ne _ (by omega) (by omega) (by omega)
  have e_lg : w_lg W i = w_lg w i := ne _ (by omega) (by omega) (by omega)
  have e_rt : ∀ k, k < 8 → w_rt W i k = w_rt w i k := fun k hk => ne _ (by omega) (by omega) (by omega)
  have e_at : ∀ k, k < 8 → k ≠ s → w_at W i k = w_at w i k := fun k hk hne => ne _ (by omega) (by omega) (by omega)
  have e_as : w_at W i s = w 0 := by
    rw [hW]
    show wset _ _ _ (34 + 26 * i + s) = w 0
    rw [wset_ne (by omega), wset_ne (by omega), wset_eq]
  have e_0 : W 0 = w 0 := ne _ (by omega) (by omega) (by omega)
  have e_1 : W 1 = w 1 := ne _ (by omega) (by omega) (by omega)
  have hgs : w_st w i = 0 ∨ w_st w i = 3 := by unfold w_goes at hg; simpa using hg
  have hgW : w_goes W i = true → s + 1 < w_lg w i := fun z => by
    unfold w_goes at z
    rw [e_st, hst] at z
    by_cases c : s + 1 = w_lg w i
    · rw [if_pos c] at z; simp at z
    · omega
  rw [← hW]
  unfold wfM at h ⊢
  rw [e_of, e_kd, e_un, e_st, e_sh, e_tm, e_sp, e_br, e_db, e_lg, e_0, e_1]
  obtain ⟨a0, a1, a2, a3, a4, a5, a6, a7, a8, a9, a10, a11, a12, a13, a14, a15, a16, a17, a18⟩ := h
  refine ⟨a0, a1, a2, a3, by rw [hst]; split <;> omega, a5, a6, by omega, by omega, a9, a10, a11, ⟨a12.1, fun _ => a12.2 (by omega)⟩, fun k hk => by rw [e_rt k (by omega)]; exact a13 k hk, fun k hk => by rw [e_rt k (by omega), e_rt (k + 1) (by omega)]; exact a14 k hk, fun k hk => ?_, hgW, fun z => ?_, fun z => ?_⟩
  · by_cases c : k = s
    · subst c; rw [e_as]; exact Nat.le_refl _
    · rw [e_at k (by omega) c]; exact a15 k (by omega)
  · rw [hst] at z
    by_cases c : s + 1 = w_lg w i
    · rw [if_pos c] at z; omega
    · rw [if_neg c] at z; exact a17 z
  · rw [hst] at z
    by_cases c : s + 1 = w_lg w i
    · rw [if_pos c] at z; omega
    · rw [if_neg c] at z; exact a18 z
/-- stamps -/
theorem op_stamps (d : Nat) (hT : T < 2 ^ 30) (hr : RR dist wl T m) (x y : Int32) : OP dist wl d T (T + 1) 113 230 [.inl x, .inl y] m := by
  have hr0 := hr
  obtain ⟨N, w, vs, hs, hl, hc, hm⟩ := hr
  obtain ⟨S, rfl, rfl, hC, hM⟩ := RS_split hs
  have hw := hs.wfL
  have hN := hs.wfN
  have bn := hN.2.1
  have h20 := hw.2.2.1
  have hcl := hs.cl
  rcases c114 hcl hw x with ⟨i, hi, rfl, e⟩ | ⟨hx, e⟩
  · have hq := sh_mv sL (i := i) (by omega)
    obtain ⟨s1, s2, s3, s4⟩ := wf_sp hw hi
    have hwm := hw.2.2.2.2.2 i hi
    have b12 : w_br S.w i ≤ 1 := hwm.2.2.2.2.2.2.2.2.2.2.2.1
    have hcls : lt_ev (d + 30) 113 [.inr (.inr (some 0)), .inl (nI i), .inl y] m = _ := E113 (d + 29) 0 _ _ sx m
    rw [p114 (d + 27) _ _ sL m, lt_cR_s, e, lt_nl_s, lt_gd_t hs.sA, p14 (d + 28) _ _ hs.sA m, lt_cI_s] at hcls
    have hmod : ∀ M : lt_m, ml S.N S.w 711 (lm_i M 711 15 0) → lt_ev (d + 30) 230 [.inr (.inr (some 711)), .inl (nI i), .inl y] M = _ := fun M h => by
      refine (E230 (d + 29) 711 _ _ sy M).trans ?_
      rw [m231 (d + 27) sy h hw, lt_cI_s, sp_i1 hi (by omega), if_neg (by decide), m193 (d + 27) sy h hN, lt_cI_s]
    rcases c14 hs.nR hN y with ⟨a, ha, rfl, e'⟩ | ⟨hy, e'⟩
    · rw [e', if_pos (by decide), lt_gd_t hq, p62 (d + 28) _ hq m, lt_cI_s, c62 hcl hw (by omega)] at hcls
      have hmod2 : ∀ M : lt_m, ml S.N S.w 711 (lm_i M 711 15 0) → lt_ev (d + 30) 230 [.inr (.inr (some 711)), .inl (nI i), .inl (nI a)] M = _ := fun M h => by
        refine (hmod M h).trans ?_
        rw [sp_i1 ha (by omega), if_pos (by decide), m196 (d + 26) sy h hw hi, lt_cI_s]
      by_cases c1 : w_goes S.w i = true
      · have hsl : w_sp S.w i < w_lg S.w i := hwm.2.2.2.2.2.2.2.2.2.2.2.2.2.2.2.2.1 c1
        have hr1 : w_rt S.w i (w_sp S.w i) < S.N.1 := wf_rt hw hi hsl
        rw [show (if i < S.w 2 ∧ w_goes S.w i = true then (1 : Int32) else 0) = 1 from if_pos ⟨hi, c1⟩, if_pos (by decide), p115 (d + 26) _ hq m, lt_cI_s, c115 hcl hw hi, if_pos hsl] at hcls
        have hmod3 : ∀ M : lt_m, ml S.N S.w 711 (lm_i M 711 15 0) → lt_ev (d + 30) 230 [.inr (.inr (some 711)), .inl (nI i), .inl (nI a)] M = _ := fun M h => by
          refine (hmod2 M h).trans ?_
          rw [show (if w_goes S.w i = true then (1 : Int32) else 0) = 1 from if_pos c1, if_pos (by decide), m198_sp (d + 28) sy h (by omega), lt_cI_s, m198_rt (d + 28) sy h (by omega) (by omega), lt_cI_s]
        by_cases c2 : w_rt S.w i (w_sp S.w i) = a
        · rw [c2, if_pos rfl] at hcls
          obtain ⟨sp, hsp⟩ : ∃ sp, sp = w_sp S.w i := ⟨_, rfl⟩
          obtain ⟨st, hst⟩ : ∃ st, st = if sp + 1 = w_lg S.w i then 1 else w_st S.w i := ⟨_, rfl⟩
          obtain ⟨W1, hW1⟩ : ∃ W1, W1 = wset (wset S.w (34 + 26 * i + sp) (S.w 0)) (22 + 26 * i) (sp + 1) := ⟨_, rfl⟩
          have hop : w_open S.w i = true := by
            unfold w_goes at c1
            unfold w_open
            simp only [decide_eq_true_eq] at c1 ⊢
            omega
          obtain ⟨M1, e1, C1, r1, f1⟩ := k81 hC
          have hcl1 : cl S.N S.w (0 + 13) M1 := C1.2.2.1.1
          have hmv : mvR S.N S.w i (0 + 13 + 3 + 5 + 3 * i) M1 := hcl1.2.2.2.2.1 i hi
          have hbr1 : M1.1 (0 + 13 + 3 + 5 + 3 * i) 11 = 0 ∨ M1.1 (0 + 13 + 3 + 5 + 3 * i) 11 = 1 := by
            rw [hmv.2.2.2.2.2.2.2.2.2.2.1]
            have : w_br S.w i = 0 ∨ w_br S.w i = 1 := by omega
            rcases this with q | q
            · rw [q]; exact Or.inl rfl
            · rw [q]; exact Or.inr rfl
          obtain ⟨MA, hMA⟩ : ∃ MA, MA = lm_i (lm_i M1 (0 + 13 + 3 + 5 + 3 * i + 2) sp (nI (S.w 0))) (0 + 13 + 3 + 5 + 3 * i) 9 (nI (sp + 1)) := ⟨_, rfl⟩
          have gA : mvR S.N W1 i (0 + 13 + 3 + 5 + 3 * i) MA := by rw [hW1, hMA, hsp]; exact mvR_at s4 (by omega) hmv
          obtain ⟨M2, hM2⟩ : ∃ M2, M2 = if sp + 1 = w_lg S.w i then lm_i MA (0 + 13 + 3 + 5 + 3 * i) 7 1 else MA := ⟨_, rfl⟩
          have w1st : w_st W1 i = w_st S.w i := by rw [hW1]; exact (wset_ne (by omega)).trans (wset_ne (by omega))
          have g4 : mvR S.N (wset W1 (19 + 26 * i) st) i (0 + 13 + 3 + 5 + 3 * i) M2 := by
            rw [hM2, hst]
            by_cases c : sp + 1 = w_lg S.w i
            · rw [if_pos c, if_pos c]; exact mvR_st gA
            · rw [if_neg c, if_neg c, wset_id (w := W1) (k := 19 + 26 * i) w1st]; exact gA
          have g1 : ∀ b, b ≠ 0 + 13 + 3 + 5 + 3 * i → b ≠ 0 + 13 + 3 + 5 + 3 * i + 2 → M2.1 b = M1.1 b := fun b hb hb2 => by
            rw [hM2]; split
            · rw [lm_i_ne hb, hMA, lm_i_ne hb, lm_i_ne hb2]
            · rw [hMA, lm_i_ne hb, lm_i_ne hb2]
          have g2 : ∀ z, z ≠ 7 → z ≠ 9 → M2.1 (0 + 13 + 3 + 5 + 3 * i) z = M1.1 (0 + 13 + 3 + 5 + 3 * i) z := fun z z1 z2 => by
            rw [hM2]; split
            · rw [lm_i_ns (by omega), hMA, lm_i_ns (by omega), lm_i_ne (by omega)]
            · rw [hMA, lm_i_ns (by omega), lm_i_ne (by omega)]
          have g3 : M2.2 = M1.2 := by rw [hM2, hMA]; split <;> rfl
          have g9 : M2.1 (0 + 13 + 3 + 5 + 3 * i) 9 = nI (sp + 1) := by
            rw [hM2]; split
            · rw [lm_i_ns (by omega), hMA]; exact lm_i_eq
            · rw [hMA]; exact lm_i_eq
          have hwf' : wfM S.N (wset W1 (19 + 26 * i) st) i := by rw [hW1, hst, hsp]; exact wfM_at s4 hsl c1 hwm
          have hofs : ∀ k, k ≠ 19 + 26 * i → k ≠ 22 + 26 * i → k ≠ 34 + 26 * i + sp → wset W1 (19 + 26 * i) st k = S.w k := fun k k1 k2 k3 => by rw [wset_ne k1, hW1, wset_ne k2, wset_ne k3]
          obtain ⟨M3, e3, C3, r3, f3, f3'⟩ := CS_chg (S := S.rem) (w' := wset W1 (19 + 26 * i) st) (M2 := M2) C1 hT hi (fun k hk => hofs k (by omega) (by omega) (by omega)) ⟨hofs _ (by omega) (by omega) (by omega), hofs _ (by omega) (by omega) (by omega), fun _ => hop⟩ hwf' g1 (g2 0 (by decide) (by decide)) (by rw [g2 11 (by decide) (by decide)]; exact hbr1) g3 g4 1
          have hMs : MS S (lm_i M3 711 15 0) := MS_t0 (MS_fr (m := m) (fun b k hb _ => by rw [f3 b (by omega), f1 b (by omega)]) hM)
          obtain ⟨M4, e4, C4, r4, f4⟩ := m211 hMs hC.2.2.2.1.1
          have hrow := row_set (m := lm_i M4 712 (34 + 26 * i + sp) (nI (S.w 0))) (k := 22 + 26 * i) (v := sp + 1) (row_set (m := M4) (k := 34 + 26 * i + sp) (v := S.w 0) C4.2.2.1)
          rw [show wset (wset S.rem.w (34 + 26 * i + sp) (S.w 0)) (22 + 26 * i) (sp + 1) = W1 from hW1.symm] at hrow
          obtain ⟨M5, e5, w5, r5, f5⟩ := m229 hrow (by rw [hW1, wset_ne (by omega), wset_ne (by omega)]; exact hw.2.2.2.1) 1 i (S.w 0)
          obtain ⟨M6, hM6⟩ : ∃ M6, M6 = if sp + 1 = w_lg S.w i then lm_i M5 712 (19 + 26 * i) (nI 1) else M5 := ⟨_, rfl⟩
          have f6 : ∀ b, b ≠ 712 → M6.1 b = M4.1 b := fun b hb => by
            rw [hM6]; split
            · rw [lm_i_ne hb, f5 b hb, lm_i_ne hb, lm_i_ne hb]
            · rw [f5 b hb, lm_i_ne hb, lm_i_ne hb]
          have r6 : M6.2 = M4.2 := by
            rw [hM6]; split
            · exact r5
            · exact r5
          have w6 : ∀ k, k < 626 → M6.1 712 k = nI (wnote (wset W1 (19 + 26 * i) st) 1 i (S.w 0) k) := by
            rw [hM6, hst]
            by_cases c : sp + 1 = w_lg S.w i
            · rw [if_pos c, if_pos c, ← wnote_set (by omega) (by omega)]; exact row_set w5
            · rw [if_neg c, if_neg c, wset_id (w := W1) (k := 19 + 26 * i) w1st]; exact w5
          have C6 : MS (S.rem.setw (wnote (wset W1 (19 + 26 * i) st) 1 i (S.w 0))) M6 := MS_up (fun b k hb hne _ => by rw [f6 b hne]) w6 C4
          have f46 : ∀ b, b ≠ 711 → b ≠ 712 → b ≠ 714 → M6.1 b = M3.1 b := fun b h1 h2 h3 => by
            rw [f6 b h2]; exact funext fun k => by rw [f4 b k (by omega), lm_i_ne h1]
          refine OP_w (m1 := M3) (m2 := M6) (vs := vs) (.inl (nI (w_lg S.w i - (sp + 1)))) (hcls.trans ?_) C3 ⟨by rw [f3 4 (by omega), f1 4 (by omega)], by rw [f3 5 (by omega), f1 5 (by omega)], by rw [f3 711 (by omega), f1 711 (by omega)], by rw [r3, r1]⟩ ((hmod3 M3 (MS_ml hMs)).trans ?_) C6 (fun b hb => f46 b (by omega) (by omega) (by omega)) (by rw [f6 711 (by decide), f4 711 14 (by omega), lm_i_ns (by omega)]) (by rw [r6]; exact r4) hl hc hm
          · have e81 : lt_ev (d + 29) 81 [.inr (.inr (some (0 + 81))), .inr (.inr (some (0 + 13)))] m = some (none, M1) := e1 (d + 25)
            have e116 : lt_ev (d + 29) 116 [.inr (.inr (some (0 + 13 + 3 + 5 + 3 * i))), .inl (nI (S.w 0))] M1 = some (none, M2) := by
              refine (E116 (d + 28) _ _ hq M1).trans ?_
              have e9 : M1.1 (0 + 13 + 3 + 5 + 3 * i) 9 = nI sp := by rw [hsp]; exact hmv.2.2.2.2.2.2.2.2.1
              have e8 : M1.1 (0 + 13 + 3 + 5 + 3 * i) 8 = nI (w_lg S.w i) := hmv.2.2.2.2.2.2.2.1
              rw [e9, k17 (d + 27) (a := 0 + 13 + 3 + 5 + 3 * i + 2) (sf_of hq 13 (by decide) (by decide)) (show sp < 8 by omega) (by decide), lt_cV_s]
              have x9' : (lm_i M1 (0 + 13 + 3 + 5 + 3 * i + 2) sp (nI (S.w 0))).1 (0 + 13 + 3 + 5 + 3 * i) 9 = nI sp := by rw [lm_i_ne (by omega)]; exact e9
              rw [x9', nI_1, ← hMA, show MA.1 (0 + 13 + 3 + 5 + 3 * i) 9 = nI (sp + 1) by rw [hMA]; exact lm_i_eq, show MA.1 (0 + 13 + 3 + 5 + 3 * i) 8 = nI (w_lg S.w i) by rw [hMA, lm_i_ns (by omega), lm_i_ne (by omega)]; exact e8, hM2]
              by_cases c : sp + 1 = w_lg S.w i
              · rw [if_neg (by rw [sp_ltn (by omega) (by omega)]; omega), if_pos c]
              · rw [if_pos (by rw [sp_ltn (by omega) (by omega)]; omega), if_neg c]
            have e13 : M1.1 (0 + 13) 4 = nI (S.w 0) := hcl1.1
            have x8 : M3.1 (0 + 13 + 3 + 5 + 3 * i) 8 = nI (w_lg S.w i) := by rw [f3' _ (by omega), g2 8 (by decide) (by decide)]; exact hmv.2.2.2.2.2.2.2.1
            have x9 : M3.1 (0 + 13 + 3 + 5 + 3 * i) 9 = nI (sp + 1) := by rw [f3' _ (by omega)]; exact g9
            rw [e81, lt_cV_s, e13, e116, lt_cV_s, show (1 : Int32) = nI 1 from rfl, e3 (d + 26), lt_cV_s, x8, x9, pk_sub (by omega)]
          · have h00 : M4.1 (711 + 1) (0 : Int32).toNatClampNeg = nI (S.w 0) := by
              rw [show (0 : Int32).toNatClampNeg = 0 by decide]; exact C4.2.2.1 0 (by omega)
            have h00' : (lm_i (lm_i M4 712 (34 + 26 * i + sp) (nI (S.w 0))) 712 (22 + 26 * i) (nI (sp + 1))).1 (711 + 1) (0 : Int32).toNatClampNeg = nI (S.w 0) := by
              rw [lm_i_ns (by rw [show (0 : Int32).toNatClampNeg = 0 by decide]; omega), lm_i_ns (by rw [show (0 : Int32).toNatClampNeg = 0 by decide]; omega)]; exact h00
            have hlg5 : lt_ev (d + 29) 198 [.inr (.inr (some 711)), .inl (nI i), .inl (9 : Int32)] M5 = some (some (.inl (nI (w_lg S.w i))), M5) := by
              refine (E198 (d + 28) 711 _ _ sy M5).trans ?_
              rw [show (16 : Int32) = nI 16 from rfl, show (26 : Int32) = nI 26 from rfl, q_9, pk_mul, nI_add, nI_add, lt_gd_t (sp_gd (by omega) (by omega)), nI_clamp (by omega), show M5.1 (711 + 1) (16 + 26 * i + 9) = _ from w5 (16 + 26 * i + 9) (by omega), wnote_lo (by omega) (by omega), hW1, wset_ne (by omega), wset_ne (by omega), show 16 + 26 * i + 9 = 25 + 26 * i by omega]
            rw [c2, if_pos rfl, e4 (d + 28), lt_cV_s, lt_gd_t (by decide), h00, ← hsp, show (18 : Int32) = nI 18 from rfl, nI_add, m228 (d + 28) (by omega) (by omega), lt_cV_s, show 16 + 26 * i + (18 + sp) = 34 + 26 * i + sp by omega, nI_1, q_6, m228 (d + 28) (by omega) (by omega), lt_cV_s, show 16 + 26 * i + 6 = 22 + 26 * i by omega, lt_gd_t (by decide), h00']
            rw [show (1 : Int32) = nI 1 from rfl, e5 (d + 28), lt_cV_s, hlg5, lt_cI_s, pk_sub (by omega), pk_sub (by omega), show w_lg S.w i - sp - 1 = w_lg S.w i - (sp + 1) by omega, hM6]
            by_cases c : sp + 1 = w_lg S.w i
            · rw [if_neg (by rw [c, Nat.sub_self]; decide), if_pos c, q_3, m228 (d + 28) (by omega) (by omega), lt_cV_s, show 16 + 26 * i + 3 = 19 + 26 * i by omega]
            · rw [if_pos (by rw [sp_eq0 (by omega)]; omega), if_neg c]
        · refine OP_m (Nat.le_succ T) (.inl (-3)) hr0 (hcls.trans ?_) ((hmod3 m hs.t0.ml).trans ?_)
          · rw [if_neg (by rw [sp_eqn (by omega) (by omega)]; exact c2)]
          · rw [if_neg (by rw [sp_eqn (by omega) (by omega)]; exact c2)]
      · refine OP_m (Nat.le_succ T) (.inl (-2)) hr0 (hcls.trans ?_) ((hmod2 m hs.t0.ml).trans ?_)
        · rw [show (if i < S.w 2 ∧ w_goes S.w i = true then (1 : Int32) else 0) = 0 from if_neg (fun q => c1 q.2), if_neg (by decide)]
        · rw [show (if w_goes S.w i = true then (1 : Int32) else 0) = 0 from if_neg c1, if_neg (by decide)]
    · refine OP_m (Nat.le_succ T) (.inl (-1)) hr0 (hcls.trans ?_) ((hmod m hs.t0.ml).trans ?_)
      · rw [e', if_neg (by decide)]
      · rw [sp_i0 (by omega) hy, if_neg (by decide)]
  · refine OP_m (Nat.le_succ T) (.inl (-1)) hr0 ?_ ?_
    · refine (E113 (d + 29) 0 _ _ sx m).trans ?_
      rw [p114 (d + 27) _ _ sL m, lt_cR_s, e, lt_nl_n]
    · refine (E230 (d + 29) 711 _ _ sy m).trans ?_
      rw [m231 (d + 27) sy hs.t0.ml hw, lt_cI_s, sp_i0 (by omega) hx, if_pos (by decide)]
end ST

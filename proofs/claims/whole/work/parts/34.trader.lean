/-! ===== sums, trader ===== -/
section CH
variable {N : NT} {w w' : Nat → Nat} {L T : Nat} {m m' : lt_m}
theorem wfM_cg2 {j : Nat} (h0 : w' 0 = w 0) (h1 : w 1 ≤ w' 1) (hf : ∀ k, 16 + 26 * j ≤ k → k < 42 + 26 * j → w' k = w k) (h : wfM N w j) : wfM N w' j := by
  have e0 : w_of w' j = w_of w j := hf _ (by omega) (by omega)
  have e1 : w_kd w' j = w_kd w j := hf _ (by omega) (by omega)
  have e2 : w_un w' j = w_un w j := hf _ (by omega) (by omega)
  have e3 : w_st w' j = w_st w j := hf _ (by omega) (by omega)
  have e4 : w_sh w' j = w_sh w j := hf _ (by omega) (by omega)
  have e5 : w_tm w' j = w_tm w j := hf _ (by omega) (by omega)
  have e6 : w_sp w' j = w_sp w j := hf _ (by omega) (by omega)
  have e7 : w_br w' j = w_br w j := hf _ (by omega) (by omega)
  have e8 : w_db w' j = w_db w j := hf _ (by omega) (by omega)
  have e9 : w_lg w' j = w_lg w j := hf _ (by omega) (by omega)
  have er : ∀ k, k < 8 → w_rt w' j k = w_rt w j k := fun k hk => hf _ (by omega) (by omega)
  have ea : ∀ k, k < 8 → w_at w' j k = w_at w j k := fun k hk => hf _ (by omega) (by omega)
  have eg : w_goes w' j = w_goes w j := by unfold w_goes; rw [e3]
  unfold wfM at h ⊢
  rw [e0, e1, e2, e3, e4, e5, e6, e7, e8, e9, eg, h0]
  obtain ⟨a0, a1, a2, a3, a4, a5, a6, a7, a8, a9, a10, a11, a12, a13, a14, a15, a16, a17, a18⟩ := h
  exact ⟨by omega, a1, a2, a3, a4, a5, a6, a7, a8, a9, a10, a11, a12, fun k hk => by rw [er k (by omega)]; exact a13 k hk, fun k hk => by rw [er k (by omega), er (k + 1) (by omega)]; exact a14 k hk, fun k hk => by rw [ea k (by omega)]; exact a15 k hk, a16, a17, a18⟩
end CH
section TR
variable {dist wl : DT} {T : Nat} {S : ST} {N : NT} {w w' : Nat → Nat} {m m' M M2 : lt_m} {vs : List Int32}
theorem used_eq {t : Nat} (hf : ∀ k, k = 2 ∨ 16 ≤ k → w' k = w k) : w_used w' t = w_used w t := by
  unfold w_used
  rw [hf 2 (by omega)]
  refine sumN_congr fun j hj => ?_
  have e0 : w_of w' j = w_of w j := hf _ (by omega)
  have e3 : w_st w' j = w_st w j := hf _ (by omega)
  have e4 : w_sh w' j = w_sh w j := hf _ (by omega)
  have e5 : w_open w' j = w_open w j := by unfold w_open; rw [e3]
  rw [e0, e4, e5]
theorem CS_tr (hC : CS dist wl T S M) {n' : Nat} (h6 : n' ≤ 6) (hge : S.w 1 ≤ n') (h1 : w' 1 = n') (hf : ∀ k, k ≠ 1 → (k < 4 ∨ 16 ≤ k) → w' k = S.w k) (hm : ∀ b, b ≠ 13 → b ≠ 14 → b ≠ 15 → M2.1 b = M.1 b) (h4 : M2.1 13 4 = M.1 13 4) (h5 : M2.1 13 5 = nI n') (h7 : M2.1 13 6 = M.1 13 6) (hs : ∀ t, t < n' → M2.1 14 t = nI (w' (4 + 2 * t)) ∧ M2.1 15 t = nI (w' (5 + 2 * t))) (hr : M2.2 = M.2) (hwf : ∀ t, t < n' → w' (4 + 2 * t) ≤ 999999 ∧ w' (5 + 2 * t) ≤ 3 ∧ w_used S.w t ≤ w' (4 + 2 * t)) : CS dist wl T (S.setw w') M2 := by
  have hC' := hC
  obtain ⟨-, -, ⟨⟨c1, c2, c3, c4, c5, c6, c7⟩, hbk, hwl⟩, -, hnm, -, -⟩ := hC'
  have hwl0 := hwl
  obtain ⟨a0, a1, a2, a3, a4, a5⟩ := hwl
  have g0 := hf 0 (by omega) (by omega)
  have g2 := hf 2 (by omega) (by omega)
  have g3 := hf 3 (by omega) (by omega)
  have hwl' : wfL S.N w' := by
    refine ⟨by rw [g0]; exact a0, by rw [h1]; exact h6, by rw [g2]; exact a2, by rw [g3]; exact a3, fun t ht => ?_, fun j hj => ?_⟩
    · rw [h1] at ht
      rw [used_eq (w := S.w) (fun k hk => hf k (by omega) (by omega))]
      exact hwf t ht
    · rw [g2] at hj
      exact wfM_cg2 g0 (by rw [h1]; exact hge) (fun k k1 k2 => hf k (by omega) (by omega)) (a5 j hj)
  have hcl' : cl S.N w' 13 M2 := by
    refine ⟨by rw [h4, g0]; exact c1, by rw [h5, h1], by rw [h7, g2]; exact c3, fun t ht => ?_, fun j hj => ?_, fun j q1 q2 => ?_, fun j hj => ?_⟩
    · rw [h1] at ht
      exact hs t ht
    · rw [g2] at hj
      have hl := wf_sp hwl0 hj
      exact mvR_cg (fun k k1 k2 => hf k (by omega) (by omega)) (by omega) (by omega) (mvR_fr (hm _ (by omega) (by omega) (by omega)) (hm _ (by omega) (by omega) (by omega)) (hm _ (by omega) (by omega) (by omega)) (c5 j hj))
    · rw [g2] at q1
      rw [hm _ (by omega) (by omega) (by omega)]; exact c6 j q1 q2
    · rw [hm _ (by omega) (by omega) (by omega)]; exact c7 j hj
  exact CS_led (Nat.le_refl T) (fun b _ hb => hm b (by omega) (by omega) (by omega)) (by rw [hr]; exact ⟨rfl, rfl⟩) ⟨hcl', bkR_cg g3 (fun k hk => hf k (by omega) (by omega)) (fun b b1 b2 => hm b (by omega) (by omega) (by omega)) hbk, hwl'⟩ (by
    intro j hj
    rw [hm _ (by omega) (by omega) (by omega)]
    exact hnm j hj) hC
theorem k80 (d : Nat) (x : Int32) (m : lt_m) : (∃ s, s ≤ 3 ∧ x = nI s ∧ lt_ev (d + 1) 80 [.inl x] m = some (some (.inl 1), m)) ∨ ((x < 0 ∨ nI 4 ≤ x) ∧ lt_ev (d + 1) 80 [.inl x] m = some (some (.inl 0), m)) := by
  rcases pk_ix x (n := 4) (by decide) with c | c | ⟨s, hs, rfl⟩
  · exact Or.inr ⟨Or.inl c, (E80 d _ m).trans (if_pos c)⟩
  · refine Or.inr ⟨Or.inr c, (E80 d _ m).trans ?_⟩
    have h1 : (nI 4).toInt = 4 := by decide
    have h2 : (3 : Int32).toInt = 3 := by decide
    rw [Int32.le_iff_toInt_le, h1] at c
    rw [if_neg (by rw [Int32.lt_iff_toInt_lt, Int32.toInt_zero]; omega), if_pos (by rw [Int32.lt_iff_toInt_lt, h2]; omega)]
  · refine Or.inl ⟨s, by omega, rfl, (E80 d _ m).trans ?_⟩
    rw [if_neg (nI_pos (by omega)), if_neg (by rw [show (3 : Int32) = nI 3 from rfl, sp_ltn (by omega) (by omega)]; omega)]
theorem m210_t (d : Nat) {s l : Nat} (hs : s ≤ 999999) (hl : l ≤ 3) (m : lt_m) : lt_ev (d + 2) 210 [.inl (nI s), .inl (nI l)] m = some (some (.inl 1), m) := by
  refine (E210 (d + 1) _ _ m).trans ?_
  rw [m181_t d (n := 999999) hs (by decide) (by decide), lt_cI_s, if_neg (by decide), m181_t d (n := 3) hl (by decide) (by decide), lt_cI_s, if_neg (by decide)]
theorem m210_f (d : Nat) {x y : Int32} (h : (x < 0 ∨ nI 1000000 ≤ x) ∨ ((∃ s, s ≤ 999999 ∧ x = nI s) ∧ (y < 0 ∨ nI 4 ≤ y))) (m : lt_m) : lt_ev (d + 2) 210 [.inl x, .inl y] m = some (some (.inl 0), m) := by
  refine (E210 (d + 1) _ _ m).trans ?_
  rcases h with h | ⟨⟨s, hs, rfl⟩, h⟩
  · rw [m181_f d (n := 999999) (by decide) h (by decide), lt_cI_s, if_pos rfl]
  · rw [m181_t d (n := 999999) hs (by decide) (by decide), lt_cI_s, if_neg (by decide), m181_f d (n := 3) (by decide) h (by decide), lt_cI_s, if_pos rfl]
theorem k88 (d : Nat) {t : Nat} (ht : t < 6) (s l : Int32) : lt_ev (d + 2) 88 [.inr (.inr (some (0 + 13))), .inl (nI t), .inl s, .inl l] m = some (none, lm_i (lm_i m 14 t s) 15 t l) := by
  refine (E88 (d + 1) (0 + 13) _ _ _ sL m).trans ?_
  rw [k17 d (a := 0 + 13 + 1) (sf_of sL 0 (by decide) (by decide)) ht (by decide), lt_cV_s, k17 d (a := 0 + 13 + 2) (sf_of sL 1 (by decide) (by decide)) ht (by decide), lt_cV_s]
/-- sums -/
theorem op_sums (d : Nat) (hr : RR dist wl T m) (x y z : Int32) : OP dist wl d T T 89 212 [.inl x, .inl y, .inl z] m := by
  have hr0 := hr
  obtain ⟨N, w, vs, hs, hl, hc, hm⟩ := hr
  obtain ⟨S, rfl, rfl, hC, hM⟩ := RS_split hs
  have hw := hs.wfL
  have h6 := hw.2.1
  have hcl := hs.cl
  have hcls : lt_ev (d + 30) 89 [.inr (.inr (some 0)), .inl x, .inl y, .inl z] m = _ := E89 (d + 29) 0 _ _ _ sx m
  rw [p90 (d + 28) _ _ sL m, lt_cI_s] at hcls
  have hmod : ∀ M : lt_m, ml S.N S.w 711 (lm_i M 711 15 0) → lt_ev (d + 30) 212 [.inr (.inr (some 711)), .inl x, .inl y, .inl z] M = _ := fun M h => by
    refine (E212 (d + 29) 711 _ _ _ sy M).trans ?_
    rw [m213 (d + 27) sy h hw, lt_cI_s]
  rcases c90 hcl hw x with ⟨t, ht, rfl, e⟩ | ⟨hx, e⟩
  · rw [e, if_neg (by decide)] at hcls
    rcases k79 (d + 28) y m with ⟨s, hsb, rfl, ey⟩ | ⟨hy, ey⟩
    · rw [ey, lt_cI_s, if_neg (by decide)] at hcls
      rcases k80 (d + 28) z m with ⟨l, hlb, rfl, ez⟩ | ⟨hz, ez⟩
      · have bU : w_used S.w t ≤ 999999 := by have := hw.2.2.2.2.1 t ht; omega
        rw [ez, lt_cI_s, if_pos (by decide), k91 (d + 27) sL hcl hw (by omega), lt_cI_s] at hcls
        by_cases c : w_used S.w t ≤ s
        · rw [if_pos (by rw [sp_len (by omega) (by omega)]; exact c)] at hcls
          obtain ⟨M1, e1, C1, r1, f1⟩ := k81 hC
          have hcl1 : cl S.N S.w (0 + 13) M1 := C1.2.2.1.1
          obtain ⟨w', hw'⟩ : ∃ w', w' = wset (wset S.w (4 + 2 * t) s) (5 + 2 * t) l := ⟨_, rfl⟩
          have q4 : ∀ j, w' (4 + 2 * j) = if j = t then s else S.w (4 + 2 * j) := fun j => by
            rw [hw', wset_ne (by omega)]
            by_cases q : j = t
            · rw [q, wset_eq, if_pos rfl]
            · rw [wset_ne (by omega), if_neg q]
          have q5 : ∀ j, w' (5 + 2 * j) = if j = t then l else S.w (5 + 2 * j) := fun j => by
            rw [hw']
            by_cases q : j = t
            · rw [q, wset_eq, if_pos rfl]
            · rw [wset_ne (by omega), wset_ne (by omega), if_neg q]
          have qo : ∀ k, (k < 4 ∨ 16 ≤ k) → w' k = S.w k := fun k hk => by rw [hw', wset_ne (by omega), wset_ne (by omega)]
          have C3 : CS dist wl T (S.rem.setw w') (lm_i (lm_i M1 14 t (nI s)) 15 t (nI l)) := by
            refine CS_tr (n' := S.w 1) C1 h6 (Nat.le_refl _) (qo 1 (by omega)) (fun k _ hk => qo k hk) (fun b b1 b2 b3 => by rw [lm_i_ne b3, lm_i_ne b2]) (by rw [lm_i_ne (by decide), lm_i_ne (by decide)]) (by rw [lm_i_ne (by decide), lm_i_ne (by decide)]; exact hcl1.2.1) (by rw [lm_i_ne (by decide), lm_i_ne (by decide)]) (fun j hj => ?_) rfl (fun j hj => ?_)
            · rw [q4, q5, lm_i_ne (by decide)]
              have := hcl1.2.2.2.1 j hj
              by_cases q : j = t
              · subst q
                rw [lm_i_eq, lm_i_eq, if_pos rfl, if_pos rfl]; exact ⟨rfl, rfl⟩
              · rw [lm_i_ns (by omega), lm_i_ns (by omega), lm_i_ne (by decide), if_neg q, if_neg q]; exact this
            · have := hw.2.2.2.2.1 j hj
              rw [q4, q5]
              by_cases q : j = t
              · subst q
                rw [if_pos rfl, if_pos rfl]; exact ⟨hsb, hlb, c⟩
              · rw [if_neg q, if_neg q]; exact this
          obtain ⟨M3, hM3⟩ : ∃ M3, M3 = lm_i (lm_i M1 14 t (nI s)) 15 t (nI l) := ⟨_, rfl⟩
          rw [← hM3] at C3
          have f3 : ∀ b, b < 13 ∨ 81 ≤ b → M3.1 b = M1.1 b := fun b hb => by rw [hM3, lm_i_ne (by omega), lm_i_ne (by omega)]
          have hMs : MS S (lm_i M3 711 15 0) := MS_t0 (MS_fr (m := m) (fun b k hb _ => by rw [f3 b (by omega), f1 b (by omega)]) hM)
          obtain ⟨M4, e4, C4, r4, f4⟩ := m211 hMs hC.2.2.2.1.1
          obtain ⟨M5, hM5⟩ : ∃ M5, M5 = lm_i (lm_i M4 712 (4 + 2 * t) (nI s)) 712 (5 + 2 * t) (nI l) := ⟨_, rfl⟩
          have C5 : MS (S.rem.setw w') M5 := by
            refine MS_up (m := M4) (fun b k hb hne _ => by rw [hM5, lm_i_ne hne, lm_i_ne hne]) ?_ C4
            rw [hM5, hw']
            exact row_set (row_set C4.2.2.1)
          have hml5 : ml S.N w' 711 M5 := MS_ml C5
          have hwl5 : wfL S.N w' := C3.2.2.1.2.2
          have e214 := m214 (d + 25) sy hml5 hwl5 (t := t) (by omega)
          rw [used_eq (w := S.w) (fun k hk => qo k (by omega))] at e214
          refine OP_w (m1 := M3) (m2 := M5) (vs := vs) (.inl (nI (w_used S.w t))) (hcls.trans ?_) C3 ⟨by rw [f3 4 (by omega), f1 4 (by omega)], by rw [f3 5 (by omega), f1 5 (by omega)], by rw [f3 711 (by omega), f1 711 (by omega)], by rw [hM3]; show M1.2.1 = _; rw [r1]⟩ ((hmod M3 (MS_ml hMs)).trans ?_) C5 (fun b hb => by rw [hM5, lm_i_ne (by omega), lm_i_ne (by omega)]; exact funext fun k => by rw [f4 b k (by omega), lm_i_ne (by omega)]) (by rw [hM5, lm_i_ne (by decide), lm_i_ne (by decide), f4 711 14 (by omega), lm_i_ns (by omega)]) (by rw [hM5]; exact r4) hl hc hm
          · have e81 : lt_ev (d + 29) 81 [.inr (.inr (some (0 + 81))), .inr (.inr (some (0 + 13)))] m = some (none, M1) := e1 (d + 25)
            rw [e81, lt_cV_s, k88 (d + 27) (by omega), lt_cV_s, ← hM3]
          · have ix : (4 : Int32) + (2 : Int32) * nI t = nI (4 + 2 * t) := by rw [q_4, q_2, pk_mul, nI_add]
            have ix2 : nI (4 + 2 * t) + (1 : Int32) = nI (5 + 2 * t) := by rw [nI_1, show 4 + 2 * t + 1 = 5 + 2 * t by omega]
            rw [sp_i1 ht (by omega), if_neg (by decide), m210_t (d + 27) hsb hlb, lt_cI_s, if_pos (by decide), m214 (d + 25) sy (MS_ml hMs) hw (by omega), lt_cI_s, if_pos (by rw [sp_len (by omega) (by omega)]; exact c), e4 (d + 28), lt_cV_s, ix, ix2, lt_gd_t (sp_gd (by omega) (by omega)), lt_gd_t (sp_gd (by omega) (by omega)), nI_clamp (by omega), nI_clamp (by omega)]
            rw [show lm_i (lm_i M4 (711 + 1) (4 + 2 * t) (nI s)) (711 + 1) (5 + 2 * t) (nI l) = M5 from hM5.symm, e214, lt_cI_s]
        · refine OP_q (.inl (-2)) hr0 (hcls.trans ?_) ((hmod m hs.t0.ml).trans ?_)
          · rw [if_neg (by rw [sp_len (by omega) (by omega)]; exact c)]
          · rw [sp_i1 ht (by omega), if_neg (by decide), m210_t (d + 27) hsb hlb, lt_cI_s, if_pos (by decide), m214 (d + 25) sy hs.t0.ml hw (by omega), lt_cI_s, if_neg (by rw [sp_len (by omega) (by omega)]; exact c)]
      · refine OP_q (.inl (-1)) hr0 (hcls.trans ?_) ((hmod m hs.t0.ml).trans ?_)
        · rw [ez, lt_cI_s, if_neg (by decide)]
        · rw [sp_i1 ht (by omega), if_neg (by decide), m210_f (d + 27) (Or.inr ⟨⟨s, hsb, rfl⟩, hz⟩), lt_cI_s, if_neg (by decide)]
    · refine OP_q (.inl (-1)) hr0 (hcls.trans ?_) ((hmod m hs.t0.ml).trans ?_)
      · rw [ey, lt_cI_s, if_pos rfl]
      · rw [sp_i1 ht (by omega), if_neg (by decide), m210_f (d + 27) (Or.inl hy), lt_cI_s, if_neg (by decide)]
  · refine OP_q (.inl (-1)) hr0 (hcls.trans ?_) ((hmod m hs.t0.ml).trans ?_)
    · rw [e, if_pos rfl]
    · rw [sp_i0 (by omega) hx, if_pos rfl]
end TR

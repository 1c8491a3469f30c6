/-! ===== trader ===== -/
theorem sp_gd' {n i : Nat} (h : i < n) (hn : i < 2 ^ 31) : 0 ≤ nI i ∧ i < n := ⟨nI_pos' hn, h⟩
section TR
variable {dist wl : DT} {T : Nat} {S : ST} {N : NT} {w w' : Nat → Nat} {m m' M M2 : lt_m} {vs : List Int32}
theorem op_trader (d : Nat) (hr : RR dist wl T m) (y z : Int32) : OP dist wl d T T 78 209 [.inl y, .inl z] m := by
  have hr0 := hr
  obtain ⟨N, w, vs, hs, hl, hc, hm⟩ := hr
  obtain ⟨S, rfl, rfl, hC, hM⟩ := RS_split hs
  have hw := hs.wfL
  have h6 := hw.2.1
  have h20 := hw.2.2.1
  have hcl := hs.cl
  have g1 : (0 : Int32) ≤ 1 ∧ (1 : Int32).toNatClampNeg < 626 := by decide
  have hcls : lt_ev (d + 30) 78 [.inr (.inr (some 0)), .inl y, .inl z] m = _ := E78 (d + 29) 0 _ _ sx m
  have hmod : ∀ M : lt_m, lt_ev (d + 30) 209 [.inr (.inr (some 711)), .inl y, .inl z] M = _ := fun M => E209 (d + 29) 711 _ _ sy M
  rcases k79 (d + 28) y m with ⟨s, hsb, rfl, ey⟩ | ⟨hy, ey⟩
  · rw [ey, lt_cI_s, if_neg (by decide)] at hcls
    rcases k80 (d + 28) z m with ⟨l, hlb, rfl, ez⟩ | ⟨hz, ez⟩
    · rw [ez, lt_cI_s, if_pos (by decide), hcl.2.1] at hcls
      have hrow1 : ∀ M : lt_m, ml S.N S.w 711 M → M.1 (711 + 1) (1 : Int32).toNatClampNeg = nI (S.w 1) := fun M h => by
        rw [show (1 : Int32).toNatClampNeg = 1 by decide]; exact h.1 1 (by omega)
      by_cases c : S.w 1 < 6
      · rw [if_pos (by rw [q_6, sp_ltn (by omega) (by omega)]; exact c)] at hcls
        obtain ⟨M1, e1, C1, r1, f1⟩ := k81 hC
        have hcl1 : cl S.N S.w (0 + 13) M1 := C1.2.2.1.1
        obtain ⟨n, hn⟩ : ∃ n, n = S.w 1 := ⟨_, rfl⟩
        obtain ⟨w', hw'⟩ : ∃ w', w' = wset (wset (wset S.w (4 + 2 * n) s) (5 + 2 * n) l) 1 (n + 1) := ⟨_, rfl⟩
        have q4 : ∀ j, w' (4 + 2 * j) = if j = n then s else S.w (4 + 2 * j) := fun j => by
          rw [hw', wset_ne (by omega), wset_ne (by omega)]
          by_cases q : j = n
          · rw [q, wset_eq, if_pos rfl]
          · rw [wset_ne (by omega), if_neg q]
        have q5 : ∀ j, w' (5 + 2 * j) = if j = n then l else S.w (5 + 2 * j) := fun j => by
          rw [hw', wset_ne (by omega)]
          by_cases q : j = n
          · rw [q, wset_eq, if_pos rfl]
          · rw [wset_ne (by omega), wset_ne (by omega), if_neg q]
        have qo : ∀ k, k ≠ 1 → (k < 4 ∨ 16 ≤ k) → w' k = S.w k := fun k k1 hk => by rw [hw', wset_ne k1, wset_ne (by omega), wset_ne (by omega)]
        obtain ⟨M3, hM3⟩ : ∃ M3, M3 = lm_i (lm_i (lm_i M1 14 n (nI s)) 15 n (nI l)) 13 5 (nI (n + 1)) := ⟨_, rfl⟩
        have C3 : CS dist wl T (S.rem.setw w') M3 := by
          refine CS_tr (n' := n + 1) C1 (by omega) (by show S.w 1 ≤ n + 1; omega) (by rw [hw', wset_eq]) qo (fun b b1 b2 b3 => by rw [hM3, lm_i_ne b1, lm_i_ne b3, lm_i_ne b2]) (by rw [hM3, lm_i_ns (by omega), lm_i_ne (by decide), lm_i_ne (by decide)]) (by rw [hM3]; exact lm_i_eq) (by rw [hM3, lm_i_ns (by omega), lm_i_ne (by decide), lm_i_ne (by decide)]) (fun j hj => ?_) (by rw [hM3]; rfl) (fun j hj => ?_)
          · have x14 : M3.1 14 = (lm_i M1 14 n (nI s)).1 14 := by rw [hM3, lm_i_ne (show 14 ≠ 13 by decide), lm_i_ne (show 14 ≠ 15 by decide)]
            have x15 : M3.1 15 = (lm_i (lm_i M1 14 n (nI s)) 15 n (nI l)).1 15 := by rw [hM3, lm_i_ne (show 15 ≠ 13 by decide)]
            rw [q4, q5, x14, x15]
            by_cases q : j = n
            · subst q
              rw [lm_i_eq, lm_i_eq, if_pos rfl, if_pos rfl]; exact ⟨rfl, rfl⟩
            · have := hcl1.2.2.2.1 j (show j < S.w 1 by omega)
              rw [lm_i_ns (by omega), lm_i_ns (by omega), lm_i_ne (by decide), if_neg q, if_neg q]; exact this
          · rw [q4, q5]
            by_cases q : j = n
            · subst q
              rw [if_pos rfl, if_pos rfl]
              refine ⟨hsb, hlb, ?_⟩
              have : w_used S.w j = 0 := by
                unfold w_used
                refine sumN_zero fun i hi => if_neg fun q => ?_
                have := (hw.2.2.2.2.2 i hi).1
                omega
              show w_used S.w j ≤ s
              omega
            · rw [if_neg q, if_neg q]; exact hw.2.2.2.2.1 j (by omega)
        have f3 : ∀ b, b < 13 ∨ 81 ≤ b → M3.1 b = M1.1 b := fun b hb => by rw [hM3, lm_i_ne (by omega), lm_i_ne (by omega), lm_i_ne (by omega)]
        have hMs : MS S (lm_i M3 711 15 0) := MS_t0 (MS_fr (m := m) (fun b k hb _ => by rw [f3 b (by omega), f1 b (by omega)]) hM)
        obtain ⟨M4, e4, C4, r4, f4⟩ := m211 hMs hC.2.2.2.1.1
        obtain ⟨M5, hM5⟩ : ∃ M5, M5 = lm_i (lm_i (lm_i M4 712 (4 + 2 * n) (nI s)) 712 (5 + 2 * n) (nI l)) 712 1 (nI (n + 1)) := ⟨_, rfl⟩
        have C5 : MS (S.rem.setw w') M5 := by
          refine MS_up (m := M4) (fun b k hb hne _ => by rw [hM5, lm_i_ne hne, lm_i_ne hne, lm_i_ne hne]) ?_ C4
          rw [hM5, hw']
          exact row_set (row_set (row_set C4.2.2.1))
        refine OP_w (m1 := M3) (m2 := M5) (vs := vs) (.inl (nI n)) (hcls.trans ?_) C3 ⟨by rw [f3 4 (by omega), f1 4 (by omega)], by rw [f3 5 (by omega), f1 5 (by omega)], by rw [f3 711 (by omega), f1 711 (by omega)], by rw [hM3]; show M1.2.1 = _; rw [r1]⟩ ((hmod M3).trans ?_) C5 (fun b hb => by rw [hM5, lm_i_ne (by omega), lm_i_ne (by omega), lm_i_ne (by omega)]; exact funext fun k => by rw [f4 b k (by omega), lm_i_ne (by omega)]) (by rw [hM5, lm_i_ne (by decide), lm_i_ne (by decide), lm_i_ne (by decide), f4 711 14 (by omega), lm_i_ns (by omega)]) (by rw [hM5]; exact r4) hl hc hm
        · have e81 : lt_ev (d + 29) 81 [.inr (.inr (some (0 + 81))), .inr (.inr (some (0 + 13)))] m = some (none, M1) := e1 (d + 25)
          have e5 : (lm_i (lm_i M1 14 n (nI s)) 15 n (nI l)).1 (0 + 13) 5 = nI n := by
            rw [lm_i_ne (by decide), lm_i_ne (by decide), hn]; exact hcl1.2.1
          have e13 : M3.1 (0 + 13) 5 = nI (n + 1) := by rw [hM3]; exact lm_i_eq
          rw [e81, lt_cV_s, E87 (d + 28) (0 + 13) _ _ sL M1, show M1.1 (0 + 13) 5 = nI n by rw [hn]; exact hcl1.2.1, k88 (d + 26) (by omega), lt_cV_s, e5, nI_1, show lm_i (lm_i (lm_i M1 14 n (nI s)) 15 n (nI l)) (0 + 13) 5 (nI (n + 1)) = M3 from hM3.symm, e13, lt_cI_s, q_1, pk_sub (by omega)]
          rfl
        · have ix : (4 : Int32) + (2 : Int32) * nI n = nI (4 + 2 * n) := by rw [q_4, q_2, pk_mul, nI_add]
          have ix2 : nI (4 + 2 * n) + (1 : Int32) = nI (5 + 2 * n) := by rw [nI_1, show 4 + 2 * n + 1 = 5 + 2 * n by omega]
          have c1 : (1 : Int32).toNatClampNeg = 1 := by decide
          have e41 : M4.1 (711 + 1) 1 = nI n := by rw [hn]; exact C4.2.2.1 1 (by omega)
          have eA : (lm_i M4 (711 + 1) (4 + 2 * n) (nI s)).1 (711 + 1) 1 = nI n := by rw [lm_i_ns (by omega)]; exact e41
          have eB : (lm_i (lm_i M4 (711 + 1) (4 + 2 * n) (nI s)) (711 + 1) (5 + 2 * n) (nI l)).1 (711 + 1) 1 = nI n := by rw [lm_i_ns (by omega)]; exact eA
          have e51 : M5.1 (711 + 1) 1 = nI (n + 1) := by rw [hM5]; exact lm_i_eq
          have gg : (0 : Int32) ≤ 1 ∧ 1 < 626 := by decide
          rw [m210_t (d + 27) hsb hlb, lt_cI_s, if_pos (by decide), lt_gd_t g1, hrow1 _ (MS_ml hMs), if_pos (by rw [q_6, sp_eqn (by omega) (by omega)]; omega), e4 (d + 28), lt_cV_s, lt_gd_t g1]
          simp only [c1, e41, ix, nI_clamp (show 4 + 2 * n < 2 ^ 31 by omega), eA, ix2, nI_clamp (show 5 + 2 * n < 2 ^ 31 by omega), eB, nI_1]
          rw [lt_gd_t (sp_gd' (by omega) (by omega)), lt_gd_t gg, lt_gd_t (sp_gd' (by omega) (by omega)), lt_gd_t gg, lt_gd_t gg, lt_gd_t gg]
          rw [show lm_i (lm_i (lm_i M4 (711 + 1) (4 + 2 * n) (nI s)) (711 + 1) (5 + 2 * n) (nI l)) (711 + 1) 1 (nI (n + 1)) = M5 from hM5.symm, e51, q_1, pk_sub (by omega)]
          rfl
      · refine OP_q (.inl (-2)) hr0 (hcls.trans ?_) ((hmod m).trans ?_)
        · rw [if_neg (by rw [q_6, sp_ltn (by omega) (by omega)]; exact c)]
        · rw [m210_t (d + 27) hsb hlb, lt_cI_s, if_pos (by decide), lt_gd_t g1, hrow1 _ hs.t0.ml, if_neg (by rw [q_6, sp_eqn (by omega) (by omega)]; omega)]
    · refine OP_q (.inl (-1)) hr0 (hcls.trans ?_) ((hmod m).trans ?_)
      · rw [ez, lt_cI_s, if_neg (by decide)]
      · rw [m210_f (d + 27) (Or.inr ⟨⟨s, hsb, rfl⟩, hz⟩), lt_cI_s, if_neg (by decide)]
  · refine OP_q (.inl (-1)) hr0 (hcls.trans ?_) ((hmod m).trans ?_)
    · rw [ey, lt_cI_s, if_pos rfl]
    · rw [m210_f (d + 27) (Or.inl hy), lt_cI_s, if_neg (by decide)]
end TR

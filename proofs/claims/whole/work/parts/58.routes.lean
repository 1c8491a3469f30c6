/-! ===== routes ===== -/
section RO
variable {dist wl : DT} {N : NT} {w : Nat → Nat} {T : Nat} {m : lt_m} {us : List Int32}
theorem same_s {M : lt_m} (h : sfr m M) : same m M := ⟨by rw [h.2.2], by rw [h.2.2], fun b k hb => by rw [h.1 b (by rintro rfl; exact absurd hb (by unfold scr; simp))]⟩
theorem same_w {M : lt_m} (h : wfr m M) : same m M := ⟨by rw [h.2], by rw [h.2], fun b k hb => h.1 b k (by
  rintro ⟨rfl, rfl | rfl | rfl | rfl⟩
  · exact absurd hb (by decide)
  · exact absurd hb (by decide)
  · exact absurd hb (by decide)
  · exact absurd hb (by decide))⟩
theorem two_4096 {a : Nat} (h : a < 12) : 2 ^ a < 4096 := Nat.pow_lt_pow_right (a := 2) (m := a) (n := 12) (by omega) h
theorem RS.gA (h : RS dist wl N w T m) : 13 ≤ m.2.2.1 := by
  obtain ⟨⟨A, B, n1, n2, n3, -⟩, -⟩ := h
  rw [n1]
  omega
/-- the class searches -/
theorem k71 (h : RS dist wl N w T m) {a g : Nat} (ha : a < N.1) (hg : g < N.1) (hne : a ≠ g) : ∃ M, (∀ d, lt_ev (d + 10) 71 [.inr (.inr (some 12)), .inr (.inr (some m.2.2.1)), .inl (nI a), .inl (nI g)] m = some (none, M)) ∧ csM (CR N.2.2.1 N.1 g 7 a (2 ^ a) 0) M ∧ same m M ∧ (∀ b, b ≠ 12 → M.1 b = m.1 b) ∧ M.2.1 = m.2.1 := by
  have hN := h.wfN
  have hn2 := hN.2.1
  obtain ⟨M0, hM0⟩ : ∃ M0, M0 = lm_i (lm_i (lm_i (lm_i (lm_snet m m.2.2.1) 12 1 (nI g)) 12 2 0) 12 3 1000000) 12 4 0 := ⟨_, rfl⟩
  have f0 : ∀ b, b ≠ 12 → M0.1 b = m.1 b := fun b hb => by rw [hM0, lm_i_ne hb, lm_i_ne hb, lm_i_ne hb, lm_i_ne hb]; rfl
  have c0 : csM mO M0 := by
    refine ⟨?_, ?_, ?_⟩
    · rw [hM0, lm_i_ns (by omega), lm_i_ns (by omega), lm_i_eq]; rfl
    · rw [hM0, lm_i_ns (by omega), lm_i_eq]; rfl
    · rw [hM0, lm_i_eq]; rfl
  have hb : (2 ^ a).testBit g = false := Nat.testBit_two_pow_of_ne hne
  obtain ⟨M, e1, c1, f1⟩ := k72 h.sA h.gA hN hg 6 a (2 ^ a ||| 2 ^ g) 0 mO M0 (Nat.le_refl _) ha (or_4096 (two_4096 (by omega)) (by omega)) (by decide) gd_O c0 (nR_fr (fun b b1 b2 => f0 b (by have := h.gA; omega)) h.nR) (by rw [hM0, lm_i_ns (by omega), lm_i_ns (by omega), lm_i_ns (by omega), lm_i_eq]) (by rw [hM0]; rfl)
  have hCC := CR_CC hn2 hg hN.2.2.2.1 6 a (2 ^ a) 0 ha hne hb (two_4096 (by omega)) (by decide)
  rw [← hCC, mP_cm, mP_O (gd_CR hn2 hN.2.2.2.1 7 a _ _ ha (two_4096 (by omega)) (by decide))] at c1
  refine ⟨M, fun d => ?_, c1, ?_, fun b hb2 => by rw [f1.1 b hb2, f0 b hb2], by rw [f1.2.2, hM0]; rfl⟩
  · refine (E71 (d + 9) 12 _ _ _ s_12 h.sA m).trans ?_
    have e0 : lm_i (lm_i (lm_i (lm_i (lm_snet m m.2.2.1) 12 1 (nI g)) 12 2 (0 : Int32)) 12 3 (1000000 : Int32)) 12 4 (0 : Int32) = M0 := hM0.symm
    have := e1 d
    rw [e0, sp_bit (by omega), sp_bit (by omega), sp_orN, show (1 : Int32) = nI (7 - 6) from rfl, show (0 : Int32) = nI 0 from rfl, show d + 9 = d + 6 + 3 by omega, this, lt_cV_s]
  · refine ⟨by rw [f1.2.2, hM0]; rfl, by rw [f1.2.2, hM0]; rfl, fun b k hb2 => ?_⟩
    have : b ≠ 12 := by rintro rfl; exact absurd hb2 (by unfold scr; simp)
    rw [f1.1 b this, f0 b this]
/-- the reference finds -/
theorem m204 (hN : wfN N) (h : ml N w 711 m) {a g : Nat} (ha : a < N.1) (hg : g < N.1) : ∃ M, (∀ d, lt_ev (d + 10) 204 [.inr (.inr (some 711)), .inl (nI a), .inl (nI g)] m = some (some (.inl (if (CR N.2.2.1 N.1 g 7 a (2 ^ a) 0).1 = 0 then 0 else 1)), M)) ∧ rsM N.1 (CR N.2.2.1 N.1 g 7 a (2 ^ a) 0) M ∧ wfr m M := by
  have hn2 := hN.2.1
  have hbd : bdM 7 ≤ 2 ^ 28 := by decide
  obtain ⟨M0, hM0⟩ : ∃ M0, M0 = lm_i (lm_i (lm_i m 711 29 0) 711 31 0) 711 32 (nI (2 ^ N.1 - 1)) := ⟨_, rfl⟩
  have f0 : wfr m M0 := ⟨fun b k hb => by rw [hM0, lm_i_ns (by omega), lm_i_ns (by omega), lm_i_ns (by omega)], by rw [hM0]; rfl⟩
  have hp : 2 ^ N.1 ≤ 2 ^ 12 := Nat.pow_le_pow_right (by omega) hn2
  have hp1 : 0 < 2 ^ N.1 := Nat.two_pow_pos _
  have c0 : rsM N.1 mO M0 := by
    refine ⟨?_, fun q => absurd rfl q, ?_, ?_⟩
    · rw [hM0, lm_i_ns (by omega), lm_i_ns (by omega), lm_i_eq]; rfl
    · rw [hM0, lm_i_ns (by omega), lm_i_eq]; rfl
    · rw [hM0, lm_i_eq]
      show nI (2 ^ N.1 - 1) = nI ((2 ^ N.1 - 1) &&& 4095)
      rw [and_4095 (by omega)]
  obtain ⟨M, e1, c1, f1⟩ := m205 (w := w) hN hg 7 a (2 ^ a) 0 mO M0 (Nat.le_refl _) ha (two_4096 (by omega)) (by
    have := pcN_or (v := 0) (o := a) (by omega) (Nat.zero_testBit a)
    rw [Nat.zero_or] at this
    rw [this, pcN_z]) (by decide) gd_O (fun _ => rfl) (by show 0 + bdM 7 ≤ _; omega) c0 (ml_w f0 h)
  rw [mP_cm, mP_O (gd_CR hn2 hN.2.2.2.1 7 a _ _ ha (two_4096 (by omega)) (by decide))] at c1
  have hc : (CR N.2.2.1 N.1 g 7 a (2 ^ a) 0).1 ≤ bdM 7 := CR_c hn2 _ _ _ _
  refine ⟨M, fun d => ?_, c1, wfr_tr f0 f1⟩
  refine (E204 (d + 9) 711 _ _ sy m).trans ?_
  have e8 : (lm_i (lm_i m 711 29 (0 : Int32)) 711 31 (0 : Int32)).1 711 8 = nI N.1 := by rw [lm_i_ns (by omega), lm_i_ns (by omega)]; exact h.2.1
  have hsub : nI (2 ^ N.1) - (1 : Int32) = nI (2 ^ N.1 - 1) := by rw [q_1, pk_sub hp1]
  have e205 : lt_ev (d + 9) 205 [.inr (.inr (some 711)), .inl (nI a), .inl (nI g), .inl (nI (2 ^ a)), .inl (0 : Int32)] M0 = some (none, M) := e1 d
  rw [e8, sp_bit (i := N.1) (by omega), sp_bit (i := a) (by omega), hsub, ← hM0]
  simp only [lt_let]
  rw [e205, lt_cV_s, c1.1]
  by_cases c : (CR N.2.2.1 N.1 g 7 a (2 ^ a) 0).1 = 0
  · rw [if_pos (by rw [c]; decide), if_pos c]
  · rw [if_neg (by rw [sp_le0 (by omega)]; omega), if_neg c]
theorem op_routes (d : Nat) (hr : RR dist wl T m) (x y : Int32) : OP dist wl d T T 70 203 [.inl x, .inl y] m := by
  have hr0 := hr
  obtain ⟨N, w, vs, hs, hl, hc, hm⟩ := hr
  have hN := hs.wfN
  have hn2 := hN.2.1
  have hcls : lt_ev (d + 30) 70 [.inr (.inr (some 0)), .inl x, .inl y] m = _ := E70 (d + 29) 0 _ _ sx m
  rw [lt_gd_t hs.sA, p14 (d + 28) _ _ hs.sA m, lt_cI_s] at hcls
  have hmod : ∀ M : lt_m, ml N w 711 (lm_i M 711 15 0) → lt_ev (d + 30) 203 [.inr (.inr (some 711)), .inl x, .inl y] M = _ := fun M h => by
    refine (E203 (d + 29) 711 _ _ sy M).trans ?_
    rw [m193 (d + 27) sy h hN, lt_cI_s]
  rcases c14 hs.nR hN x with ⟨a, ha, rfl, ea⟩ | ⟨hx, ea⟩
  · rw [ea, if_neg (by decide), lt_gd_t hs.sA, p14 (d + 28) _ _ hs.sA m, lt_cI_s] at hcls
    have hmod2 : ∀ M : lt_m, ml N w 711 (lm_i M 711 15 0) → lt_ev (d + 30) 203 [.inr (.inr (some 711)), .inl (nI a), .inl y] M = _ := fun M h => by
      refine (hmod M h).trans ?_
      rw [sp_i1 ha (by omega), if_neg (by decide), m193 (d + 27) sy h hN, lt_cI_s]
    rcases c14 hs.nR hN y with ⟨g, hg, rfl, eg⟩ | ⟨hy, eg⟩
    · rw [eg, if_neg (by decide)] at hcls
      have hmod3 : ∀ M : lt_m, ml N w 711 (lm_i M 711 15 0) → lt_ev (d + 30) 203 [.inr (.inr (some 711)), .inl (nI a), .inl (nI g)] M = _ := fun M h => by
        refine (hmod2 M h).trans ?_
        rw [sp_i1 hg (by omega), if_neg (by decide)]
      by_cases e : a = g
      · refine OP_q (.inl (-1)) hr0 (hcls.trans ?_) ((hmod3 m hs.t0.ml).trans ?_)
        · rw [if_neg (by rw [e]; exact fun q => q rfl)]
        · rw [if_neg (by rw [e]; exact fun q => q rfl)]
      · have hne : ¬ nI a = nI g := by rw [sp_eqn (by omega) (by omega)]; exact e
        obtain ⟨X, hX⟩ : ∃ X, X = CR N.2.2.1 N.1 g 7 a (2 ^ a) 0 := ⟨_, rfl⟩
        have hcb : X.1 ≤ bdM 7 := by rw [hX]; exact CR_c hn2 _ _ _ _
        have hbd : bdM 7 ≤ 2 ^ 28 := by decide
        obtain ⟨M1, e1, c1, f1, g1, t1⟩ := k71 hs ha hg e
        have hs1 : RS dist wl N w T M1 := RS_fr f1 hs
        have e71 : lt_ev (d + 29) 71 [.inr (.inr (some (0 + 12))), .inr (.inr (some m.2.2.1)), .inl (nI a), .inl (nI g)] m = some (none, M1) := e1 (d + 19)
        rw [← hX] at c1
        have z2 : M1.1 (0 + 12) 2 = nI X.1 := c1.1
        have z3 : M1.1 (0 + 12) 3 = nI X.2.1 := c1.2.1
        have z4 : M1.1 (0 + 12) 4 = nI X.2.2.1 := c1.2.2
        rw [if_pos hne, e71, lt_cV_s, z2, z3, z4] at hcls
        by_cases c0 : X.1 = 0
        · obtain ⟨M3, e3, c3, f3⟩ := m204 (w := w) hN hs1.t0.ml ha hg
          have hs3 := RS_fr (same_w f3) hs1.t0
          refine ⟨.inl (-2), M1, M3, hcls.trans ?_, (hmod3 M1 hs1.t0.ml).trans ?_, ⟨N, w, vs, hs3, hl, ?_, ?_⟩⟩
          · rw [if_neg (by rw [c0]; exact fun q => q rfl)]
          · rw [if_pos hne, e3 (d + 19), lt_cI_s, ← hX, if_pos c0, if_neg (by decide)]
          · exact ⟨by rw [f3.1 4 1 (by omega), lm_i_ne (by omega), g1 4 (by omega)]; exact hc.1, fun j v hj => by rw [f3.1 5 j (by omega), lm_i_ne (by omega), g1 5 (by omega)]; exact hc.2 j v hj⟩
          · exact ⟨by rw [f3.1 711 14 (by omega), lm_i_ns (by omega), g1 711 (by omega)]; exact hm.1, fun j v hj => by rw [f3.2]; show M1.2.1 719 j = _; rw [t1]; exact hm.2 j v hj⟩
        · obtain ⟨M2, hM2⟩ : ∃ M2, M2 = radd (radd (rclr M1) 0 (nI X.2.1)) 1 (nI X.2.2.1) := ⟨_, rfl⟩
          have e74 : lt_ev (d + 29) 74 [.inr (.inr (some 0)), .inl (nI X.2.1), .inl (nI X.2.2.1)] M1 = some (none, M2) := by rw [hM2]; exact k74 (d + 25)
          have f2 : same M1 M2 := by rw [hM2]; exact same_tr same_rclr (same_tr same_radd same_radd)
          have r2 : rwC [nI X.2.1, nI X.2.2.1] M2 := by rw [hM2]; exact rwC_add (vs := [nI X.2.1]) (rwC_add (vs := []) (rwC_clr M1))
          have hs2 : RS dist wl N w T M2 := RS_fr f2 hs1
          obtain ⟨M3, e3, c3, f3⟩ := m204 (w := w) hN hs2.t0.ml ha hg
          rw [← hX] at c3
          have hs3 := RS_fr (same_w f3) hs2.t0
          have z2' : M2.1 (0 + 12) 2 = nI X.1 := by
            rw [hM2]
            unfold radd rclr
            rw [lm_i_ne (by decide), lm_i_ne (by decide), lm_i_ne (by decide), lm_i_ne (by decide), lm_i_ne (by decide)]
            exact c1.1
          have r3 : rwC [nI X.2.1, nI X.2.2.1] M3 := ⟨by rw [f3.1 4 1 (by omega), lm_i_ne (by omega)]; exact r2.1, fun j v hj => by rw [f3.1 5 j (by omega), lm_i_ne (by omega)]; exact r2.2 j v hj⟩
          have h202a := m202 (m := rzer M3) (d + 28) (k := 0) (x := (nI X.2.1).toInt64) rfl (by decide)
          have h202b := m202 (m := rtel (rzer M3) 0 (nI X.2.1).toInt64) (d + 28) (k := 1) (x := (nI X.2.2.1).toInt64) (by unfold rtel; exact lm_i_eq) (by decide)
          have y30 : (lm_i M3 711 14 (0 : Int32)).1 711 30 = nI X.2.1 := by rw [lm_i_ns (by omega)]; exact c3.2.1 c0
          have y31 : (rtel (rzer M3) 0 (nI X.2.1).toInt64).1 711 31 = nI X.2.2.1 := by
            unfold rtel rzer
            rw [lm_i_ns (by omega), lm_l_1, lm_i_ns (by omega)]
            exact c3.2.2.1
          have y29 : (rtel (rtel (rzer M3) 0 (nI X.2.1).toInt64) 1 (nI X.2.2.1).toInt64).1 711 29 = nI X.1 := by
            unfold rtel rzer
            rw [lm_i_ns (by omega), lm_l_1, lm_i_ns (by omega), lm_l_1, lm_i_ns (by omega)]
            exact c3.1
          refine ⟨.inl (nI X.1), M2, rtel (rtel (rzer M3) 0 (nI X.2.1).toInt64) 1 (nI X.2.2.1).toInt64, hcls.trans ?_, (hmod3 M2 hs2.t0.ml).trans ?_, ⟨N, w, [nI X.2.1, nI X.2.2.1], RS_fr (same_tr same_rzer (same_tr same_rtel same_rtel)) hs3, by simp, rwC_tel (rwC_tel (rwC_zer r3)), rwM_tel (vs := [nI X.2.1]) (rwM_tel (vs := []) (rwM_zer M3))⟩⟩
          · rw [if_pos (by rw [sp_eq0 (by omega)]; exact c0), e74, lt_cV_s, z2']
          · rw [if_pos hne, e3 (d + 19), lt_cI_s, ← hX, if_neg c0, if_pos (by decide), y30, show lm_i M3 711 14 (0 : Int32) = rzer M3 from rfl, h202a, lt_cV_s, y31, h202b, lt_cV_s, y29]
    · refine OP_q (.inl (-1)) hr0 (hcls.trans ?_) ((hmod2 m hs.t0.ml).trans ?_)
      · rw [eg, if_pos rfl]
      · rw [sp_i0 (by omega) hy, if_pos rfl]
  · refine OP_q (.inl (-1)) hr0 (hcls.trans ?_) ((hmod m hs.t0.ml).trans ?_)
    · rw [ea, if_pos rfl]
    · rw [sp_i0 (by omega) hx, if_pos rfl]
end RO

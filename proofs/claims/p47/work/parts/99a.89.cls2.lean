/-! ===== the constructor of the class runs ===== -/
theorem tsV_net {A k : Nat} {M M2 : ts_M} (h1 : 695 ≤ A) (h : tsV A k M) (c : M2.2.2.2 = A + 8) (f : ∀ b, b < A → ∀ j, M2.1 b j = M.1 b j ∧ M2.2.2.1 b j = M.2.2.1 b j) (g : ∀ b, A ≤ b → b < A + 8 → ∀ j, M2.2.2.1 b j = ts_G b j) (hA : tsA k = A) : tsV (A + 8) (k + 1) (ts_wrR M2 0 k (some A)) := by
  obtain ⟨v1, v2, v3, v4⟩ := h
  refine ⟨by rw [wR_n, c], fun b b1 b2 j hj => ?_, fun b b1 b2 j => ?_, fun j => ?_⟩
  · rw [wR_r1 (by omega)]
    rcases Nat.lt_or_ge b A with q | q
    · rw [(f b q j).2]; exact v2 b b1 q j hj
    · exact g b q b2 j
  · rw [wR_i, (f b (by omega) j).1]; exact v3 b (by omega) b2 j
  · by_cases e : j = k
    · rw [wR_r0 rfl e, if_pos (by omega), e, hA]
    · rw [wR_r1 (by omega), (f 0 (by omega) j).2, v4 j]
      by_cases c : j < k
      · rw [if_pos c, if_pos (by omega)]
      · rw [if_neg c, if_neg (by omega)]
theorem s695 : ts_sh 695 = (0, 5) := by decide +kernel
theorem s703 : ts_sh 703 = (0, 5) := by decide +kernel
theorem c0_run {M : ts_M} (hM : M.2.2.2 = 0) : ∃ M9, (∀ d, ts_ev (d + 7) 0 [.inr (.inr (some 0))] (ts_new M) = some (none, M9)) ∧ tsV 711 9 M9 ∧ ∀ m2 : lt_m, (∀ b, 695 ≤ b → b < 711 → m2.1 b = M9.1 b) → nR N00 695 m2 ∧ AR N00 695 (dsN N00.2.2.1 N00.1) m2 ∧ CT 695 (wtx N00) m2 ∧ m2.1 695 7 = 0 ∧ CT 703 (wtx N00) m2 := by
  obtain ⟨k1, k4, k6, k8, k12, k13, k2, k3, k5, k7, k9, k10, k11⟩ := sk
  have V0 : tsV 1 0 (ts_new M) := by
    refine ⟨by rw [nw_n, hM], fun b b1 b2 => by omega, fun b b1 b2 j => ?_, fun j => ?_⟩
    · rw [nw_i0 (by omega)]; unfold tsI; rw [if_pos b1]
    · rw [nw_r0 (by omega), if_neg (Nat.not_lt_zero j)]
  obtain ⟨m0, hm0⟩ : ∃ m0, m0 = ts_new M := ⟨_, rfl⟩
  rw [← hm0] at V0 ⊢
  have x1 := cX_1 V0.1 k1
  have e1 := fun d => kC1 d (a := 1) (M := ts_new m0) k1 (by rw [nw_n, V0.1]; decide) (by rw [nw_n, V0.1]; exact k2) (by rw [nw_n, V0.1]; exact k3) (by rw [nw_n, V0.1]; decide)
  obtain ⟨n1, hn1⟩ : ∃ n1, n1 = kM1 1 (ts_new m0) := ⟨_, rfl⟩
  rw [← hn1] at x1 e1
  have V1 := tsV_add (k := 0) (by decide) V0 x1 (fun b b1 b2 j => by unfold tsI; rw [if_neg (by omega), if_pos (by omega)]) rfl (by decide)
  obtain ⟨m1, hm1⟩ : ∃ m1, m1 = ts_wrR n1 0 0 (some 1) := ⟨_, rfl⟩
  rw [← hm1] at V1
  have x2 := cX_3 V1.1 k4
  have e2 := fun d => kC3 d (a := 4) (M := ts_new m1) k4 (by rw [nw_n, V1.1]; decide) (by rw [nw_n, V1.1]; exact k5) (by rw [nw_n, V1.1]; decide)
  obtain ⟨n2, hn2⟩ : ∃ n2, n2 = kM3 4 (ts_new m1) := ⟨_, rfl⟩
  rw [show (1 + 3 : Nat) = 4 from rfl, ← hn2] at x2
  rw [← hn2] at e2
  have V2 := tsV_add (k := 1) (by decide) V1 x2 (fun b b1 b2 j => by unfold tsI ldI3; rw [if_neg (by omega), if_neg (by omega), if_pos (by omega)]) rfl (by decide)
  obtain ⟨m2, hm2⟩ : ∃ m2, m2 = ts_wrR n2 0 1 (some 4) := ⟨_, rfl⟩
  rw [show (1 + 3 : Nat) = 4 from rfl, ← hm2] at V2
  have x3 := cX_4 V2.1 k6
  have e3 := fun d => kC4 d (a := 6) (M := ts_new m2) k6 (by rw [nw_n, V2.1]; decide) (by rw [nw_n, V2.1]; exact k7) (by rw [nw_n, V2.1]; decide)
  obtain ⟨n3, hn3⟩ : ∃ n3, n3 = kM4 6 (ts_new m2) := ⟨_, rfl⟩
  rw [show (4 + 2 : Nat) = 6 from rfl, ← hn3] at x3
  rw [← hn3] at e3
  have V3 := tsV_add (k := 2) (by decide) V2 x3 (fun b b1 b2 j => by unfold tsI ldI4; rw [if_neg (by omega), if_neg (by omega), if_pos (by omega)]) rfl (by decide)
  obtain ⟨m3, hm3⟩ : ∃ m3, m3 = ts_wrR n3 0 2 (some 6) := ⟨_, rfl⟩
  rw [show (4 + 2 : Nat) = 6 from rfl, ← hm3] at V3
  have x4 := cX_5 V3.1 k8
  have e4 := fun d => kC5 d (a := 8) (M := ts_new m3) k8 (by rw [nw_n, V3.1]; decide) (by rw [nw_n, V3.1]; exact k9) (by rw [nw_n, V3.1]; exact k10) (by rw [nw_n, V3.1]; exact k11) (by rw [nw_n, V3.1]; decide)
  obtain ⟨n4, hn4⟩ : ∃ n4, n4 = kM5 8 (ts_new m3) := ⟨_, rfl⟩
  rw [show (6 + 2 : Nat) = 8 from rfl, ← hn4] at x4
  rw [← hn4] at e4
  have V4 := tsV_add (k := 3) (by decide) V3 x4 (fun b b1 b2 j => by unfold tsI ldI5; rw [if_neg (by omega), if_neg (by omega), if_pos (by omega)]) rfl (by decide)
  obtain ⟨m4, hm4⟩ : ∃ m4, m4 = ts_wrR n4 0 3 (some 8) := ⟨_, rfl⟩
  rw [show (6 + 2 : Nat) = 8 from rfl, ← hm4] at V4
  have x5 := cX_6 V4.1 k12
  have e5 := fun d => kC6 d (a := 12) (M := ts_new m4) k12 (by rw [nw_n, V4.1]; decide) (by rw [nw_n, V4.1]; decide)
  obtain ⟨n5, hn5⟩ : ∃ n5, n5 = kM6 12 (ts_new m4) := ⟨_, rfl⟩
  rw [show (8 + 4 : Nat) = 12 from rfl, ← hn5] at x5
  rw [← hn5] at e5
  have V5 := tsV_add (k := 4) (by decide) V4 x5 (fun b b1 b2 j => by unfold tsI ldI6; rw [if_neg (by omega), if_neg (by omega), if_pos (by omega)]) rfl (by decide)
  obtain ⟨m5, hm5⟩ : ∃ m5, m5 = ts_wrR n5 0 4 (some 12) := ⟨_, rfl⟩
  rw [show (8 + 4 : Nat) = 12 from rfl, ← hm5] at V5
  obtain ⟨n6, e6, x6⟩ := cX_7 (L := 13) V5.1 k13 (by decide)
  have V6 := tsV_add (k := 5) (by decide) V5 x6 (fun b b1 b2 j => by unfold tsI; rw [if_neg (by omega), if_neg (by omega), if_neg (by omega), if_pos (by omega)]) rfl (by decide)
  obtain ⟨m6, hm6⟩ : ∃ m6, m6 = ts_wrR n6 0 5 (some 13) := ⟨_, rfl⟩
  rw [show (12 + 1 : Nat) = 13 from rfl, ← hm6] at V6
  obtain ⟨n7, e7, x7⟩ := cX_10 (M := m6) V6.1
  have V7 := tsV_add (k := 6) (by decide) V6 x7 (fun b b1 b2 j => by unfold tsI; rw [if_neg (by omega), if_neg (by omega), if_neg (by omega), if_neg (by omega), if_pos (by omega)]) rfl (by decide)
  obtain ⟨m7, hm7⟩ : ∃ m7, m7 = ts_wrR n7 0 6 (some 81) := ⟨_, rfl⟩
  rw [show (13 + 68 : Nat) = 81 from rfl, ← hm7] at V7
  obtain ⟨n8, e8, c8, f8, g8, h8⟩ := c11 (A := 695) (M := m7) s695 (by decide) (by decide) V7.1
  have V8 := tsV_net (k := 7) (by decide) V7 c8 f8 g8 rfl
  obtain ⟨m8, hm8⟩ : ∃ m8, m8 = ts_wrR n8 0 7 (some 695) := ⟨_, rfl⟩
  rw [← hm8] at V8
  obtain ⟨n9, e9, c9, f9, g9, h9⟩ := c11 (A := 703) (M := m8) s703 (by decide) (by decide) V8.1
  have V9 := tsV_net (k := 8) (by decide) V8 c9 f9 g9 rfl
  obtain ⟨m9, hm9⟩ : ∃ m9, m9 = ts_wrR n9 0 8 (some 703) := ⟨_, rfl⟩
  rw [← hm9] at V9
  refine ⟨m9, fun d => ?_, V9, fun u hu => ?_⟩
  · refine cs_ev hYC0 (Nat.le_of_ble_eq_true rfl) ?_
    refine (cs_aload dc0_0 rfl).trans ?_
    refine (cs_obj dc0_1 rfl (by decide +kernel) (by decide)).trans ?_
    refine (c0_fld (n := 1) (k := 0) (y := 1) (c := 6) (z := 1) dc0_4 dc0_5 dc0_8 dc0_9 dc0_12 (by decide +kernel) k1 (by decide +kernel) (by decide +kernel) (by decide +kernel) (by decide +kernel) rfl V0.1 (by decide) x1.1 (by decide) (e1 (d + 4))).trans ?_
    rw [← hm1]
    refine (c0_fld (n := 4) (k := 1) (y := 3) (c := 8) (z := 1) dc0_15 dc0_16 dc0_19 dc0_20 dc0_23 (by decide +kernel) k4 (by decide +kernel) (by decide +kernel) (by decide +kernel) (by decide +kernel) rfl V1.1 (by decide) x2.1 (by decide) (e2 (d + 5))).trans ?_
    rw [← hm2]
    refine (c0_fld (n := 6) (k := 2) (y := 4) (c := 7) (z := 1) dc0_26 dc0_27 dc0_30 dc0_31 dc0_34 (by decide +kernel) k6 (by decide +kernel) (by decide +kernel) (by decide +kernel) (by decide +kernel) rfl V2.1 (by decide) x3.1 (by decide) (e3 (d + 5))).trans ?_
    rw [← hm3]
    refine (c0_fld (n := 8) (k := 3) (y := 5) (c := 3) (z := 1) dc0_37 dc0_38 dc0_41 dc0_42 dc0_45 (by decide +kernel) k8 (by decide +kernel) (by decide +kernel) (by decide +kernel) (by decide +kernel) rfl V3.1 (by decide) x4.1 (by decide) (e4 (d + 5))).trans ?_
    rw [← hm4]
    refine (c0_fld (n := 12) (k := 4) (y := 6) (c := 9) (z := 1) dc0_48 dc0_49 dc0_52 dc0_53 dc0_56 (by decide +kernel) k12 (by decide +kernel) (by decide +kernel) (by decide +kernel) (by decide +kernel) rfl V4.1 (by decide) x5.1 (by decide) (e5 (d + 5))).trans ?_
    rw [← hm5]
    refine (c0_fld (n := 13) (k := 5) (y := 7) (c := 2) (z := 0) dc0_59 dc0_60 dc0_63 dc0_64 dc0_67 (by decide +kernel) k13 (by decide +kernel) (by decide +kernel) (by decide +kernel) (by decide +kernel) rfl V5.1 (by decide) x6.1 (by decide) (e6 (d + 4))).trans ?_
    rw [← hm6]
    refine (c0_fld (n := 81) (k := 6) (y := 10) (c := 1) (z := 0) dc0_70 dc0_71 dc0_74 dc0_75 dc0_78 (by decide +kernel) s81 (by decide +kernel) (by decide +kernel) (by decide +kernel) (by decide +kernel) rfl V6.1 (by decide) x7.1 (by decide) (e7 (d + 3))).trans ?_
    rw [← hm7]
    refine (c0_fld (n := 695) (k := 7) (y := 11) (c := 5) (z := 0) dc0_81 dc0_82 dc0_85 dc0_86 dc0_89 (by decide +kernel) s695 (by decide +kernel) (by decide +kernel) (by decide +kernel) (by decide +kernel) rfl V7.1 (by decide) c8 (by decide) (e8 d)).trans ?_
    rw [← hm8]
    refine (c0_fld (n := 703) (k := 8) (y := 11) (c := 5) (z := 0) dc0_92 dc0_93 dc0_96 dc0_97 dc0_100 (by decide +kernel) s703 (by decide +kernel) (by decide +kernel) (by decide +kernel) (by decide +kernel) rfl V8.1 (by decide) c9 (by decide) (e9 d)).trans ?_
    rw [← hm9]
    exact cs_ret dc0_103 rfl
  · have q1 : ∀ b, 695 ≤ b → b < 703 → u.1 b = n8.1 b := fun b b1 b2 => by
      rw [hu b b1 (by omega), hm9]
      refine funext fun j => ?_
      rw [wR_i, (f9 b b2 j).1, hm8, wR_i]
    have q2 : ∀ b, 703 ≤ b → b < 711 → u.1 b = n9.1 b := fun b b1 b2 => by
      rw [hu b (by omega) b2, hm9]
      exact funext fun j => wR_i
    obtain ⟨a1, a2, a3, a4⟩ := h8 u (fun b b1 b2 => q1 b b1 (by omega))
    obtain ⟨-, -, b3, -⟩ := h9 u (fun b b1 b2 => q2 b b1 (by omega))
    exact ⟨a1, a2, a3, a4, b3⟩

/-! ===== the constructors that make rows alone ===== -/
abbrev YC8 : ts_Y := (yX0_init, cX0_init, 1, none, 0)
theorem hYC8 : ts_mL[8]? = some YC8 := rfl
theorem dc8_0 : decode YC8.2.1 0 = .ok (.aload_n 0, 1) := by decide +kernel
theorem dc8_1 : decode YC8.2.1 1 = .ok (.invokespecial 3, 3) := by decide +kernel
theorem dc8_4 : decode YC8.2.1 4 = .ok (.aload_n 0, 1) := by decide +kernel
theorem dc8_5 : decode YC8.2.1 5 = .ok (.bipush 30, 2) := by decide +kernel
theorem dc8_7 : decode YC8.2.1 7 = .ok (.newarray .int, 2) := by decide +kernel
theorem dc8_9 : decode YC8.2.1 9 = .ok (.putfield 9, 3) := by decide +kernel
theorem dc8_12 : decode YC8.2.1 12 = .ok (.aload_n 0, 1) := by decide +kernel
theorem dc8_13 : decode YC8.2.1 13 = .ok (.bipush 30, 2) := by decide +kernel
theorem dc8_15 : decode YC8.2.1 15 = .ok (.newarray .int, 2) := by decide +kernel
theorem dc8_17 : decode YC8.2.1 17 = .ok (.putfield 15, 3) := by decide +kernel
theorem dc8_20 : decode YC8.2.1 20 = .ok (.aload_n 0, 1) := by decide +kernel
theorem dc8_21 : decode YC8.2.1 21 = .ok (.bipush 30, 2) := by decide +kernel
theorem dc8_23 : decode YC8.2.1 23 = .ok (.newarray .int, 2) := by decide +kernel
theorem dc8_25 : decode YC8.2.1 25 = .ok (.putfield 18, 3) := by decide +kernel
theorem dc8_28 : decode YC8.2.1 28 = .ok (.return_, 1) := by decide +kernel
def kM8 (a : Nat) (M : ts_M) : ts_M := (ts_wrR (ts_new (ts_wrR (ts_new (ts_wrR (ts_new M) a 0 (some M.2.2.2))) a 1 (some (M.2.2.2 + 1)))) a 2 (some (M.2.2.2 + 2)))
theorem kC8 (d : Nat) {a : Nat} {M : ts_M} (hsa : ts_sh a = (0, 0)) (ha : a < M.2.2.2) (hs0 : ts_sh M.2.2.2 = (1, 30)) (hs1 : ts_sh (M.2.2.2 + 1) = (1, 30)) (hs2 : ts_sh (M.2.2.2 + 2) = (1, 30)) (hN : M.2.2.2 + 3 ≤ 730) : ts_ev (d + 1) 8 [.inr (.inr (some a))] M = some (none, kM8 a M) := by
  refine cs_ev hYC8 (Nat.le_of_ble_eq_true rfl) ?_
  refine (cs_aload dc8_0 rfl).trans ?_
  refine (cs_obj dc8_1 rfl (by decide +kernel) (by decide)).trans ?_
  refine (cs_aload dc8_4 rfl).trans ?_
  refine (cs_bi (v := nI 30) dc8_5 (by decide +kernel)).trans ?_
  refine (cs_newI (M := M) (k := 30) dc8_7 rfl rfl (by decide) hs0 (show M.2.2.2 < 730 by omega)).trans ?_
  refine (cs_putR (M := (ts_new M)) (c := 0) (k := 0) dc8_9 rfl (by decide +kernel) rfl hsa (show a < (M.2.2.2 + 1) by omega) rfl).trans ?_
  refine (cs_aload dc8_12 rfl).trans ?_
  refine (cs_bi (v := nI 30) dc8_13 (by decide +kernel)).trans ?_
  refine (cs_newI (M := (ts_wrR (ts_new M) a 0 (some M.2.2.2))) (k := 30) dc8_15 rfl rfl (by decide) hs1 (show (M.2.2.2 + 1) < 730 by omega)).trans ?_
  refine (cs_putR (M := (ts_new (ts_wrR (ts_new M) a 0 (some M.2.2.2)))) (c := 0) (k := 1) dc8_17 rfl (by decide +kernel) rfl hsa (show a < (M.2.2.2 + 2) by omega) rfl).trans ?_
  refine (cs_aload dc8_20 rfl).trans ?_
  refine (cs_bi (v := nI 30) dc8_21 (by decide +kernel)).trans ?_
  refine (cs_newI (M := (ts_wrR (ts_new (ts_wrR (ts_new M) a 0 (some M.2.2.2))) a 1 (some (M.2.2.2 + 1)))) (k := 30) dc8_23 rfl rfl (by decide) hs2 (show (M.2.2.2 + 2) < 730 by omega)).trans ?_
  refine (cs_putR (M := (ts_new (ts_wrR (ts_new (ts_wrR (ts_new M) a 0 (some M.2.2.2))) a 1 (some (M.2.2.2 + 1))))) (c := 0) (k := 2) dc8_25 rfl (by decide +kernel) rfl hsa (show a < (M.2.2.2 + 3) by omega) rfl).trans ?_
  exact cs_ret dc8_28 rfl
theorem kN8 {a : Nat} {M : ts_M} : (kM8 a M).2.2.2 = M.2.2.2 + 3 := rfl
abbrev YC9 : ts_Y := (yX4_init, cX4_init, 2, none, 4)
theorem hYC9 : ts_mL[9]? = some YC9 := rfl
theorem dc9_0 : decode YC9.2.1 0 = .ok (.aload_n 0, 1) := by decide +kernel
theorem dc9_1 : decode YC9.2.1 1 = .ok (.invokespecial 3, 3) := by decide +kernel
theorem dc9_4 : decode YC9.2.1 4 = .ok (.aload_n 0, 1) := by decide +kernel
theorem dc9_5 : decode YC9.2.1 5 = .ok (.iconst (-1), 1) := by decide +kernel
theorem dc9_6 : decode YC9.2.1 6 = .ok (.putfield 9, 3) := by decide +kernel
theorem dc9_9 : decode YC9.2.1 9 = .ok (.aload_n 0, 1) := by decide +kernel
theorem dc9_10 : decode YC9.2.1 10 = .ok (.bipush 8, 2) := by decide +kernel
theorem dc9_12 : decode YC9.2.1 12 = .ok (.newarray .int, 2) := by decide +kernel
theorem dc9_14 : decode YC9.2.1 14 = .ok (.putfield 15, 3) := by decide +kernel
theorem dc9_17 : decode YC9.2.1 17 = .ok (.aload_n 0, 1) := by decide +kernel
theorem dc9_18 : decode YC9.2.1 18 = .ok (.bipush 8, 2) := by decide +kernel
theorem dc9_20 : decode YC9.2.1 20 = .ok (.newarray .int, 2) := by decide +kernel
theorem dc9_22 : decode YC9.2.1 22 = .ok (.putfield 19, 3) := by decide +kernel
theorem dc9_25 : decode YC9.2.1 25 = .ok (.aload_n 0, 1) := by decide +kernel
theorem dc9_26 : decode YC9.2.1 26 = .ok (.iload_n 1, 1) := by decide +kernel
theorem dc9_27 : decode YC9.2.1 27 = .ok (.putfield 22, 3) := by decide +kernel
theorem dc9_30 : decode YC9.2.1 30 = .ok (.return_, 1) := by decide +kernel
def kM9 (a : Nat) (x : Int32) (M : ts_M) : ts_M := (ts_wrI (ts_wrR (ts_new (ts_wrR (ts_new (ts_wrI M a 7 (-1))) a 12 (some M.2.2.2))) a 13 (some (M.2.2.2 + 1))) a 0 x)
theorem kC9 (d : Nat) {a : Nat} {x : Int32} {M : ts_M} (hsa : ts_sh a = (0, 4)) (ha : a < M.2.2.2) (hs0 : ts_sh M.2.2.2 = (1, 8)) (hs1 : ts_sh (M.2.2.2 + 1) = (1, 8)) (hN : M.2.2.2 + 2 ≤ 730) : ts_ev (d + 1) 9 [.inr (.inr (some a)), .inl x] M = some (none, kM9 a x M) := by
  refine cs_ev hYC9 (Nat.le_of_ble_eq_true rfl) ?_
  refine (cs_aload dc9_0 rfl).trans ?_
  refine (cs_obj dc9_1 rfl (by decide +kernel) (by decide)).trans ?_
  refine (cs_aload dc9_4 rfl).trans ?_
  refine (cs_ic (v := (-1 : Int32)) dc9_5 (by decide +kernel)).trans ?_
  refine (cs_putI (M := M) (c := 4) (k := 7) dc9_6 rfl (by decide +kernel) rfl hsa (show a < M.2.2.2 by omega) rfl).trans ?_
  refine (cs_aload dc9_9 rfl).trans ?_
  refine (cs_bi (v := nI 8) dc9_10 (by decide +kernel)).trans ?_
  refine (cs_newI (M := (ts_wrI M a 7 (-1))) (k := 8) dc9_12 rfl rfl (by decide) hs0 (show M.2.2.2 < 730 by omega)).trans ?_
  refine (cs_putR (M := (ts_new (ts_wrI M a 7 (-1)))) (c := 4) (k := 12) dc9_14 rfl (by decide +kernel) rfl hsa (show a < (M.2.2.2 + 1) by omega) rfl).trans ?_
  refine (cs_aload dc9_17 rfl).trans ?_
  refine (cs_bi (v := nI 8) dc9_18 (by decide +kernel)).trans ?_
  refine (cs_newI (M := (ts_wrR (ts_new (ts_wrI M a 7 (-1))) a 12 (some M.2.2.2))) (k := 8) dc9_20 rfl rfl (by decide) hs1 (show (M.2.2.2 + 1) < 730 by omega)).trans ?_
  refine (cs_putR (M := (ts_new (ts_wrR (ts_new (ts_wrI M a 7 (-1))) a 12 (some M.2.2.2)))) (c := 4) (k := 13) dc9_22 rfl (by decide +kernel) rfl hsa (show a < (M.2.2.2 + 2) by omega) rfl).trans ?_
  refine (cs_aload dc9_25 rfl).trans ?_
  refine (cs_iload dc9_26 rfl).trans ?_
  refine (cs_putI (M := (ts_wrR (ts_new (ts_wrR (ts_new (ts_wrI M a 7 (-1))) a 12 (some M.2.2.2))) a 13 (some (M.2.2.2 + 1)))) (c := 4) (k := 0) dc9_27 rfl (by decide +kernel) rfl hsa (show a < (M.2.2.2 + 2) by omega) rfl).trans ?_
  exact cs_ret dc9_30 rfl
theorem kN9 {a : Nat} {x : Int32} {M : ts_M} : (kM9 a x M).2.2.2 = M.2.2.2 + 2 := rfl
abbrev YC2 : ts_Y := (yX10_init, cX10_init, 1, none, 10)
theorem hYC2 : ts_mL[2]? = some YC2 := rfl
theorem dc2_0 : decode YC2.2.1 0 = .ok (.aload_n 0, 1) := by decide +kernel
theorem dc2_1 : decode YC2.2.1 1 = .ok (.invokespecial 3, 3) := by decide +kernel
theorem dc2_4 : decode YC2.2.1 4 = .ok (.aload_n 0, 1) := by decide +kernel
theorem dc2_5 : decode YC2.2.1 5 = .ok (.sipush 200, 3) := by decide +kernel
theorem dc2_8 : decode YC2.2.1 8 = .ok (.newarray .int, 2) := by decide +kernel
theorem dc2_10 : decode YC2.2.1 10 = .ok (.putfield 9, 3) := by decide +kernel
theorem dc2_13 : decode YC2.2.1 13 = .ok (.return_, 1) := by decide +kernel
def kM2 (a : Nat) (M : ts_M) : ts_M := (ts_wrR (ts_new M) a 0 (some M.2.2.2))
theorem kC2 (d : Nat) {a : Nat} {M : ts_M} (hsa : ts_sh a = (0, 10)) (ha : a < M.2.2.2) (hs0 : ts_sh M.2.2.2 = (1, 200)) (hN : M.2.2.2 + 1 ≤ 730) : ts_ev (d + 1) 2 [.inr (.inr (some a))] M = some (none, kM2 a M) := by
  refine cs_ev hYC2 (Nat.le_of_ble_eq_true rfl) ?_
  refine (cs_aload dc2_0 rfl).trans ?_
  refine (cs_obj dc2_1 rfl (by decide +kernel) (by decide)).trans ?_
  refine (cs_aload dc2_4 rfl).trans ?_
  refine (cs_si (v := nI 200) dc2_5 (by decide +kernel)).trans ?_
  refine (cs_newI (M := M) (k := 200) dc2_8 rfl rfl (by decide) hs0 (show M.2.2.2 < 730 by omega)).trans ?_
  refine (cs_putR (M := (ts_new M)) (c := 10) (k := 0) dc2_10 rfl (by decide +kernel) rfl hsa (show a < (M.2.2.2 + 1) by omega) rfl).trans ?_
  exact cs_ret dc2_13 rfl
theorem kN2 {a : Nat} {M : ts_M} : (kM2 a M).2.2.2 = M.2.2.2 + 1 := rfl
abbrev YC3 : ts_Y := (yX8_init, cX8_init, 1, none, 8)
theorem hYC3 : ts_mL[3]? = some YC3 := rfl
theorem dc3_0 : decode YC3.2.1 0 = .ok (.aload_n 0, 1) := by decide +kernel
theorem dc3_1 : decode YC3.2.1 1 = .ok (.invokespecial 3, 3) := by decide +kernel
theorem dc3_4 : decode YC3.2.1 4 = .ok (.aload_n 0, 1) := by decide +kernel
theorem dc3_5 : decode YC3.2.1 5 = .ok (.bipush 12, 2) := by decide +kernel
theorem dc3_7 : decode YC3.2.1 7 = .ok (.newarray .int, 2) := by decide +kernel
theorem dc3_9 : decode YC3.2.1 9 = .ok (.putfield 9, 3) := by decide +kernel
theorem dc3_12 : decode YC3.2.1 12 = .ok (.return_, 1) := by decide +kernel
def kM3 (a : Nat) (M : ts_M) : ts_M := (ts_wrR (ts_new M) a 0 (some M.2.2.2))
theorem kC3 (d : Nat) {a : Nat} {M : ts_M} (hsa : ts_sh a = (0, 8)) (ha : a < M.2.2.2) (hs0 : ts_sh M.2.2.2 = (1, 12)) (hN : M.2.2.2 + 1 ≤ 730) : ts_ev (d + 1) 3 [.inr (.inr (some a))] M = some (none, kM3 a M) := by
  refine cs_ev hYC3 (Nat.le_of_ble_eq_true rfl) ?_
  refine (cs_aload dc3_0 rfl).trans ?_
  refine (cs_obj dc3_1 rfl (by decide +kernel) (by decide)).trans ?_
  refine (cs_aload dc3_4 rfl).trans ?_
  refine (cs_bi (v := nI 12) dc3_5 (by decide +kernel)).trans ?_
  refine (cs_newI (M := M) (k := 12) dc3_7 rfl rfl (by decide) hs0 (show M.2.2.2 < 730 by omega)).trans ?_
  refine (cs_putR (M := (ts_new M)) (c := 8) (k := 0) dc3_9 rfl (by decide +kernel) rfl hsa (show a < (M.2.2.2 + 1) by omega) rfl).trans ?_
  exact cs_ret dc3_12 rfl
theorem kN3 {a : Nat} {M : ts_M} : (kM3 a M).2.2.2 = M.2.2.2 + 1 := rfl
abbrev YC4 : ts_Y := (yX7_init, cX7_init, 1, none, 7)
theorem hYC4 : ts_mL[4]? = some YC4 := rfl
theorem dc4_0 : decode YC4.2.1 0 = .ok (.aload_n 0, 1) := by decide +kernel
theorem dc4_1 : decode YC4.2.1 1 = .ok (.invokespecial 3, 3) := by decide +kernel
theorem dc4_4 : decode YC4.2.1 4 = .ok (.aload_n 0, 1) := by decide +kernel
theorem dc4_5 : decode YC4.2.1 5 = .ok (.bipush 8, 2) := by decide +kernel
theorem dc4_7 : decode YC4.2.1 7 = .ok (.newarray .int, 2) := by decide +kernel
theorem dc4_9 : decode YC4.2.1 9 = .ok (.putfield 9, 3) := by decide +kernel
theorem dc4_12 : decode YC4.2.1 12 = .ok (.return_, 1) := by decide +kernel
def kM4 (a : Nat) (M : ts_M) : ts_M := (ts_wrR (ts_new M) a 0 (some M.2.2.2))
theorem kC4 (d : Nat) {a : Nat} {M : ts_M} (hsa : ts_sh a = (0, 7)) (ha : a < M.2.2.2) (hs0 : ts_sh M.2.2.2 = (1, 8)) (hN : M.2.2.2 + 1 ≤ 730) : ts_ev (d + 1) 4 [.inr (.inr (some a))] M = some (none, kM4 a M) := by
  refine cs_ev hYC4 (Nat.le_of_ble_eq_true rfl) ?_
  refine (cs_aload dc4_0 rfl).trans ?_
  refine (cs_obj dc4_1 rfl (by decide +kernel) (by decide)).trans ?_
  refine (cs_aload dc4_4 rfl).trans ?_
  refine (cs_bi (v := nI 8) dc4_5 (by decide +kernel)).trans ?_
  refine (cs_newI (M := M) (k := 8) dc4_7 rfl rfl (by decide) hs0 (show M.2.2.2 < 730 by omega)).trans ?_
  refine (cs_putR (M := (ts_new M)) (c := 7) (k := 0) dc4_9 rfl (by decide +kernel) rfl hsa (show a < (M.2.2.2 + 1) by omega) rfl).trans ?_
  exact cs_ret dc4_12 rfl
theorem kN4 {a : Nat} {M : ts_M} : (kM4 a M).2.2.2 = M.2.2.2 + 1 := rfl
abbrev YC5 : ts_Y := (yX3_init, cX3_init, 1, none, 3)
theorem hYC5 : ts_mL[5]? = some YC5 := rfl
theorem dc5_0 : decode YC5.2.1 0 = .ok (.aload_n 0, 1) := by decide +kernel
theorem dc5_1 : decode YC5.2.1 1 = .ok (.invokespecial 3, 3) := by decide +kernel
theorem dc5_4 : decode YC5.2.1 4 = .ok (.aload_n 0, 1) := by decide +kernel
theorem dc5_5 : decode YC5.2.1 5 = .ok (.bipush 8, 2) := by decide +kernel
theorem dc5_7 : decode YC5.2.1 7 = .ok (.newarray .int, 2) := by decide +kernel
theorem dc5_9 : decode YC5.2.1 9 = .ok (.putfield 9, 3) := by decide +kernel
theorem dc5_12 : decode YC5.2.1 12 = .ok (.aload_n 0, 1) := by decide +kernel
theorem dc5_13 : decode YC5.2.1 13 = .ok (.bipush 8, 2) := by decide +kernel
theorem dc5_15 : decode YC5.2.1 15 = .ok (.newarray .int, 2) := by decide +kernel
theorem dc5_17 : decode YC5.2.1 17 = .ok (.putfield 15, 3) := by decide +kernel
theorem dc5_20 : decode YC5.2.1 20 = .ok (.aload_n 0, 1) := by decide +kernel
theorem dc5_21 : decode YC5.2.1 21 = .ok (.bipush 8, 2) := by decide +kernel
theorem dc5_23 : decode YC5.2.1 23 = .ok (.newarray .int, 2) := by decide +kernel
theorem dc5_25 : decode YC5.2.1 25 = .ok (.putfield 18, 3) := by decide +kernel
theorem dc5_28 : decode YC5.2.1 28 = .ok (.return_, 1) := by decide +kernel
def kM5 (a : Nat) (M : ts_M) : ts_M := (ts_wrR (ts_new (ts_wrR (ts_new (ts_wrR (ts_new M) a 0 (some M.2.2.2))) a 1 (some (M.2.2.2 + 1)))) a 2 (some (M.2.2.2 + 2)))
theorem kC5 (d : Nat) {a : Nat} {M : ts_M} (hsa : ts_sh a = (0, 3)) (ha : a < M.2.2.2) (hs0 : ts_sh M.2.2.2 = (1, 8)) (hs1 : ts_sh (M.2.2.2 + 1) = (1, 8)) (hs2 : ts_sh (M.2.2.2 + 2) = (1, 8)) (hN : M.2.2.2 + 3 ≤ 730) : ts_ev (d + 1) 5 [.inr (.inr (some a))] M = some (none, kM5 a M) := by
  refine cs_ev hYC5 (Nat.le_of_ble_eq_true rfl) ?_
  refine (cs_aload dc5_0 rfl).trans ?_
  refine (cs_obj dc5_1 rfl (by decide +kernel) (by decide)).trans ?_
  refine (cs_aload dc5_4 rfl).trans ?_
  refine (cs_bi (v := nI 8) dc5_5 (by decide +kernel)).trans ?_
  refine (cs_newI (M := M) (k := 8) dc5_7 rfl rfl (by decide) hs0 (show M.2.2.2 < 730 by omega)).trans ?_
  refine (cs_putR (M := (ts_new M)) (c := 3) (k := 0) dc5_9 rfl (by decide +kernel) rfl hsa (show a < (M.2.2.2 + 1) by omega) rfl).trans ?_
  refine (cs_aload dc5_12 rfl).trans ?_
  refine (cs_bi (v := nI 8) dc5_13 (by decide +kernel)).trans ?_
  refine (cs_newI (M := (ts_wrR (ts_new M) a 0 (some M.2.2.2))) (k := 8) dc5_15 rfl rfl (by decide) hs1 (show (M.2.2.2 + 1) < 730 by omega)).trans ?_
  refine (cs_putR (M := (ts_new (ts_wrR (ts_new M) a 0 (some M.2.2.2)))) (c := 3) (k := 1) dc5_17 rfl (by decide +kernel) rfl hsa (show a < (M.2.2.2 + 2) by omega) rfl).trans ?_
  refine (cs_aload dc5_20 rfl).trans ?_
  refine (cs_bi (v := nI 8) dc5_21 (by decide +kernel)).trans ?_
  refine (cs_newI (M := (ts_wrR (ts_new (ts_wrR (ts_new M) a 0 (some M.2.2.2))) a 1 (some (M.2.2.2 + 1)))) (k := 8) dc5_23 rfl rfl (by decide) hs2 (show (M.2.2.2 + 2) < 730 by omega)).trans ?_
  refine (cs_putR (M := (ts_new (ts_wrR (ts_new (ts_wrR (ts_new M) a 0 (some M.2.2.2))) a 1 (some (M.2.2.2 + 1))))) (c := 3) (k := 2) dc5_25 rfl (by decide +kernel) rfl hsa (show a < (M.2.2.2 + 3) by omega) rfl).trans ?_
  exact cs_ret dc5_28 rfl
theorem kN5 {a : Nat} {M : ts_M} : (kM5 a M).2.2.2 = M.2.2.2 + 3 := rfl
abbrev YC6 : ts_Y := (yX9_init, cX9_init, 1, none, 9)
theorem hYC6 : ts_mL[6]? = some YC6 := rfl
theorem dc6_0 : decode YC6.2.1 0 = .ok (.aload_n 0, 1) := by decide +kernel
theorem dc6_1 : decode YC6.2.1 1 = .ok (.invokespecial 3, 3) := by decide +kernel
theorem dc6_4 : decode YC6.2.1 4 = .ok (.return_, 1) := by decide +kernel
def kM6 (a : Nat) (M : ts_M) : ts_M := M
theorem kC6 (d : Nat) {a : Nat} {M : ts_M} (hsa : ts_sh a = (0, 9)) (ha : a < M.2.2.2)  (hN : M.2.2.2 + 0 ≤ 730) : ts_ev (d + 1) 6 [.inr (.inr (some a))] M = some (none, kM6 a M) := by
  refine cs_ev hYC6 (Nat.le_of_ble_eq_true rfl) ?_
  refine (cs_aload dc6_0 rfl).trans ?_
  refine (cs_obj dc6_1 rfl (by decide +kernel) (by decide)).trans ?_
  exact cs_ret dc6_4 rfl
theorem kN6 {a : Nat} {M : ts_M} : (kM6 a M).2.2.2 = M.2.2.2 + 0 := rfl
abbrev YC1 : ts_Y := (yX6_init, cX6_init, 1, none, 6)
theorem hYC1 : ts_mL[1]? = some YC1 := rfl
theorem dc1_0 : decode YC1.2.1 0 = .ok (.aload_n 0, 1) := by decide +kernel
theorem dc1_1 : decode YC1.2.1 1 = .ok (.invokespecial 3, 3) := by decide +kernel
theorem dc1_4 : decode YC1.2.1 4 = .ok (.aload_n 0, 1) := by decide +kernel
theorem dc1_5 : decode YC1.2.1 5 = .ok (.new 9, 3) := by decide +kernel
theorem dc1_8 : decode YC1.2.1 8 = .ok (.dup, 1) := by decide +kernel
theorem dc1_9 : decode YC1.2.1 9 = .ok (.invokespecial 11, 3) := by decide +kernel
theorem dc1_12 : decode YC1.2.1 12 = .ok (.putfield 12, 3) := by decide +kernel
theorem dc1_15 : decode YC1.2.1 15 = .ok (.aload_n 0, 1) := by decide +kernel
theorem dc1_16 : decode YC1.2.1 16 = .ok (.iconst (-1), 1) := by decide +kernel
theorem dc1_17 : decode YC1.2.1 17 = .ok (.putfield 18, 3) := by decide +kernel
theorem dc1_20 : decode YC1.2.1 20 = .ok (.return_, 1) := by decide +kernel
def kM1 (a : Nat) (M : ts_M) : ts_M := (ts_wrI (ts_wrR (kM2 M.2.2.2 (ts_new M)) a 0 (some M.2.2.2)) a 2 (-1))
theorem kC1 (d : Nat) {a : Nat} {M : ts_M} (hsa : ts_sh a = (0, 6)) (ha : a < M.2.2.2) (hs0 : ts_sh M.2.2.2 = (0, 10)) (hs1 : ts_sh (M.2.2.2 + 1) = (1, 200)) (hN : M.2.2.2 + 2 ≤ 730) : ts_ev (d + 2) 1 [.inr (.inr (some a))] M = some (none, kM1 a M) := by
  refine cs_ev hYC1 (Nat.le_of_ble_eq_true rfl) ?_
  refine (cs_aload dc1_0 rfl).trans ?_
  refine (cs_obj dc1_1 rfl (by decide +kernel) (by decide)).trans ?_
  refine (cs_aload dc1_4 rfl).trans ?_
  refine (cs_new (M := M) (c := 10) dc1_5 rfl (by decide +kernel) hs0 (show M.2.2.2 < 730 by omega)).trans ?_
  refine (cs_dup dc1_8).trans ?_
  refine (cs_init (y := 2) (n := 0) (z := 1) dc1_9 rfl (by decide +kernel) (by decide +kernel) (by decide +kernel) rfl rfl (Nat.zero_le _) (Nat.le_of_ble_eq_true rfl) (kC2 d hs0 (show M.2.2.2 < (M.2.2.2 + 1) by omega) hs1 (show (M.2.2.2 + 1) + 1 ≤ 730 by omega))).trans ?_
  refine (cs_putR (M := (kM2 M.2.2.2 (ts_new M))) (c := 6) (k := 0) dc1_12 rfl (by decide +kernel) rfl hsa (show a < (M.2.2.2 + 2) by omega) rfl).trans ?_
  refine (cs_aload dc1_15 rfl).trans ?_
  refine (cs_ic (v := (-1 : Int32)) dc1_16 (by decide +kernel)).trans ?_
  refine (cs_putI (M := (ts_wrR (kM2 M.2.2.2 (ts_new M)) a 0 (some M.2.2.2))) (c := 6) (k := 2) dc1_17 rfl (by decide +kernel) rfl hsa (show a < (M.2.2.2 + 2) by omega) rfl).trans ?_
  exact cs_ret dc1_20 rfl
theorem kN1 {a : Nat} {M : ts_M} : (kM1 a M).2.2.2 = M.2.2.2 + 2 := rfl
abbrev YC177 : ts_Y := (yX12_init, cX12_init, 1, none, 12)
theorem hYC177 : ts_mL[177]? = some YC177 := rfl
theorem dc177_0 : decode YC177.2.1 0 = .ok (.aload_n 0, 1) := by decide +kernel
theorem dc177_1 : decode YC177.2.1 1 = .ok (.invokespecial 1, 3) := by decide +kernel
theorem dc177_4 : decode YC177.2.1 4 = .ok (.aload_n 0, 1) := by decide +kernel
theorem dc177_5 : decode YC177.2.1 5 = .ok (.sipush 626, 3) := by decide +kernel
theorem dc177_8 : decode YC177.2.1 8 = .ok (.newarray .int, 2) := by decide +kernel
theorem dc177_10 : decode YC177.2.1 10 = .ok (.putfield 7, 3) := by decide +kernel
theorem dc177_13 : decode YC177.2.1 13 = .ok (.aload_n 0, 1) := by decide +kernel
theorem dc177_14 : decode YC177.2.1 14 = .ok (.sipush 626, 3) := by decide +kernel
theorem dc177_17 : decode YC177.2.1 17 = .ok (.newarray .int, 2) := by decide +kernel
theorem dc177_19 : decode YC177.2.1 19 = .ok (.putfield 13, 3) := by decide +kernel
theorem dc177_22 : decode YC177.2.1 22 = .ok (.aload_n 0, 1) := by decide +kernel
theorem dc177_23 : decode YC177.2.1 23 = .ok (.sipush 5008, 3) := by decide +kernel
theorem dc177_26 : decode YC177.2.1 26 = .ok (.newarray .int, 2) := by decide +kernel
theorem dc177_28 : decode YC177.2.1 28 = .ok (.putfield 16, 3) := by decide +kernel
theorem dc177_31 : decode YC177.2.1 31 = .ok (.aload_n 0, 1) := by decide +kernel
theorem dc177_32 : decode YC177.2.1 32 = .ok (.bipush 12, 2) := by decide +kernel
theorem dc177_34 : decode YC177.2.1 34 = .ok (.newarray .int, 2) := by decide +kernel
theorem dc177_36 : decode YC177.2.1 36 = .ok (.putfield 19, 3) := by decide +kernel
theorem dc177_39 : decode YC177.2.1 39 = .ok (.aload_n 0, 1) := by decide +kernel
theorem dc177_40 : decode YC177.2.1 40 = .ok (.sipush 144, 3) := by decide +kernel
theorem dc177_43 : decode YC177.2.1 43 = .ok (.newarray .int, 2) := by decide +kernel
theorem dc177_45 : decode YC177.2.1 45 = .ok (.putfield 22, 3) := by decide +kernel
theorem dc177_48 : decode YC177.2.1 48 = .ok (.aload_n 0, 1) := by decide +kernel
theorem dc177_49 : decode YC177.2.1 49 = .ok (.bipush 6, 2) := by decide +kernel
theorem dc177_51 : decode YC177.2.1 51 = .ok (.newarray .int, 2) := by decide +kernel
theorem dc177_53 : decode YC177.2.1 53 = .ok (.putfield 25, 3) := by decide +kernel
theorem dc177_56 : decode YC177.2.1 56 = .ok (.aload_n 0, 1) := by decide +kernel
theorem dc177_57 : decode YC177.2.1 57 = .ok (.iconst 2, 1) := by decide +kernel
theorem dc177_58 : decode YC177.2.1 58 = .ok (.putfield 28, 3) := by decide +kernel
theorem dc177_61 : decode YC177.2.1 61 = .ok (.aload_n 0, 1) := by decide +kernel
theorem dc177_62 : decode YC177.2.1 62 = .ok (.sipush 200, 3) := by decide +kernel
theorem dc177_65 : decode YC177.2.1 65 = .ok (.newarray .byte, 2) := by decide +kernel
theorem dc177_67 : decode YC177.2.1 67 = .ok (.putfield 32, 3) := by decide +kernel
theorem dc177_70 : decode YC177.2.1 70 = .ok (.aload_n 0, 1) := by decide +kernel
theorem dc177_71 : decode YC177.2.1 71 = .ok (.bipush 32, 2) := by decide +kernel
theorem dc177_73 : decode YC177.2.1 73 = .ok (.newarray .long, 2) := by decide +kernel
theorem dc177_75 : decode YC177.2.1 75 = .ok (.putfield 36, 3) := by decide +kernel
theorem dc177_78 : decode YC177.2.1 78 = .ok (.aload_n 0, 1) := by decide +kernel
theorem dc177_79 : decode YC177.2.1 79 = .ok (.bipush 12, 2) := by decide +kernel
theorem dc177_81 : decode YC177.2.1 81 = .ok (.newarray .int, 2) := by decide +kernel
theorem dc177_83 : decode YC177.2.1 83 = .ok (.putfield 40, 3) := by decide +kernel
theorem dc177_86 : decode YC177.2.1 86 = .ok (.aload_n 0, 1) := by decide +kernel
theorem dc177_87 : decode YC177.2.1 87 = .ok (.sipush 144, 3) := by decide +kernel
theorem dc177_90 : decode YC177.2.1 90 = .ok (.newarray .int, 2) := by decide +kernel
theorem dc177_92 : decode YC177.2.1 92 = .ok (.putfield 43, 3) := by decide +kernel
theorem dc177_95 : decode YC177.2.1 95 = .ok (.aload_n 0, 1) := by decide +kernel
theorem dc177_96 : decode YC177.2.1 96 = .ok (.bipush 6, 2) := by decide +kernel
theorem dc177_98 : decode YC177.2.1 98 = .ok (.newarray .int, 2) := by decide +kernel
theorem dc177_100 : decode YC177.2.1 100 = .ok (.putfield 46, 3) := by decide +kernel
theorem dc177_103 : decode YC177.2.1 103 = .ok (.aload_n 0, 1) := by decide +kernel
theorem dc177_104 : decode YC177.2.1 104 = .ok (.bipush 8, 2) := by decide +kernel
theorem dc177_106 : decode YC177.2.1 106 = .ok (.newarray .int, 2) := by decide +kernel
theorem dc177_108 : decode YC177.2.1 108 = .ok (.putfield 49, 3) := by decide +kernel
theorem dc177_111 : decode YC177.2.1 111 = .ok (.aload_n 0, 1) := by decide +kernel
theorem dc177_112 : decode YC177.2.1 112 = .ok (.bipush 12, 2) := by decide +kernel
theorem dc177_114 : decode YC177.2.1 114 = .ok (.newarray .int, 2) := by decide +kernel
theorem dc177_116 : decode YC177.2.1 116 = .ok (.putfield 52, 3) := by decide +kernel
theorem dc177_119 : decode YC177.2.1 119 = .ok (.aload_n 0, 1) := by decide +kernel
theorem dc177_120 : decode YC177.2.1 120 = .ok (.bipush 8, 2) := by decide +kernel
theorem dc177_122 : decode YC177.2.1 122 = .ok (.newarray .int, 2) := by decide +kernel
theorem dc177_124 : decode YC177.2.1 124 = .ok (.putfield 55, 3) := by decide +kernel
theorem dc177_127 : decode YC177.2.1 127 = .ok (.aload_n 0, 1) := by decide +kernel
theorem dc177_128 : decode YC177.2.1 128 = .ok (.bipush 8, 2) := by decide +kernel
theorem dc177_130 : decode YC177.2.1 130 = .ok (.newarray .int, 2) := by decide +kernel
theorem dc177_132 : decode YC177.2.1 132 = .ok (.putfield 58, 3) := by decide +kernel
theorem dc177_135 : decode YC177.2.1 135 = .ok (.aload_n 0, 1) := by decide +kernel
theorem dc177_136 : decode YC177.2.1 136 = .ok (.bipush 8, 2) := by decide +kernel
theorem dc177_138 : decode YC177.2.1 138 = .ok (.newarray .int, 2) := by decide +kernel
theorem dc177_140 : decode YC177.2.1 140 = .ok (.putfield 61, 3) := by decide +kernel
theorem dc177_143 : decode YC177.2.1 143 = .ok (.aload_n 0, 1) := by decide +kernel
theorem dc177_144 : decode YC177.2.1 144 = .ok (.sipush 512, 3) := by decide +kernel
theorem dc177_147 : decode YC177.2.1 147 = .ok (.newarray .byte, 2) := by decide +kernel
theorem dc177_149 : decode YC177.2.1 149 = .ok (.putfield 64, 3) := by decide +kernel
theorem dc177_152 : decode YC177.2.1 152 = .ok (.return_, 1) := by decide +kernel
def kM177 (a : Nat) (M : ts_M) : ts_M := (ts_wrR (ts_new (ts_wrR (ts_new (ts_wrR (ts_new (ts_wrR (ts_new (ts_wrR (ts_new (ts_wrR (ts_new (ts_wrR (ts_new (ts_wrR (ts_new (ts_wrR (ts_new (ts_wrR (ts_new (ts_wrR (ts_new (ts_wrI (ts_wrR (ts_new (ts_wrR (ts_new (ts_wrR (ts_new (ts_wrR (ts_new (ts_wrR (ts_new (ts_wrR (ts_new M) a 0 (some M.2.2.2))) a 1 (some (M.2.2.2 + 1)))) a 3 (some (M.2.2.2 + 2)))) a 5 (some (M.2.2.2 + 3)))) a 6 (some (M.2.2.2 + 4)))) a 7 (some (M.2.2.2 + 5))) a 8 (nI 2))) a 11 (some (M.2.2.2 + 6)))) a 13 (some (M.2.2.2 + 7)))) a 20 (some (M.2.2.2 + 8)))) a 21 (some (M.2.2.2 + 9)))) a 23 (some (M.2.2.2 + 10)))) a 25 (some (M.2.2.2 + 11)))) a 28 (some (M.2.2.2 + 12)))) a 33 (some (M.2.2.2 + 13)))) a 34 (some (M.2.2.2 + 14)))) a 35 (some (M.2.2.2 + 15)))) a 37 (some (M.2.2.2 + 16)))
theorem kC177 (d : Nat) {a : Nat} {M : ts_M} (hsa : ts_sh a = (0, 12)) (ha : a < M.2.2.2) (hs0 : ts_sh M.2.2.2 = (1, 626)) (hs1 : ts_sh (M.2.2.2 + 1) = (1, 626)) (hs2 : ts_sh (M.2.2.2 + 2) = (1, 5008)) (hs3 : ts_sh (M.2.2.2 + 3) = (1, 12)) (hs4 : ts_sh (M.2.2.2 + 4) = (1, 144)) (hs5 : ts_sh (M.2.2.2 + 5) = (1, 6)) (hs6 : ts_sh (M.2.2.2 + 6) = (2, 200)) (hs7 : ts_sh (M.2.2.2 + 7) = (3, 32)) (hs8 : ts_sh (M.2.2.2 + 8) = (1, 12)) (hs9 : ts_sh (M.2.2.2 + 9) = (1, 144)) (hs10 : ts_sh (M.2.2.2 + 10) = (1, 6)) (hs11 : ts_sh (M.2.2.2 + 11) = (1, 8)) (hs12 : ts_sh (M.2.2.2 + 12) = (1, 12)) (hs13 : ts_sh (M.2.2.2 + 13) = (1, 8)) (hs14 : ts_sh (M.2.2.2 + 14) = (1, 8)) (hs15 : ts_sh (M.2.2.2 + 15) = (1, 8)) (hs16 : ts_sh (M.2.2.2 + 16) = (2, 512)) (hN : M.2.2.2 + 17 ≤ 730) : ts_ev (d + 1) 177 [.inr (.inr (some a))] M = some (none, kM177 a M) := by
  refine cs_ev hYC177 (Nat.le_of_ble_eq_true rfl) ?_
  refine (cs_aload dc177_0 rfl).trans ?_
  refine (cs_obj dc177_1 rfl (by decide +kernel) (by decide)).trans ?_
  refine (cs_aload dc177_4 rfl).trans ?_
  refine (cs_si (v := nI 626) dc177_5 (by decide +kernel)).trans ?_
  refine (cs_newI (M := M) (k := 626) dc177_8 rfl rfl (by decide) hs0 (show M.2.2.2 < 730 by omega)).trans ?_
  refine (cs_putR (M := (ts_new M)) (c := 12) (k := 0) dc177_10 rfl (by decide +kernel) rfl hsa (show a < (M.2.2.2 + 1) by omega) rfl).trans ?_
  refine (cs_aload dc177_13 rfl).trans ?_
  refine (cs_si (v := nI 626) dc177_14 (by decide +kernel)).trans ?_
  refine (cs_newI (M := (ts_wrR (ts_new M) a 0 (some M.2.2.2))) (k := 626) dc177_17 rfl rfl (by decide) hs1 (show (M.2.2.2 + 1) < 730 by omega)).trans ?_
  refine (cs_putR (M := (ts_new (ts_wrR (ts_new M) a 0 (some M.2.2.2)))) (c := 12) (k := 1) dc177_19 rfl (by decide +kernel) rfl hsa (show a < (M.2.2.2 + 2) by omega) rfl).trans ?_
  refine (cs_aload dc177_22 rfl).trans ?_
  refine (cs_si (v := nI 5008) dc177_23 (by decide +kernel)).trans ?_
  refine (cs_newI (M := (ts_wrR (ts_new (ts_wrR (ts_new M) a 0 (some M.2.2.2))) a 1 (some (M.2.2.2 + 1)))) (k := 5008) dc177_26 rfl rfl (by decide) hs2 (show (M.2.2.2 + 2) < 730 by omega)).trans ?_
  refine (cs_putR (M := (ts_new (ts_wrR (ts_new (ts_wrR (ts_new M) a 0 (some M.2.2.2))) a 1 (some (M.2.2.2 + 1))))) (c := 12) (k := 3) dc177_28 rfl (by decide +kernel) rfl hsa (show a < (M.2.2.2 + 3) by omega) rfl).trans ?_
  refine (cs_aload dc177_31 rfl).trans ?_
  refine (cs_bi (v := nI 12) dc177_32 (by decide +kernel)).trans ?_
  refine (cs_newI (M := (ts_wrR (ts_new (ts_wrR (ts_new (ts_wrR (ts_new M) a 0 (some M.2.2.2))) a 1 (some (M.2.2.2 + 1)))) a 3 (some (M.2.2.2 + 2)))) (k := 12) dc177_34 rfl rfl (by decide) hs3 (show (M.2.2.2 + 3) < 730 by omega)).trans ?_
  refine (cs_putR (M := (ts_new (ts_wrR (ts_new (ts_wrR (ts_new (ts_wrR (ts_new M) a 0 (some M.2.2.2))) a 1 (some (M.2.2.2 + 1)))) a 3 (some (M.2.2.2 + 2))))) (c := 12) (k := 5) dc177_36 rfl (by decide +kernel) rfl hsa (show a < (M.2.2.2 + 4) by omega) rfl).trans ?_
  refine (cs_aload dc177_39 rfl).trans ?_
  refine (cs_si (v := nI 144) dc177_40 (by decide +kernel)).trans ?_
  refine (cs_newI (M := (ts_wrR (ts_new (ts_wrR (ts_new (ts_wrR (ts_new (ts_wrR (ts_new M) a 0 (some M.2.2.2))) a 1 (some (M.2.2.2 + 1)))) a 3 (some (M.2.2.2 + 2)))) a 5 (some (M.2.2.2 + 3)))) (k := 144) dc177_43 rfl rfl (by decide) hs4 (show (M.2.2.2 + 4) < 730 by omega)).trans ?_
  refine (cs_putR (M := (ts_new (ts_wrR (ts_new (ts_wrR (ts_new (ts_wrR (ts_new (ts_wrR (ts_new M) a 0 (some M.2.2.2))) a 1 (some (M.2.2.2 + 1)))) a 3 (some (M.2.2.2 + 2)))) a 5 (some (M.2.2.2 + 3))))) (c := 12) (k := 6) dc177_45 rfl (by decide +kernel) rfl hsa (show a < (M.2.2.2 + 5) by omega) rfl).trans ?_
  refine (cs_aload dc177_48 rfl).trans ?_
  refine (cs_bi (v := nI 6) dc177_49 (by decide +kernel)).trans ?_
  refine (cs_newI (M := (ts_wrR (ts_new (ts_wrR (ts_new (ts_wrR (ts_new (ts_wrR (ts_new (ts_wrR (ts_new M) a 0 (some M.2.2.2))) a 1 (some (M.2.2.2 + 1)))) a 3 (some (M.2.2.2 + 2)))) a 5 (some (M.2.2.2 + 3)))) a 6 (some (M.2.2.2 + 4)))) (k := 6) dc177_51 rfl rfl (by decide) hs5 (show (M.2.2.2 + 5) < 730 by omega)).trans ?_
  refine (cs_putR (M := (ts_new (ts_wrR (ts_new (ts_wrR (ts_new (ts_wrR (ts_new (ts_wrR (ts_new (ts_wrR (ts_new M) a 0 (some M.2.2.2))) a 1 (some (M.2.2.2 + 1)))) a 3 (some (M.2.2.2 + 2)))) a 5 (some (M.2.2.2 + 3)))) a 6 (some (M.2.2.2 + 4))))) (c := 12) (k := 7) dc177_53 rfl (by decide +kernel) rfl hsa (show a < (M.2.2.2 + 6) by omega) rfl).trans ?_
  refine (cs_aload dc177_56 rfl).trans ?_
  refine (cs_ic (v := nI 2) dc177_57 (by decide +kernel)).trans ?_
  refine (cs_putI (M := (ts_wrR (ts_new (ts_wrR (ts_new (ts_wrR (ts_new (ts_wrR (ts_new (ts_wrR (ts_new (ts_wrR (ts_new M) a 0 (some M.2.2.2))) a 1 (some (M.2.2.2 + 1)))) a 3 (some (M.2.2.2 + 2)))) a 5 (some (M.2.2.2 + 3)))) a 6 (some (M.2.2.2 + 4)))) a 7 (some (M.2.2.2 + 5)))) (c := 12) (k := 8) dc177_58 rfl (by decide +kernel) rfl hsa (show a < (M.2.2.2 + 6) by omega) rfl).trans ?_
  refine (cs_aload dc177_61 rfl).trans ?_
  refine (cs_si (v := nI 200) dc177_62 (by decide +kernel)).trans ?_
  refine (cs_newB (M := (ts_wrI (ts_wrR (ts_new (ts_wrR (ts_new (ts_wrR (ts_new (ts_wrR (ts_new (ts_wrR (ts_new (ts_wrR (ts_new M) a 0 (some M.2.2.2))) a 1 (some (M.2.2.2 + 1)))) a 3 (some (M.2.2.2 + 2)))) a 5 (some (M.2.2.2 + 3)))) a 6 (some (M.2.2.2 + 4)))) a 7 (some (M.2.2.2 + 5))) a 8 (nI 2))) (k := 200) dc177_65 rfl rfl (by decide) hs6 (show (M.2.2.2 + 6) < 730 by omega)).trans ?_
  refine (cs_putR (M := (ts_new (ts_wrI (ts_wrR (ts_new (ts_wrR (ts_new (ts_wrR (ts_new (ts_wrR (ts_new (ts_wrR (ts_new (ts_wrR (ts_new M) a 0 (some M.2.2.2))) a 1 (some (M.2.2.2 + 1)))) a 3 (some (M.2.2.2 + 2)))) a 5 (some (M.2.2.2 + 3)))) a 6 (some (M.2.2.2 + 4)))) a 7 (some (M.2.2.2 + 5))) a 8 (nI 2)))) (c := 12) (k := 11) dc177_67 rfl (by decide +kernel) rfl hsa (show a < (M.2.2.2 + 7) by omega) rfl).trans ?_
  refine (cs_aload dc177_70 rfl).trans ?_
  refine (cs_bi (v := nI 32) dc177_71 (by decide +kernel)).trans ?_
  refine (cs_newL (M := (ts_wrR (ts_new (ts_wrI (ts_wrR (ts_new (ts_wrR (ts_new (ts_wrR (ts_new (ts_wrR (ts_new (ts_wrR (ts_new (ts_wrR (ts_new M) a 0 (some M.2.2.2))) a 1 (some (M.2.2.2 + 1)))) a 3 (some (M.2.2.2 + 2)))) a 5 (some (M.2.2.2 + 3)))) a 6 (some (M.2.2.2 + 4)))) a 7 (some (M.2.2.2 + 5))) a 8 (nI 2))) a 11 (some (M.2.2.2 + 6)))) (k := 32) dc177_73 rfl rfl (by decide) hs7 (show (M.2.2.2 + 7) < 730 by omega)).trans ?_
  refine (cs_putR (M := (ts_new (ts_wrR (ts_new (ts_wrI (ts_wrR (ts_new (ts_wrR (ts_new (ts_wrR (ts_new (ts_wrR (ts_new (ts_wrR (ts_new (ts_wrR (ts_new M) a 0 (some M.2.2.2))) a 1 (some (M.2.2.2 + 1)))) a 3 (some (M.2.2.2 + 2)))) a 5 (some (M.2.2.2 + 3)))) a 6 (some (M.2.2.2 + 4)))) a 7 (some (M.2.2.2 + 5))) a 8 (nI 2))) a 11 (some (M.2.2.2 + 6))))) (c := 12) (k := 13) dc177_75 rfl (by decide +kernel) rfl hsa (show a < (M.2.2.2 + 8) by omega) rfl).trans ?_
  refine (cs_aload dc177_78 rfl).trans ?_
  refine (cs_bi (v := nI 12) dc177_79 (by decide +kernel)).trans ?_
  refine (cs_newI (M := (ts_wrR (ts_new (ts_wrR (ts_new (ts_wrI (ts_wrR (ts_new (ts_wrR (ts_new (ts_wrR (ts_new (ts_wrR (ts_new (ts_wrR (ts_new (ts_wrR (ts_new M) a 0 (some M.2.2.2))) a 1 (some (M.2.2.2 + 1)))) a 3 (some (M.2.2.2 + 2)))) a 5 (some (M.2.2.2 + 3)))) a 6 (some (M.2.2.2 + 4)))) a 7 (some (M.2.2.2 + 5))) a 8 (nI 2))) a 11 (some (M.2.2.2 + 6)))) a 13 (some (M.2.2.2 + 7)))) (k := 12) dc177_81 rfl rfl (by decide) hs8 (show (M.2.2.2 + 8) < 730 by omega)).trans ?_
  refine (cs_putR (M := (ts_new (ts_wrR (ts_new (ts_wrR (ts_new (ts_wrI (ts_wrR (ts_new (ts_wrR (ts_new (ts_wrR (ts_new (ts_wrR (ts_new (ts_wrR (ts_new (ts_wrR (ts_new M) a 0 (some M.2.2.2))) a 1 (some (M.2.2.2 + 1)))) a 3 (some (M.2.2.2 + 2)))) a 5 (some (M.2.2.2 + 3)))) a 6 (some (M.2.2.2 + 4)))) a 7 (some (M.2.2.2 + 5))) a 8 (nI 2))) a 11 (some (M.2.2.2 + 6)))) a 13 (some (M.2.2.2 + 7))))) (c := 12) (k := 20) dc177_83 rfl (by decide +kernel) rfl hsa (show a < (M.2.2.2 + 9) by omega) rfl).trans ?_
  refine (cs_aload dc177_86 rfl).trans ?_
  refine (cs_si (v := nI 144) dc177_87 (by decide +kernel)).trans ?_
  refine (cs_newI (M := (ts_wrR (ts_new (ts_wrR (ts_new (ts_wrR (ts_new (ts_wrI (ts_wrR (ts_new (ts_wrR (ts_new (ts_wrR (ts_new (ts_wrR (ts_new (ts_wrR (ts_new (ts_wrR (ts_new M) a 0 (some M.2.2.2))) a 1 (some (M.2.2.2 + 1)))) a 3 (some (M.2.2.2 + 2)))) a 5 (some (M.2.2.2 + 3)))) a 6 (some (M.2.2.2 + 4)))) a 7 (some (M.2.2.2 + 5))) a 8 (nI 2))) a 11 (some (M.2.2.2 + 6)))) a 13 (some (M.2.2.2 + 7)))) a 20 (some (M.2.2.2 + 8)))) (k := 144) dc177_90 rfl rfl (by decide) hs9 (show (M.2.2.2 + 9) < 730 by omega)).trans ?_
  refine (cs_putR (M := (ts_new (ts_wrR (ts_new (ts_wrR (ts_new (ts_wrR (ts_new (ts_wrI (ts_wrR (ts_new (ts_wrR (ts_new (ts_wrR (ts_new (ts_wrR (ts_new (ts_wrR (ts_new (ts_wrR (ts_new M) a 0 (some M.2.2.2))) a 1 (some (M.2.2.2 + 1)))) a 3 (some (M.2.2.2 + 2)))) a 5 (some (M.2.2.2 + 3)))) a 6 (some (M.2.2.2 + 4)))) a 7 (some (M.2.2.2 + 5))) a 8 (nI 2))) a 11 (some (M.2.2.2 + 6)))) a 13 (some (M.2.2.2 + 7)))) a 20 (some (M.2.2.2 + 8))))) (c := 12) (k := 21) dc177_92 rfl (by decide +kernel) rfl hsa (show a < (M.2.2.2 + 10) by omega) rfl).trans ?_
  refine (cs_aload dc177_95 rfl).trans ?_
  refine (cs_bi (v := nI 6) dc177_96 (by decide +kernel)).trans ?_
  refine (cs_newI (M := (ts_wrR (ts_new (ts_wrR (ts_new (ts_wrR (ts_new (ts_wrR (ts_new (ts_wrI (ts_wrR (ts_new (ts_wrR (ts_new (ts_wrR (ts_new (ts_wrR (ts_new (ts_wrR (ts_new (ts_wrR (ts_new M) a 0 (some M.2.2.2))) a 1 (some (M.2.2.2 + 1)))) a 3 (some (M.2.2.2 + 2)))) a 5 (some (M.2.2.2 + 3)))) a 6 (some (M.2.2.2 + 4)))) a 7 (some (M.2.2.2 + 5))) a 8 (nI 2))) a 11 (some (M.2.2.2 + 6)))) a 13 (some (M.2.2.2 + 7)))) a 20 (some (M.2.2.2 + 8)))) a 21 (some (M.2.2.2 + 9)))) (k := 6) dc177_98 rfl rfl (by decide) hs10 (show (M.2.2.2 + 10) < 730 by omega)).trans ?_
  refine (cs_putR (M := (ts_new (ts_wrR (ts_new (ts_wrR (ts_new (ts_wrR (ts_new (ts_wrR (ts_new (ts_wrI (ts_wrR (ts_new (ts_wrR (ts_new (ts_wrR (ts_new (ts_wrR (ts_new (ts_wrR (ts_new (ts_wrR (ts_new M) a 0 (some M.2.2.2))) a 1 (some (M.2.2.2 + 1)))) a 3 (some (M.2.2.2 + 2)))) a 5 (some (M.2.2.2 + 3)))) a 6 (some (M.2.2.2 + 4)))) a 7 (some (M.2.2.2 + 5))) a 8 (nI 2))) a 11 (some (M.2.2.2 + 6)))) a 13 (some (M.2.2.2 + 7)))) a 20 (some (M.2.2.2 + 8)))) a 21 (some (M.2.2.2 + 9))))) (c := 12) (k := 23) dc177_100 rfl (by decide +kernel) rfl hsa (show a < (M.2.2.2 + 11) by omega) rfl).trans ?_
  refine (cs_aload dc177_103 rfl).trans ?_
  refine (cs_bi (v := nI 8) dc177_104 (by decide +kernel)).trans ?_
  refine (cs_newI (M := (ts_wrR (ts_new (ts_wrR (ts_new (ts_wrR (ts_new (ts_wrR (ts_new (ts_wrR (ts_new (ts_wrI (ts_wrR (ts_new (ts_wrR (ts_new (ts_wrR (ts_new (ts_wrR (ts_new (ts_wrR (ts_new (ts_wrR (ts_new M) a 0 (some M.2.2.2))) a 1 (some (M.2.2.2 + 1)))) a 3 (some (M.2.2.2 + 2)))) a 5 (some (M.2.2.2 + 3)))) a 6 (some (M.2.2.2 + 4)))) a 7 (some (M.2.2.2 + 5))) a 8 (nI 2))) a 11 (some (M.2.2.2 + 6)))) a 13 (some (M.2.2.2 + 7)))) a 20 (some (M.2.2.2 + 8)))) a 21 (some (M.2.2.2 + 9)))) a 23 (some (M.2.2.2 + 10)))) (k := 8) dc177_106 rfl rfl (by decide) hs11 (show (M.2.2.2 + 11) < 730 by omega)).trans ?_
  refine (cs_putR (M := (ts_new (ts_wrR (ts_new (ts_wrR (ts_new (ts_wrR (ts_new (ts_wrR (ts_new (ts_wrR (ts_new (ts_wrI (ts_wrR (ts_new (ts_wrR (ts_new (ts_wrR (ts_new (ts_wrR (ts_new (ts_wrR (ts_new (ts_wrR (ts_new M) a 0 (some M.2.2.2))) a 1 (some (M.2.2.2 + 1)))) a 3 (some (M.2.2.2 + 2)))) a 5 (some (M.2.2.2 + 3)))) a 6 (some (M.2.2.2 + 4)))) a 7 (some (M.2.2.2 + 5))) a 8 (nI 2))) a 11 (some (M.2.2.2 + 6)))) a 13 (some (M.2.2.2 + 7)))) a 20 (some (M.2.2.2 + 8)))) a 21 (some (M.2.2.2 + 9)))) a 23 (some (M.2.2.2 + 10))))) (c := 12) (k := 25) dc177_108 rfl (by decide +kernel) rfl hsa (show a < (M.2.2.2 + 12) by omega) rfl).trans ?_
  refine (cs_aload dc177_111 rfl).trans ?_
  refine (cs_bi (v := nI 12) dc177_112 (by decide +kernel)).trans ?_
  refine (cs_newI (M := (ts_wrR (ts_new (ts_wrR (ts_new (ts_wrR (ts_new (ts_wrR (ts_new (ts_wrR (ts_new (ts_wrR (ts_new (ts_wrI (ts_wrR (ts_new (ts_wrR (ts_new (ts_wrR (ts_new (ts_wrR (ts_new (ts_wrR (ts_new (ts_wrR (ts_new M) a 0 (some M.2.2.2))) a 1 (some (M.2.2.2 + 1)))) a 3 (some (M.2.2.2 + 2)))) a 5 (some (M.2.2.2 + 3)))) a 6 (some (M.2.2.2 + 4)))) a 7 (some (M.2.2.2 + 5))) a 8 (nI 2))) a 11 (some (M.2.2.2 + 6)))) a 13 (some (M.2.2.2 + 7)))) a 20 (some (M.2.2.2 + 8)))) a 21 (some (M.2.2.2 + 9)))) a 23 (some (M.2.2.2 + 10)))) a 25 (some (M.2.2.2 + 11)))) (k := 12) dc177_114 rfl rfl (by decide) hs12 (show (M.2.2.2 + 12) < 730 by omega)).trans ?_
  refine (cs_putR (M := (ts_new (ts_wrR (ts_new (ts_wrR (ts_new (ts_wrR (ts_new (ts_wrR (ts_new (ts_wrR (ts_new (ts_wrR (ts_new (ts_wrI (ts_wrR (ts_new (ts_wrR (ts_new (ts_wrR (ts_new (ts_wrR (ts_new (ts_wrR (ts_new (ts_wrR (ts_new M) a 0 (some M.2.2.2))) a 1 (some (M.2.2.2 + 1)))) a 3 (some (M.2.2.2 + 2)))) a 5 (some (M.2.2.2 + 3)))) a 6 (some (M.2.2.2 + 4)))) a 7 (some (M.2.2.2 + 5))) a 8 (nI 2))) a 11 (some (M.2.2.2 + 6)))) a 13 (some (M.2.2.2 + 7)))) a 20 (some (M.2.2.2 + 8)))) a 21 (some (M.2.2.2 + 9)))) a 23 (some (M.2.2.2 + 10)))) a 25 (some (M.2.2.2 + 11))))) (c := 12) (k := 28) dc177_116 rfl (by decide +kernel) rfl hsa (show a < (M.2.2.2 + 13) by omega) rfl).trans ?_
  refine (cs_aload dc177_119 rfl).trans ?_
  refine (cs_bi (v := nI 8) dc177_120 (by decide +kernel)).trans ?_
  refine (cs_newI (M := (ts_wrR (ts_new (ts_wrR (ts_new (ts_wrR (ts_new (ts_wrR (ts_new (ts_wrR (ts_new (ts_wrR (ts_new (ts_wrR (ts_new (ts_wrI (ts_wrR (ts_new (ts_wrR (ts_new (ts_wrR (ts_new (ts_wrR (ts_new (ts_wrR (ts_new (ts_wrR (ts_new M) a 0 (some M.2.2.2))) a 1 (some (M.2.2.2 + 1)))) a 3 (some (M.2.2.2 + 2)))) a 5 (some (M.2.2.2 + 3)))) a 6 (some (M.2.2.2 + 4)))) a 7 (some (M.2.2.2 + 5))) a 8 (nI 2))) a 11 (some (M.2.2.2 + 6)))) a 13 (some (M.2.2.2 + 7)))) a 20 (some (M.2.2.2 + 8)))) a 21 (some (M.2.2.2 + 9)))) a 23 (some (M.2.2.2 + 10)))) a 25 (some (M.2.2.2 + 11)))) a 28 (some (M.2.2.2 + 12)))) (k := 8) dc177_122 rfl rfl (by decide) hs13 (show (M.2.2.2 + 13) < 730 by omega)).trans ?_
  refine (cs_putR (M := (ts_new (ts_wrR (ts_new (ts_wrR (ts_new (ts_wrR (ts_new (ts_wrR (ts_new (ts_wrR (ts_new (ts_wrR (ts_new (ts_wrR (ts_new (ts_wrI (ts_wrR (ts_new (ts_wrR (ts_new (ts_wrR (ts_new (ts_wrR (ts_new (ts_wrR (ts_new (ts_wrR (ts_new M) a 0 (some M.2.2.2))) a 1 (some (M.2.2.2 + 1)))) a 3 (some (M.2.2.2 + 2)))) a 5 (some (M.2.2.2 + 3)))) a 6 (some (M.2.2.2 + 4)))) a 7 (some (M.2.2.2 + 5))) a 8 (nI 2))) a 11 (some (M.2.2.2 + 6)))) a 13 (some (M.2.2.2 + 7)))) a 20 (some (M.2.2.2 + 8)))) a 21 (some (M.2.2.2 + 9)))) a 23 (some (M.2.2.2 + 10)))) a 25 (some (M.2.2.2 + 11)))) a 28 (some (M.2.2.2 + 12))))) (c := 12) (k := 33) dc177_124 rfl (by decide +kernel) rfl hsa (show a < (M.2.2.2 + 14) by omega) rfl).trans ?_
  refine (cs_aload dc177_127 rfl).trans ?_
  refine (cs_bi (v := nI 8) dc177_128 (by decide +kernel)).trans ?_
  refine (cs_newI (M := (ts_wrR (ts_new (ts_wrR (ts_new (ts_wrR (ts_new (ts_wrR (ts_new (ts_wrR (ts_new (ts_wrR (ts_new (ts_wrR (ts_new (ts_wrR (ts_new (ts_wrI (ts_wrR (ts_new (ts_wrR (ts_new (ts_wrR (ts_new (ts_wrR (ts_new (ts_wrR (ts_new (ts_wrR (ts_new M) a 0 (some M.2.2.2))) a 1 (some (M.2.2.2 + 1)))) a 3 (some (M.2.2.2 + 2)))) a 5 (some (M.2.2.2 + 3)))) a 6 (some (M.2.2.2 + 4)))) a 7 (some (M.2.2.2 + 5))) a 8 (nI 2))) a 11 (some (M.2.2.2 + 6)))) a 13 (some (M.2.2.2 + 7)))) a 20 (some (M.2.2.2 + 8)))) a 21 (some (M.2.2.2 + 9)))) a 23 (some (M.2.2.2 + 10)))) a 25 (some (M.2.2.2 + 11)))) a 28 (some (M.2.2.2 + 12)))) a 33 (some (M.2.2.2 + 13)))) (k := 8) dc177_130 rfl rfl (by decide) hs14 (show (M.2.2.2 + 14) < 730 by omega)).trans ?_
  refine (cs_putR (M := (ts_new (ts_wrR (ts_new (ts_wrR (ts_new (ts_wrR (ts_new (ts_wrR (ts_new (ts_wrR (ts_new (ts_wrR (ts_new (ts_wrR (ts_new (ts_wrR (ts_new (ts_wrI (ts_wrR (ts_new (ts_wrR (ts_new (ts_wrR (ts_new (ts_wrR (ts_new (ts_wrR (ts_new (ts_wrR (ts_new M) a 0 (some M.2.2.2))) a 1 (some (M.2.2.2 + 1)))) a 3 (some (M.2.2.2 + 2)))) a 5 (some (M.2.2.2 + 3)))) a 6 (some (M.2.2.2 + 4)))) a 7 (some (M.2.2.2 + 5))) a 8 (nI 2))) a 11 (some (M.2.2.2 + 6)))) a 13 (some (M.2.2.2 + 7)))) a 20 (some (M.2.2.2 + 8)))) a 21 (some (M.2.2.2 + 9)))) a 23 (some (M.2.2.2 + 10)))) a 25 (some (M.2.2.2 + 11)))) a 28 (some (M.2.2.2 + 12)))) a 33 (some (M.2.2.2 + 13))))) (c := 12) (k := 34) dc177_132 rfl (by decide +kernel) rfl hsa (show a < (M.2.2.2 + 15) by omega) rfl).trans ?_
  refine (cs_aload dc177_135 rfl).trans ?_
  refine (cs_bi (v := nI 8) dc177_136 (by decide +kernel)).trans ?_
  refine (cs_newI (M := (ts_wrR (ts_new (ts_wrR (ts_new (ts_wrR (ts_new (ts_wrR (ts_new (ts_wrR (ts_new (ts_wrR (ts_new (ts_wrR (ts_new (ts_wrR (ts_new (ts_wrR (ts_new (ts_wrI (ts_wrR (ts_new (ts_wrR (ts_new (ts_wrR (ts_new (ts_wrR (ts_new (ts_wrR (ts_new (ts_wrR (ts_new M) a 0 (some M.2.2.2))) a 1 (some (M.2.2.2 + 1)))) a 3 (some (M.2.2.2 + 2)))) a 5 (some (M.2.2.2 + 3)))) a 6 (some (M.2.2.2 + 4)))) a 7 (some (M.2.2.2 + 5))) a 8 (nI 2))) a 11 (some (M.2.2.2 + 6)))) a 13 (some (M.2.2.2 + 7)))) a 20 (some (M.2.2.2 + 8)))) a 21 (some (M.2.2.2 + 9)))) a 23 (some (M.2.2.2 + 10)))) a 25 (some (M.2.2.2 + 11)))) a 28 (some (M.2.2.2 + 12)))) a 33 (some (M.2.2.2 + 13)))) a 34 (some (M.2.2.2 + 14)))) (k := 8) dc177_138 rfl rfl (by decide) hs15 (show (M.2.2.2 + 15) < 730 by omega)).trans ?_
  refine (cs_putR (M := (ts_new (ts_wrR (ts_new (ts_wrR (ts_new (ts_wrR (ts_new (ts_wrR (ts_new (ts_wrR (ts_new (ts_wrR (ts_new (ts_wrR (ts_new (ts_wrR (ts_new (ts_wrR (ts_new (ts_wrI (ts_wrR (ts_new (ts_wrR (ts_new (ts_wrR (ts_new (ts_wrR (ts_new (ts_wrR (ts_new (ts_wrR (ts_new M) a 0 (some M.2.2.2))) a 1 (some (M.2.2.2 + 1)))) a 3 (some (M.2.2.2 + 2)))) a 5 (some (M.2.2.2 + 3)))) a 6 (some (M.2.2.2 + 4)))) a 7 (some (M.2.2.2 + 5))) a 8 (nI 2))) a 11 (some (M.2.2.2 + 6)))) a 13 (some (M.2.2.2 + 7)))) a 20 (some (M.2.2.2 + 8)))) a 21 (some (M.2.2.2 + 9)))) a 23 (some (M.2.2.2 + 10)))) a 25 (some (M.2.2.2 + 11)))) a 28 (some (M.2.2.2 + 12)))) a 33 (some (M.2.2.2 + 13)))) a 34 (some (M.2.2.2 + 14))))) (c := 12) (k := 35) dc177_140 rfl (by decide +kernel) rfl hsa (show a < (M.2.2.2 + 16) by omega) rfl).trans ?_
  refine (cs_aload dc177_143 rfl).trans ?_
  refine (cs_si (v := nI 512) dc177_144 (by decide +kernel)).trans ?_
  refine (cs_newB (M := (ts_wrR (ts_new (ts_wrR (ts_new (ts_wrR (ts_new (ts_wrR (ts_new (ts_wrR (ts_new (ts_wrR (ts_new (ts_wrR (ts_new (ts_wrR (ts_new (ts_wrR (ts_new (ts_wrR (ts_new (ts_wrI (ts_wrR (ts_new (ts_wrR (ts_new (ts_wrR (ts_new (ts_wrR (ts_new (ts_wrR (ts_new (ts_wrR (ts_new M) a 0 (some M.2.2.2))) a 1 (some (M.2.2.2 + 1)))) a 3 (some (M.2.2.2 + 2)))) a 5 (some (M.2.2.2 + 3)))) a 6 (some (M.2.2.2 + 4)))) a 7 (some (M.2.2.2 + 5))) a 8 (nI 2))) a 11 (some (M.2.2.2 + 6)))) a 13 (some (M.2.2.2 + 7)))) a 20 (some (M.2.2.2 + 8)))) a 21 (some (M.2.2.2 + 9)))) a 23 (some (M.2.2.2 + 10)))) a 25 (some (M.2.2.2 + 11)))) a 28 (some (M.2.2.2 + 12)))) a 33 (some (M.2.2.2 + 13)))) a 34 (some (M.2.2.2 + 14)))) a 35 (some (M.2.2.2 + 15)))) (k := 512) dc177_147 rfl rfl (by decide) hs16 (show (M.2.2.2 + 16) < 730 by omega)).trans ?_
  refine (cs_putR (M := (ts_new (ts_wrR (ts_new (ts_wrR (ts_new (ts_wrR (ts_new (ts_wrR (ts_new (ts_wrR (ts_new (ts_wrR (ts_new (ts_wrR (ts_new (ts_wrR (ts_new (ts_wrR (ts_new (ts_wrR (ts_new (ts_wrI (ts_wrR (ts_new (ts_wrR (ts_new (ts_wrR (ts_new (ts_wrR (ts_new (ts_wrR (ts_new (ts_wrR (ts_new M) a 0 (some M.2.2.2))) a 1 (some (M.2.2.2 + 1)))) a 3 (some (M.2.2.2 + 2)))) a 5 (some (M.2.2.2 + 3)))) a 6 (some (M.2.2.2 + 4)))) a 7 (some (M.2.2.2 + 5))) a 8 (nI 2))) a 11 (some (M.2.2.2 + 6)))) a 13 (some (M.2.2.2 + 7)))) a 20 (some (M.2.2.2 + 8)))) a 21 (some (M.2.2.2 + 9)))) a 23 (some (M.2.2.2 + 10)))) a 25 (some (M.2.2.2 + 11)))) a 28 (some (M.2.2.2 + 12)))) a 33 (some (M.2.2.2 + 13)))) a 34 (some (M.2.2.2 + 14)))) a 35 (some (M.2.2.2 + 15))))) (c := 12) (k := 37) dc177_149 rfl (by decide +kernel) rfl hsa (show a < (M.2.2.2 + 17) by omega) rfl).trans ?_
  exact cs_ret dc177_152 rfl
theorem kN177 {a : Nat} {M : ts_M} : (kM177 a M).2.2.2 = M.2.2.2 + 17 := rfl

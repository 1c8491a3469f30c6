/-! ===== the constructors that make rows alone ===== -/
abbrev YC8 : ts_Y := (yX0_init, cX0_init, 1, none, 0)
theorem hYC8 : ts_mL[8]? = some YC8 := rfl
theorem dc8_0 : decode YC8.2.1 0 = .ok (.aload_n 0, 1) := by decide +kernel
theorem dc8_1 : decode YC8.2.1 1 = .ok (.invokespecial 3, 3) := by decide +kernel
theorem dc8_4 : decode YC8.2.1 4 = .ok (.aload_n 0, 1) := by decide +kernel
theorem dc8_5 : decode YC8.2.1 5 = .ok (.bipush 30, 2) := by decide +kernel
theorem dc8_7 : decode YC8.2.1 7 = .ok (.newarray .int, 2) := by decide +kernel
theorem dc8_9 : decode YC8.2.1 9 = .ok (.putfield 9, 3) := by decide +kernel
theorem dc8_12 : decode YC8.2.1 12 = .ok (.aload_n 0, 1) := by decide +kernel
theorem dc8_13 : decode YC8.2.1 13 = .ok (.bipush 30, 2) := by decide +kernel
theorem dc8_15 : decode YC8.2.1 15 = .ok (.newarray .int, 2) := by decide +kernel
theorem dc8_17 : decode YC8.2.1 17 = .ok (.putfield 15, 3) := by decide +kernel
theorem dc8_20 : decode YC8.2.1 20 = .ok (.aload_n 0, 1) := by decide +kernel
theorem dc8_21 : decode YC8.2.1 21 = .ok (.bipush 30, 2) := by decide +kernel
theorem dc8_23 : decode YC8.2.1 23 = .ok (.newarray .int, 2) := by decide +kernel
theorem dc8_25 : decode YC8.2.1 25 = .ok (.putfield 18, 3) := by decide +kernel
theorem dc8_28 : decode YC8.2.1 28 = .ok (.return_, 1) := by decide +kernel
def kM8 (a : Nat) (M : ts_M) : ts_M := (ts_wrR (ts_new (ts_wrR (ts_new (ts_wrR (ts_new M) a 0 (some M.2.2.2))) a 1 (some (M.2.2.2 + 1)))) a 2 (some (M.2.2.2 + 2)))
theorem kC8 (d : Nat) {a : Nat} {M : ts_M} (hsa : ts_sh a = (0, 0)) (ha : a < M.2.2.2) (hs0 : ts_sh M.2.2.2 = (1, 30)) (hs1 : ts_sh (M.2.2.2 + 1) = (1, 30)) (hs2 : ts_sh (M.2.2.2 + 2) = (1, 30)) (hN : M.2.2.2 + 3 ≤ 711) : ts_ev (d + 1) 8 [.inr (.inr (some a))] M = some (none, kM8 a M) := by
  refine cs_ev hYC8 (Nat.le_of_ble_eq_true rfl) ?_
  refine (cs_aload dc8_0 rfl).trans ?_
  refine (cs_obj dc8_1 rfl (by decide +kernel) (by decide)).trans ?_
  refine (cs_aload dc8_4 rfl).trans ?_
  refine (cs_bi (v := nI 30) dc8_5 (by decide +kernel)).trans ?_
  refine (cs_newI (M := M) (k := 30) dc8_7 rfl rfl (by decide) hs0 (show M.2.2.2 < 711 by omega)).trans ?_
  refine (cs_putR (M := (ts_new M)) (c := 0) (k := 0) dc8_9 rfl (by decide +kernel) rfl hsa (show a < (M.2.2.2 + 1) by omega) rfl).trans ?_
  refine (cs_aload dc8_12 rfl).trans ?_
  refine (cs_bi (v := nI 30) dc8_13 (by decide +kernel)).trans ?_
  refine (cs_newI (M := (ts_wrR (ts_new M) a 0 (some M.2.2.2))) (k := 30) dc8_15 rfl rfl (by decide) hs1 (show (M.2.2.2 + 1) < 711 by omega)).trans ?_
  refine (cs_putR (M := (ts_new (ts_wrR (ts_new M) a 0 (some M.2.2.2)))) (c := 0) (k := 1) dc8_17 rfl (by decide +kernel) rfl hsa (show a < (M.2.2.2 + 2) by omega) rfl).trans ?_
  refine (cs_aload dc8_20 rfl).trans ?_
  refine (cs_bi (v := nI 30) dc8_21 (by decide +kernel)).trans ?_
  refine (cs_newI (M := (ts_wrR (ts_new (ts_wrR (ts_new M) a 0 (some M.2.2.2))) a 1 (some (M.2.2.2 + 1)))) (k := 30) dc8_23 rfl rfl (by decide) hs2 (show (M.2.2.2 + 2) < 711 by omega)).trans ?_
  refine (cs_putR (M := (ts_new (ts_wrR (ts_new (ts_wrR (ts_new M) a 0 (some M.2.2.2))) a 1 (some (M.2.2.2 + 1))))) (c := 0) (k := 2) dc8_25 rfl (by decide +kernel) rfl hsa (show a < (M.2.2.2 + 3) by omega) rfl).trans ?_
  exact cs_ret dc8_28 rfl
theorem kN8 {a : Nat} {M : ts_M} : (kM8 a M).2.2.2 = M.2.2.2 + 3 := rfl
abbrev YC9 : ts_Y := (yX4_init, cX4_init, 2, none, 4)
theorem hYC9 : ts_mL[9]? = some YC9 := rfl
theorem dc9_0 : decode YC9.2.1 0 = .ok (.aload_n 0, 1) := by decide +kernel
theorem dc9_1 : decode YC9.2.1 1 = .ok (.invokespecial 3, 3) := by decide +kernel
theorem dc9_4 : decode YC9.2.1 4 = .ok (.aload_n 0, 1) := by decide +kernel
theorem dc9_5 : decode YC9.2.1 5 = .ok (.iconst (-1), 1) := by decide +kernel
theorem dc9_6 : decode YC9.2.1 6 = .ok (.putfield 9, 3) := by decide +kernel
theorem dc9_9 : decode YC9.2.1 9 = .ok (.aload_n 0, 1) := by decide +kernel
theorem dc9_10 : decode YC9.2.1 10 = .ok (.bipush 8, 2) := by decide +kernel
theorem dc9_12 : decode YC9.2.1 12 = .ok (.newarray .int, 2) := by decide +kernel
theorem dc9_14 : decode YC9.2.1 14 = .ok (.putfield 15, 3) := by decide +kernel
theorem dc9_17 : decode YC9.2.1 17 = .ok (.aload_n 0, 1) := by decide +kernel
theorem dc9_18 : decode YC9.2.1 18 = .ok (.bipush 8, 2) := by decide +kernel
theorem dc9_20 : decode YC9.2.1 20 = .ok (.newarray .int, 2) := by decide +kernel
theorem dc9_22 : decode YC9.2.1 22 = .ok (.putfield 19, 3) := by decide +kernel
theorem dc9_25 : decode YC9.2.1 25 = .ok (.aload_n 0, 1) := by decide +kernel
theorem dc9_26 : decode YC9.2.1 26 = .ok (.iload_n 1, 1) := by decide +kernel
theorem dc9_27 : decode YC9.2.1 27 = .ok (.putfield 22, 3) := by decide +kernel
theorem dc9_30 : decode YC9.2.1 30 = .ok (.return_, 1) := by decide +kernel
def kM9 (a : Nat) (x : Int32) (M : ts_M) : ts_M := (ts_wrI (ts_wrR (ts_new (ts_wrR (ts_new (ts_wrI M a 7 (-1))) a 12 (some M.2.2.2))) a 13 (some (M.2.2.2 + 1))) a 0 x)
theorem kC9 (d : Nat) {a : Nat} {x : Int32} {M : ts_M} (hsa : ts_sh a = (0, 4)) (ha : a < M.2.2.2) (hs0 : ts_sh M.2.2.2 = (1, 8)) (hs1 : ts_sh (M.2.2.2 + 1) = (1, 8)) (hN : M.2.2.2 + 2 ≤ 711) : ts_ev (d + 1) 9 [.inr (.inr (some a)), .inl x] M = some (none, kM9 a x M) := by
  refine cs_ev hYC9 (Nat.le_of_ble_eq_true rfl) ?_
  refine (cs_aload dc9_0 rfl).trans ?_
  refine (cs_obj dc9_1 rfl (by decide +kernel) (by decide)).trans ?_
  refine (cs_aload dc9_4 rfl).trans ?_
  refine (cs_ic (v := (-1 : Int32)) dc9_5 (by decide +kernel)).trans ?_
  refine (cs_putI (M := M) (c := 4) (k := 7) dc9_6 rfl (by decide +kernel) rfl hsa (show a < M.2.2.2 by omega) rfl).trans ?_
  refine (cs_aload dc9_9 rfl).trans ?_
  refine (cs_bi (v := nI 8) dc9_10 (by decide +kernel)).trans ?_
  refine (cs_newI (M := (ts_wrI M a 7 (-1))) (k := 8) dc9_12 rfl rfl (by decide) hs0 (show M.2.2.2 < 711 by omega)).trans ?_
  refine (cs_putR (M := (ts_new (ts_wrI M a 7 (-1)))) (c := 4) (k := 12) dc9_14 rfl (by decide +kernel) rfl hsa (show a < (M.2.2.2 + 1) by omega) rfl).trans ?_
  refine (cs_aload dc9_17 rfl).trans ?_
  refine (cs_bi (v := nI 8) dc9_18 (by decide +kernel)).trans ?_
  refine (cs_newI (M := (ts_wrR (ts_new (ts_wrI M a 7 (-1))) a 12 (some M.2.2.2))) (k := 8) dc9_20 rfl rfl (by decide) hs1 (show (M.2.2.2 + 1) < 711 by omega)).trans ?_
  refine (cs_putR (M := (ts_new (ts_wrR (ts_new (ts_wrI M a 7 (-1))) a 12 (some M.2.2.2)))) (c := 4) (k := 13) dc9_22 rfl (by decide +kernel) rfl hsa (show a < (M.2.2.2 + 2) by omega) rfl).trans ?_
  refine (cs_aload dc9_25 rfl).trans ?_
  refine (cs_iload dc9_26 rfl).trans ?_
  refine (cs_putI (M := (ts_wrR (ts_new (ts_wrR (ts_new (ts_wrI M a 7 (-1))) a 12 (some M.2.2.2))) a 13 (some (M.2.2.2 + 1)))) (c := 4) (k := 0) dc9_27 rfl (by decide +kernel) rfl hsa (show a < (M.2.2.2 + 2) by omega) rfl).trans ?_
  exact cs_ret dc9_30 rfl
theorem kN9 {a : Nat} {x : Int32} {M : ts_M} : (kM9 a x M).2.2.2 = M.2.2.2 + 2 := rfl
abbrev YC2 : ts_Y := (yX10_init, cX10_init, 1, none, 10)
theorem hYC2 : ts_mL[2]? = some YC2 := rfl
theorem dc2_0 : decode YC2.2.1 0 = .ok (.aload_n 0, 1) := by decide +kernel
theorem dc2_1 : decode YC2.2.1 1 = .ok (.invokespecial 3, 3) := by decide +kernel
theorem dc2_4 : decode YC2.2.1 4 = .ok (.aload_n 0, 1) := by decide +kernel
theorem dc2_5 : decode YC2.2.1 5 = .ok (.sipush 200, 3) := by decide +kernel
theorem dc2_8 : decode YC2.2.1 8 = .ok (.newarray .int, 2) := by decide +kernel
theorem dc2_10 : decode YC2.2.1 10 = .ok (.putfield 9, 3) := by decide +kernel
theorem dc2_13 : decode YC2.2.1 13 = .ok (.return_, 1) := by decide +kernel
def kM2 (a : Nat) (M : ts_M) : ts_M := (ts_wrR (ts_new M) a 0 (some M.2.2.2))
theorem kC2 (d : Nat) {a : Nat} {M : ts_M} (hsa : ts_sh a = (0, 10)) (ha : a < M.2.2.2) (hs0 : ts_sh M.2.2.2 = (1, 200)) (hN : M.2.2.2 + 1 ≤ 711) : ts_ev (d + 1) 2 [.inr (.inr (some a))] M = some (none, kM2 a M) := by
  refine cs_ev hYC2 (Nat.le_of_ble_eq_true rfl) ?_
  refine (cs_aload dc2_0 rfl).trans ?_
  refine (cs_obj dc2_1 rfl (by decide +kernel) (by decide)).trans ?_
  refine (cs_aload dc2_4 rfl).trans ?_
  refine (cs_si (v := nI 200) dc2_5 (by decide +kernel)).trans ?_
  refine (cs_newI (M := M) (k := 200) dc2_8 rfl rfl (by decide) hs0 (show M.2.2.2 < 711 by omega)).trans ?_
  refine (cs_putR (M := (ts_new M)) (c := 10) (k := 0) dc2_10 rfl (by decide +kernel) rfl hsa (show a < (M.2.2.2 + 1) by omega) rfl).trans ?_
  exact cs_ret dc2_13 rfl
theorem kN2 {a : Nat} {M : ts_M} : (kM2 a M).2.2.2 = M.2.2.2 + 1 := rfl
abbrev YC3 : ts_Y := (yX8_init, cX8_init, 1, none, 8)
theorem hYC3 : ts_mL[3]? = some YC3 := rfl
theorem dc3_0 : decode YC3.2.1 0 = .ok (.aload_n 0, 1) := by decide +kernel
theorem dc3_1 : decode YC3.2.1 1 = .ok (.invokespecial 3, 3) := by decide +kernel
theorem dc3_4 : decode YC3.2.1 4 = .ok (.aload_n 0, 1) := by decide +kernel
theorem dc3_5 : decode YC3.2.1 5 = .ok (.bipush 12, 2) := by decide +kernel
theorem dc3_7 : decode YC3.2.1 7 = .ok (.newarray .int, 2) := by decide +kernel
theorem dc3_9 : decode YC3.2.1 9 = .ok (.putfield 9, 3) := by decide +kernel
theorem dc3_12 : decode YC3.2.1 12 = .ok (.return_, 1) := by decide +kernel
def kM3 (a : Nat) (M : ts_M) : ts_M := (ts_wrR (ts_new M) a 0 (some M.2.2.2))
theorem kC3 (d : Nat) {a : Nat} {M : ts_M} (hsa : ts_sh a = (0, 8)) (ha : a < M.2.2.2) (hs0 : ts_sh M.2.2.2 = (1, 12)) (hN : M.2.2.2 + 1 ≤ 711) : ts_ev (d + 1) 3 [.inr (.inr (some a))] M = some (none, kM3 a M) := by
  refine cs_ev hYC3 (Nat.le_of_ble_eq_true rfl) ?_
  refine (cs_aload dc3_0 rfl).trans ?_
  refine (cs_obj dc3_1 rfl (by decide +kernel) (by decide)).trans ?_
  refine (cs_aload dc3_4 rfl).trans ?_
  refine (cs_bi (v := nI 12) dc3_5 (by decide +kernel)).trans ?_
  refine (cs_newI (M := M) (k := 12) dc3_7 rfl rfl (by decide) hs0 (show M.2.2.2 < 711 by omega)).trans ?_
  refine (cs_putR (M := (ts_new M)) (c := 8) (k := 0) dc3_9 rfl (by decide +kernel) rfl hsa (show a < (M.2.2.2 + 1) by omega) rfl).trans ?_
  exact cs_ret dc3_12 rfl
theorem kN3 {a : Nat} {M : ts_M} : (kM3 a M).2.2.2 = M.2.2.2 + 1 := rfl
abbrev YC4 : ts_Y := (yX7_init, cX7_init, 1, none, 7)
theorem hYC4 : ts_mL[4]? = some YC4 := rfl
theorem dc4_0 : decode YC4.2.1 0 = .ok (.aload_n 0, 1) := by decide +kernel
theorem dc4_1 : decode YC4.2.1 1 = .ok (.invokespecial 3, 3) := by decide +kernel
theorem dc4_4 : decode YC4.2.1 4 = .ok (.aload_n 0, 1) := by decide +kernel
theorem dc4_5 : decode YC4.2.1 5 = .ok (.bipush 8, 2) := by decide +kernel
theorem dc4_7 : decode YC4.2.1 7 = .ok (.newarray .int, 2) := by decide +kernel
theorem dc4_9 : decode YC4.2.1 9 = .ok (.putfield 9, 3) := by decide +kernel
theorem dc4_12 : decode YC4.2.1 12 = .ok (.return_, 1) := by decide +kernel
def kM4 (a : Nat) (M : ts_M) : ts_M := (ts_wrR (ts_new M) a 0 (some M.2.2.2))
theorem kC4 (d : Nat) {a : Nat} {M : ts_M} (hsa : ts_sh a = (0, 7)) (ha : a < M.2.2.2) (hs0 : ts_sh M.2.2.2 = (1, 8)) (hN : M.2.2.2 + 1 ≤ 711) : ts_ev (d + 1) 4 [.inr (.inr (some a))] M = some (none, kM4 a M) := by
  refine cs_ev hYC4 (Nat.le_of_ble_eq_true rfl) ?_
  refine (cs_aload dc4_0 rfl).trans ?_
  refine (cs_obj dc4_1 rfl (by decide +kernel) (by decide)).trans ?_
  refine (cs_aload dc4_4 rfl).trans ?_
  refine (cs_bi (v := nI 8) dc4_5 (by decide +kernel)).trans ?_
  refine (cs_newI (M := M) (k := 8) dc4_7 rfl rfl (by decide) hs0 (show M.2.2.2 < 711 by omega)).trans ?_
  refine (cs_putR (M := (ts_new M)) (c := 7) (k := 0) dc4_9 rfl (by decide +kernel) rfl hsa (show a < (M.2.2.2 + 1) by omega) rfl).trans ?_
  exact cs_ret dc4_12 rfl
theorem kN4 {a : Nat} {M : ts_M} : (kM4 a M).2.2.2 = M.2.2.2 + 1 := rfl
abbrev YC5 : ts_Y := (yX3_init, cX3_init, 1, none, 3)
theorem hYC5 : ts_mL[5]? = some YC5 := rfl
theorem dc5_0 : decode YC5.2.1 0 = .ok (.aload_n 0, 1) := by decide +kernel
theorem dc5_1 : decode YC5.2.1 1 = .ok (.invokespecial 3, 3) := by decide +kernel
theorem dc5_4 : decode YC5.2.1 4 = .ok (.aload_n 0, 1) := by decide +kernel
theorem dc5_5 : decode YC5.2.1 5 = .ok (.bipush 8, 2) := by decide +kernel
theorem dc5_7 : decode YC5.2.1 7 = .ok (.newarray .int, 2) := by decide +kernel
theorem dc5_9 : decode YC5.2.1 9 = .ok (.putfield 9, 3) := by decide +kernel
theorem dc5_12 : decode YC5.2.1 12 = .ok (.aload_n 0, 1) := by decide +kernel
theorem dc5_13 : decode YC5.2.1 13 = .ok (.bipush 8, 2) := by decide +kernel
theorem dc5_15 : decode YC5.2.1 15 = .ok (.newarray .int, 2) := by decide +kernel
theorem dc5_17 : decode YC5.2.1 17 = .ok (.putfield 15, 3) := by decide +kernel
theorem dc5_20 : decode YC5.2.1 20 = .ok (.aload_n 0, 1) := by decide +kernel
theorem dc5_21 : decode YC5.2.1 21 = .ok (.bipush 8, 2) := by decide +kernel
theorem dc5_23 : decode YC5.2.1 23 = .ok (.newarray .int, 2) := by decide +kernel
theorem dc5_25 : decode YC5.2.1 25 = .ok (.putfield 18, 3) := by decide +kernel
theorem dc5_28 : decode YC5.2.1 28 = .ok (.return_, 1) := by decide +kernel
def kM5 (a : Nat) (M : ts_M) : ts_M := (ts_wrR (ts_new (ts_wrR (ts_new (ts_wrR (ts_new M) a 0 (some M.2.2.2))) a 1 (some (M.2.2.2 + 1)))) a 2 (some (M.2.2.2 + 2)))
theorem kC5 (d : Nat) {a : Nat} {M : ts_M} (hsa : ts_sh a = (0, 3)) (ha : a < M.2.2.2) (hs0 : ts_sh M.2.2.2 = (1, 8)) (hs1 : ts_sh (M.2.2.2 + 1) = (1, 8)) (hs2 : ts_sh (M.2.2.2 + 2) = (1, 8)) (hN : M.2.2.2 + 3 ≤ 711) : ts_ev (d + 1) 5 [.inr (.inr (some a))] M = some (none, kM5 a M) := by
  refine cs_ev hYC5 (Nat.le_of_ble_eq_true rfl) ?_
  refine (cs_aload dc5_0 rfl).trans ?_
  refine (cs_obj dc5_1 rfl (by decide +kernel) (by decide)).trans ?_
  refine (cs_aload dc5_4 rfl).trans ?_
  refine (cs_bi (v := nI 8) dc5_5 (by decide +kernel)).trans ?_
  refine (cs_newI (M := M) (k := 8) dc5_7 rfl rfl (by decide) hs0 (show M.2.2.2 < 711 by omega)).trans ?_
  refine (cs_putR (M := (ts_new M)) (c := 3) (k := 0) dc5_9 rfl (by decide +kernel) rfl hsa (show a < (M.2.2.2 + 1) by omega) rfl).trans ?_
  refine (cs_aload dc5_12 rfl).trans ?_
  refine (cs_bi (v := nI 8) dc5_13 (by decide +kernel)).trans ?_
  refine (cs_newI (M := (ts_wrR (ts_new M) a 0 (some M.2.2.2))) (k := 8) dc5_15 rfl rfl (by decide) hs1 (show (M.2.2.2 + 1) < 711 by omega)).trans ?_
  refine (cs_putR (M := (ts_new (ts_wrR (ts_new M) a 0 (some M.2.2.2)))) (c := 3) (k := 1) dc5_17 rfl (by decide +kernel) rfl hsa (show a < (M.2.2.2 + 2) by omega) rfl).trans ?_
  refine (cs_aload dc5_20 rfl).trans ?_
  refine (cs_bi (v := nI 8) dc5_21 (by decide +kernel)).trans ?_
  refine (cs_newI (M := (ts_wrR (ts_new (ts_wrR (ts_new M) a 0 (some M.2.2.2))) a 1 (some (M.2.2.2 + 1)))) (k := 8) dc5_23 rfl rfl (by decide) hs2 (show (M.2.2.2 + 2) < 711 by omega)).trans ?_
  refine (cs_putR (M := (ts_new (ts_wrR (ts_new (ts_wrR (ts_new M) a 0 (some M.2.2.2))) a 1 (some (M.2.2.2 + 1))))) (c := 3) (k := 2) dc5_25 rfl (by decide +kernel) rfl hsa (show a < (M.2.2.2 + 3) by omega) rfl).trans ?_
  exact cs_ret dc5_28 rfl
theorem kN5 {a : Nat} {M : ts_M} : (kM5 a M).2.2.2 = M.2.2.2 + 3 := rfl
abbrev YC6 : ts_Y := (yX9_init, cX9_init, 1, none, 9)
theorem hYC6 : ts_mL[6]? = some YC6 := rfl
theorem dc6_0 : decode YC6.2.1 0 = .ok (.aload_n 0, 1) := by decide +kernel
theorem dc6_1 : decode YC6.2.1 1 = .ok (.invokespecial 3, 3) := by decide +kernel
theorem dc6_4 : decode YC6.2.1 4 = .ok (.return_, 1) := by decide +kernel
def kM6 (a : Nat) (M : ts_M) : ts_M := M
theorem kC6 (d : Nat) {a : Nat} {M : ts_M} (hsa : ts_sh a = (0, 9)) (ha : a < M.2.2.2)  (hN : M.2.2.2 + 0 ≤ 711) : ts_ev (d + 1) 6 [.inr (.inr (some a))] M = some (none, kM6 a M) := by
  refine cs_ev hYC6 (Nat.le_of_ble_eq_true rfl) ?_
  refine (cs_aload dc6_0 rfl).trans ?_
  refine (cs_obj dc6_1 rfl (by decide +kernel) (by decide)).trans ?_
  exact cs_ret dc6_4 rfl
theorem kN6 {a : Nat} {M : ts_M} : (kM6 a M).2.2.2 = M.2.2.2 + 0 := rfl
abbrev YC1 : ts_Y := (yX6_init, cX6_init, 1, none, 6)
theorem hYC1 : ts_mL[1]? = some YC1 := rfl
theorem dc1_0 : decode YC1.2.1 0 = .ok (.aload_n 0, 1) := by decide +kernel
theorem dc1_1 : decode YC1.2.1 1 = .ok (.invokespecial 3, 3) := by decide +kernel
theorem dc1_4 : decode YC1.2.1 4 = .ok (.aload_n 0, 1) := by decide +kernel
theorem dc1_5 : decode YC1.2.1 5 = .ok (.new 9, 3) := by decide +kernel
theorem dc1_8 : decode YC1.2.1 8 = .ok (.dup, 1) := by decide +kernel
theorem dc1_9 : decode YC1.2.1 9 = .ok (.invokespecial 11, 3) := by decide +kernel
theorem dc1_12 : decode YC1.2.1 12 = .ok (.putfield 12, 3) := by decide +kernel
theorem dc1_15 : decode YC1.2.1 15 = .ok (.aload_n 0, 1) := by decide +kernel
theorem dc1_16 : decode YC1.2.1 16 = .ok (.iconst (-1), 1) := by decide +kernel
theorem dc1_17 : decode YC1.2.1 17 = .ok (.putfield 18, 3) := by decide +kernel
theorem dc1_20 : decode YC1.2.1 20 = .ok (.return_, 1) := by decide +kernel
def kM1 (a : Nat) (M : ts_M) : ts_M := (ts_wrI (ts_wrR (kM2 M.2.2.2 (ts_new M)) a 0 (some M.2.2.2)) a 2 (-1))
theorem kC1 (d : Nat) {a : Nat} {M : ts_M} (hsa : ts_sh a = (0, 6)) (ha : a < M.2.2.2) (hs0 : ts_sh M.2.2.2 = (0, 10)) (hs1 : ts_sh (M.2.2.2 + 1) = (1, 200)) (hN : M.2.2.2 + 2 ≤ 711) : ts_ev (d + 2) 1 [.inr (.inr (some a))] M = some (none, kM1 a M) := by
  refine cs_ev hYC1 (Nat.le_of_ble_eq_true rfl) ?_
  refine (cs_aload dc1_0 rfl).trans ?_
  refine (cs_obj dc1_1 rfl (by decide +kernel) (by decide)).trans ?_
  refine (cs_aload dc1_4 rfl).trans ?_
  refine (cs_new (M := M) (c := 10) dc1_5 rfl (by decide +kernel) hs0 (show M.2.2.2 < 711 by omega)).trans ?_
  refine (cs_dup dc1_8).trans ?_
  refine (cs_init (y := 2) (n := 0) (z := 1) dc1_9 rfl (by decide +kernel) (by decide +kernel) (by decide +kernel) rfl rfl (Nat.zero_le _) (Nat.le_of_ble_eq_true rfl) (kC2 d hs0 (show M.2.2.2 < (M.2.2.2 + 1) by omega) hs1 (show (M.2.2.2 + 1) + 1 ≤ 711 by omega))).trans ?_
  refine (cs_putR (M := (kM2 M.2.2.2 (ts_new M))) (c := 6) (k := 0) dc1_12 rfl (by decide +kernel) rfl hsa (show a < (M.2.2.2 + 2) by omega) rfl).trans ?_
  refine (cs_aload dc1_15 rfl).trans ?_
  refine (cs_ic (v := (-1 : Int32)) dc1_16 (by decide +kernel)).trans ?_
  refine (cs_putI (M := (ts_wrR (kM2 M.2.2.2 (ts_new M)) a 0 (some M.2.2.2))) (c := 6) (k := 2) dc1_17 rfl (by decide +kernel) rfl hsa (show a < (M.2.2.2 + 2) by omega) rfl).trans ?_
  exact cs_ret dc1_20 rfl
theorem kN1 {a : Nat} {M : ts_M} : (kM1 a M).2.2.2 = M.2.2.2 + 2 := rfl

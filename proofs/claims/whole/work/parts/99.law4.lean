/-! ===== the law's cases, its switch ===== -/
section LAW
variable {p : Program} {l : Launch} {e : Env} {s : State} {m : MethodId} {below : List Frame} {meth : Method} {c : Code} {b L : Nat} {xs : Nat → Int32} {D : va_G} {B : Nat} {cA : Nat → ClassId} {H : Heap} {locs : List Loc} {cells slots : Nat} {Q : State → Prop}
def wz_G (p : Program) (l : Launch) (e : Env) (s : State) (m : MethodId) (below : List Frame) (meth : Method) (c : Code) (b : Nat) (D : va_G) (B : Nat) (cA : Nat → ClassId) (L : Nat) (xs : Nat → Int32) (i T : Nat) (u : lt_m) (H : Heap) (locs : List Loc) (ls : Array Slot) (cells slots : Nat) (Q : State → Prop) : Prop := l.stackTraces = false ∧ LW p s m c b L xs D B cA ∧ i + 4 ≤ L ∧ RR dsD wlD T u ∧ T + 40 < 2 ^ 30 ∧ cells + 1 ≤ room_1.cells ∧ slots + 6 ≤ room_1.slots ∧ ts_Wd D B cA (ts_fl u) H ∧ va_S (fun q : Nat => B ≤ q) s.heap H locs ∧ lv_has ls 8 (wz_lv b B i) ∧ ∀ T', T' ≤ T + 40 → wz_K p l e s m below meth c b D B cA (cells + 1) (slots + 6) Q i T' 1478
theorem wz_t0 {i T : Nat} {u : lt_m} {ls : Array Slot} (X : wz_G p l e s m below meth c b D B cA L xs i T u H locs ls cells slots Q) : W p l e room_1 s m #[Value.ref b] below meth c H locs cells slots Q (F0 m 228 ls []) := by
  obtain ⟨hfl, G, hi, hr, hT, hc, hs, hW, hS, hl, kk⟩ := X
  exact W.widen (k := cells + 1) (n := slots + 6) (by omega) (by omega) (wz_c1 G (pc := 228) (y := 26) (z := 179) (x1 := 19) (x2 := 23) (off := 1230) ⟨by decide +kernel, by decide +kernel, by decide +kernel, by decide +kernel, by decide +kernel, by decide +kernel, by decide +kernel, by decide⟩ (by decide +kernel) (by decide +kernel) kd_26 hi (op_sign 0 hr _) hc hs hW hS hl (kk _ (by omega)))
theorem wz_t1 {i T : Nat} {u : lt_m} {ls : Array Slot} (X : wz_G p l e s m below meth c b D B cA L xs i T u H locs ls cells slots Q) : W p l e room_1 s m #[Value.ref b] below meth c H locs cells slots Q (F0 m 253 ls []) := by
  obtain ⟨hfl, G, hi, hr, hT, hc, hs, hW, hS, hl, kk⟩ := X
  exact W.widen (k := cells + 1) (n := slots + 6) (by omega) (by omega) (wz_c1 G (pc := 253) (y := 28) (z := 180) (x1 := 24) (x2 := 28) (off := 1205) ⟨by decide +kernel, by decide +kernel, by decide +kernel, by decide +kernel, by decide +kernel, by decide +kernel, by decide +kernel, by decide⟩ (by decide +kernel) (by decide +kernel) kd_28 hi (op_end 0 hr _) hc hs hW hS hl (kk _ (by omega)))
theorem wz_t2 {i T : Nat} {u : lt_m} {ls : Array Slot} (X : wz_G p l e s m below meth c b D B cA L xs i T u H locs ls cells slots Q) : W p l e room_1 s m #[Value.ref b] below meth c H locs cells slots Q (F0 m 278 ls []) := by
  obtain ⟨hfl, G, hi, hr, hT, hc, hs, hW, hS, hl, kk⟩ := X
  exact W.widen (k := cells + 1) (n := slots + 6) (by omega) (by omega) (wz_c0 G (pc := 278) (y := 29) (z := 182) (x1 := 29) (x2 := 33) (off := 1192) ⟨by decide +kernel, by decide +kernel, by decide +kernel, by decide +kernel, by decide +kernel, by decide⟩ (by decide +kernel) (by decide +kernel) kd_29 hi (op_net 0 hr) hc hs hW hS hl (kk _ (by omega)))
theorem wz_t3 {i T : Nat} {u : lt_m} {ls : Array Slot} (X : wz_G p l e s m below meth c b D B cA L xs i T u H locs ls cells slots Q) : W p l e room_1 s m #[Value.ref b] below meth c H locs cells slots Q (F0 m 291 ls []) := by
  obtain ⟨hfl, G, hi, hr, hT, hc, hs, hW, hS, hl, kk⟩ := X
  exact W.widen (k := cells + 1) (n := slots + 6) (by omega) (by omega) (wz_c2 G (pc := 291) (y := 57) (z := 192) (x1 := 34) (x2 := 38) (off := 1155) ⟨by decide +kernel, by decide +kernel, by decide +kernel, by decide +kernel, by decide +kernel, by decide +kernel, by decide +kernel, by decide +kernel, by decide +kernel, by decide⟩ (by decide +kernel) (by decide +kernel) kd_57 hi (op_road 0 hr _ _) hc hs hW hS hl (kk _ (by omega)))
theorem wz_t4 {i T : Nat} {u : lt_m} {ls : Array Slot} (X : wz_G p l e s m below meth c b D B cA L xs i T u H locs ls cells slots Q) : W p l e room_1 s m #[Value.ref b] below meth c H locs cells slots Q (F0 m 328 ls []) := by
  obtain ⟨hfl, G, hi, hr, hT, hc, hs, hW, hS, hl, kk⟩ := X
  exact W.widen (k := cells + 1) (n := slots + 6) (by omega) (by omega) (wz_c2 G (pc := 328) (y := 58) (z := 195) (x1 := 39) (x2 := 42) (off := 1118) ⟨by decide +kernel, by decide +kernel, by decide +kernel, by decide +kernel, by decide +kernel, by decide +kernel, by decide +kernel, by decide +kernel, by decide +kernel, by decide⟩ (by decide +kernel) (by decide +kernel) kd_58 hi (op_office 0 hr _ _) hc hs hW hS hl (kk _ (by omega)))
theorem wz_t5 {i T : Nat} {u : lt_m} {ls : Array Slot} (X : wz_G p l e s m below meth c b D B cA L xs i T u H locs ls cells slots Q) : W p l e room_1 s m #[Value.ref b] below meth c H locs cells slots Q (F0 m 365 ls []) := by
  obtain ⟨hfl, G, hi, hr, hT, hc, hs, hW, hS, hl, kk⟩ := X
  exact W.widen (k := cells + 1) (n := slots + 6) (by omega) (by omega) (wz_c2 G (pc := 365) (y := 66) (z := 200) (x1 := 43) (x2 := 46) (off := 1081) ⟨by decide +kernel, by decide +kernel, by decide +kernel, by decide +kernel, by decide +kernel, by decide +kernel, by decide +kernel, by decide +kernel, by decide +kernel, by decide⟩ (by decide +kernel) (by decide +kernel) kd_66 hi (op_way 0 hr _ _) hc hs hW hS hl (kk _ (by omega)))
theorem wz_t6 {i T : Nat} {u : lt_m} {ls : Array Slot} (X : wz_G p l e s m below meth c b D B cA L xs i T u H locs ls cells slots Q) : W p l e room_1 s m #[Value.ref b] below meth c H locs cells slots Q (F0 m 402 ls []) := by
  obtain ⟨hfl, G, hi, hr, hT, hc, hs, hW, hS, hl, kk⟩ := X
  exact W.widen (k := cells + 1) (n := slots + 6) (by omega) (by omega) (wz_c2 G (pc := 402) (y := 70) (z := 203) (x1 := 47) (x2 := 50) (off := 1044) ⟨by decide +kernel, by decide +kernel, by decide +kernel, by decide +kernel, by decide +kernel, by decide +kernel, by decide +kernel, by decide +kernel, by decide +kernel, by decide⟩ (by decide +kernel) (by decide +kernel) kd_70 hi (op_routes 0 hr _ _) hc hs hW hS hl (kk _ (by omega)))
theorem wz_t7 {i T : Nat} {u : lt_m} {ls : Array Slot} (X : wz_G p l e s m below meth c b D B cA L xs i T u H locs ls cells slots Q) : W p l e room_1 s m #[Value.ref b] below meth c H locs cells slots Q (F0 m 439 ls []) := by
  obtain ⟨hfl, G, hi, hr, hT, hc, hs, hW, hS, hl, kk⟩ := X
  exact W.widen (k := cells + 1) (n := slots + 6) (by omega) (by omega) (wz_c2 G (pc := 439) (y := 76) (z := 208) (x1 := 51) (x2 := 54) (off := 1007) ⟨by decide +kernel, by decide +kernel, by decide +kernel, by decide +kernel, by decide +kernel, by decide +kernel, by decide +kernel, by decide +kernel, by decide +kernel, by decide⟩ (by decide +kernel) (by decide +kernel) kd_76 hi (op_gates 0 hr _ _) hc hs hW hS hl (kk _ (by omega)))
theorem wz_t8 {i T : Nat} {u : lt_m} {ls : Array Slot} (X : wz_G p l e s m below meth c b D B cA L xs i T u H locs ls cells slots Q) : W p l e room_1 s m #[Value.ref b] below meth c H locs cells slots Q (F0 m 476 ls []) := by
  obtain ⟨hfl, G, hi, hr, hT, hc, hs, hW, hS, hl, kk⟩ := X
  exact W.widen (k := cells + 1) (n := slots + 6) (by omega) (by omega) (wz_c2 G (pc := 476) (y := 78) (z := 209) (x1 := 55) (x2 := 58) (off := 970) ⟨by decide +kernel, by decide +kernel, by decide +kernel, by decide +kernel, by decide +kernel, by decide +kernel, by decide +kernel, by decide +kernel, by decide +kernel, by decide⟩ (by decide +kernel) (by decide +kernel) kd_78 hi (op_trader 0 hr _ _) hc hs hW hS hl (kk _ (by omega)))
theorem wz_t9 {i T : Nat} {u : lt_m} {ls : Array Slot} (X : wz_G p l e s m below meth c b D B cA L xs i T u H locs ls cells slots Q) : W p l e room_1 s m #[Value.ref b] below meth c H locs cells slots Q (F0 m 513 ls []) := by
  obtain ⟨hfl, G, hi, hr, hT, hc, hs, hW, hS, hl, kk⟩ := X
  exact W.widen (k := cells + 1) (n := slots + 6) (by omega) (by omega) (wz_c3 G (pc := 513) (y := 89) (z := 212) (x1 := 59) (x2 := 63) (off := 921) ⟨by decide +kernel, by decide +kernel, by decide +kernel, by decide +kernel, by decide +kernel, by decide +kernel, by decide +kernel, by decide +kernel, by decide +kernel, by decide +kernel, by decide +kernel, by decide⟩ (by decide +kernel) (by decide +kernel) kd_89 hi (op_sums 0 hr _ _ _) hc hs hW hS hl (kk _ (by omega)))
theorem wz_t10 {i T : Nat} {u : lt_m} {ls : Array Slot} (X : wz_G p l e s m below meth c b D B cA L xs i T u H locs ls cells slots Q) : W p l e room_1 s m #[Value.ref b] below meth c H locs cells slots Q (F0 m 562 ls []) := by
  obtain ⟨hfl, G, hi, hr, hT, hc, hs, hW, hS, hl, kk⟩ := X
  exact W.widen (k := cells + 1) (n := slots + 6) (by omega) (by omega) (wz_c1 G (pc := 562) (y := 93) (z := 216) (x1 := 64) (x2 := 67) (off := 896) ⟨by decide +kernel, by decide +kernel, by decide +kernel, by decide +kernel, by decide +kernel, by decide +kernel, by decide +kernel, by decide⟩ (by decide +kernel) (by decide +kernel) kd_93 hi (op_inUse 0 hr _) hc hs hW hS hl (kk _ (by omega)))
theorem wz_t11 {i T : Nat} {u : lt_m} {ls : Array Slot} (X : wz_G p l e s m below meth c b D B cA L xs i T u H locs ls cells slots Q) : W p l e room_1 s m #[Value.ref b] below meth c H locs cells slots Q (F0 m 587 ls []) := by
  obtain ⟨hfl, G, hi, hr, hT, hc, hs, hW, hS, hl, kk⟩ := X
  exact W.widen (k := cells + 1) (n := slots + 6) (by omega) (by omega) (wz_c1 G (pc := 587) (y := 98) (z := 221) (x1 := 68) (x2 := 71) (off := 871) ⟨by decide +kernel, by decide +kernel, by decide +kernel, by decide +kernel, by decide +kernel, by decide +kernel, by decide +kernel, by decide⟩ (by decide +kernel) (by decide +kernel) kd_98 hi (op_owes 0 hr _) hc hs hW hS hl (kk _ (by omega)))
theorem wz_t12 {i T : Nat} {u : lt_m} {ls : Array Slot} (X : wz_G p l e s m below meth c b D B cA L xs i T u H locs ls cells slots Q) : W p l e room_1 s m #[Value.ref b] below meth c H locs cells slots Q (F0 m 612 ls []) := by
  obtain ⟨hfl, G, hi, hr, hT, hc, hs, hW, hS, hl, kk⟩ := X
  exact W.widen (k := cells + 1) (n := slots + 6) (by omega) (by omega) (wz_c3 G (pc := 612) (y := 100) (z := 223) (x1 := 72) (x2 := 75) (off := 822) ⟨by decide +kernel, by decide +kernel, by decide +kernel, by decide +kernel, by decide +kernel, by decide +kernel, by decide +kernel, by decide +kernel, by decide +kernel, by decide +kernel, by decide +kernel, by decide⟩ (by decide +kernel) (by decide +kernel) kd_100 hi (op_starts 0 (by omega) hr _ _ _) hc hs hW hS hl (kk _ (by omega)))
theorem wz_t13 {i T : Nat} {u : lt_m} {ls : Array Slot} (X : wz_G p l e s m below meth c b D B cA L xs i T u H locs ls cells slots Q) : W p l e room_1 s m #[Value.ref b] below meth c H locs cells slots Q (F0 m 661 ls []) := by
  obtain ⟨hfl, G, hi, hr, hT, hc, hs, hW, hS, hl, kk⟩ := X
  exact W.widen (k := cells + 1) (n := slots + 6) (by omega) (by omega) (wz_c2 G (pc := 661) (y := 113) (z := 230) (x1 := 76) (x2 := 79) (off := 785) ⟨by decide +kernel, by decide +kernel, by decide +kernel, by decide +kernel, by decide +kernel, by decide +kernel, by decide +kernel, by decide +kernel, by decide +kernel, by decide⟩ (by decide +kernel) (by decide +kernel) kd_113 hi (op_stamps 0 (by omega) hr _ _) hc hs hW hS hl (kk _ (by omega)))
theorem wz_t14 {i T : Nat} {u : lt_m} {ls : Array Slot} (X : wz_G p l e s m below meth c b D B cA L xs i T u H locs ls cells slots Q) : W p l e room_1 s m #[Value.ref b] below meth c H locs cells slots Q (F0 m 698 ls []) := by
  obtain ⟨hfl, G, hi, hr, hT, hc, hs, hW, hS, hl, kk⟩ := X
  exact W.widen (k := cells + 1) (n := slots + 6) (by omega) (by omega) (wz_c1 G (pc := 698) (y := 117) (z := 232) (x1 := 80) (x2 := 83) (off := 760) ⟨by decide +kernel, by decide +kernel, by decide +kernel, by decide +kernel, by decide +kernel, by decide +kernel, by decide +kernel, by decide⟩ (by decide +kernel) (by decide +kernel) kd_117 hi (op_breaks 0 (by omega) hr _) hc hs hW hS hl (kk _ (by omega)))
theorem wz_t15 {i T : Nat} {u : lt_m} {ls : Array Slot} (X : wz_G p l e s m below meth c b D B cA L xs i T u H locs ls cells slots Q) : W p l e room_1 s m #[Value.ref b] below meth c H locs cells slots Q (F0 m 723 ls []) := by
  obtain ⟨hfl, G, hi, hr, hT, hc, hs, hW, hS, hl, kk⟩ := X
  exact W.widen (k := cells + 1) (n := slots + 6) (by omega) (by omega) (wz_c2 G (pc := 723) (y := 119) (z := 234) (x1 := 84) (x2 := 87) (off := 723) ⟨by decide +kernel, by decide +kernel, by decide +kernel, by decide +kernel, by decide +kernel, by decide +kernel, by decide +kernel, by decide +kernel, by decide +kernel, by decide⟩ (by decide +kernel) (by decide +kernel) kd_119 hi (op_controls 0 (by omega) hr _ _) hc hs hW hS hl (kk _ (by omega)))
theorem wz_t16 {i T : Nat} {u : lt_m} {ls : Array Slot} (X : wz_G p l e s m below meth c b D B cA L xs i T u H locs ls cells slots Q) : W p l e room_1 s m #[Value.ref b] below meth c H locs cells slots Q (F0 m 760 ls []) := by
  obtain ⟨hfl, G, hi, hr, hT, hc, hs, hW, hS, hl, kk⟩ := X
  exact W.widen (k := cells + 1) (n := slots + 6) (by omega) (by omega) (wz_c1 G (pc := 760) (y := 121) (z := 236) (x1 := 88) (x2 := 91) (off := 698) ⟨by decide +kernel, by decide +kernel, by decide +kernel, by decide +kernel, by decide +kernel, by decide +kernel, by decide +kernel, by decide⟩ (by decide +kernel) (by decide +kernel) kd_121 hi (op_proves 0 (by omega) hr _) hc hs hW hS hl (kk _ (by omega)))
theorem wz_t17 {i T : Nat} {u : lt_m} {ls : Array Slot} (X : wz_G p l e s m below meth c b D B cA L xs i T u H locs ls cells slots Q) : W p l e room_1 s m #[Value.ref b] below meth c H locs cells slots Q (F0 m 785 ls []) := by
  obtain ⟨hfl, G, hi, hr, hT, hc, hs, hW, hS, hl, kk⟩ := X
  exact W.widen (k := cells + 1) (n := slots + 6) (by omega) (by omega) (wz_c1 G (pc := 785) (y := 123) (z := 238) (x1 := 92) (x2 := 95) (off := 673) ⟨by decide +kernel, by decide +kernel, by decide +kernel, by decide +kernel, by decide +kernel, by decide +kernel, by decide +kernel, by decide⟩ (by decide +kernel) (by decide +kernel) kd_123 hi (op_pays 0 (by omega) hr _) hc hs hW hS hl (kk _ (by omega)))
theorem wz_t18 {i T : Nat} {u : lt_m} {ls : Array Slot} (X : wz_G p l e s m below meth c b D B cA L xs i T u H locs ls cells slots Q) : W p l e room_1 s m #[Value.ref b] below meth c H locs cells slots Q (F0 m 810 ls []) := by
  obtain ⟨hfl, G, hi, hr, hT, hc, hs, hW, hS, hl, kk⟩ := X
  exact W.widen (k := cells + 1) (n := slots + 6) (by omega) (by omega) (wz_c1 G (pc := 810) (y := 124) (z := 239) (x1 := 96) (x2 := 99) (off := 648) ⟨by decide +kernel, by decide +kernel, by decide +kernel, by decide +kernel, by decide +kernel, by decide +kernel, by decide +kernel, by decide⟩ (by decide +kernel) (by decide +kernel) kd_124 hi (op_hours 0 (by omega) hr _) hc hs hW hS hl (kk _ (by omega)))
theorem wz_t19 {i T : Nat} {u : lt_m} {ls : Array Slot} (X : wz_G p l e s m below meth c b D B cA L xs i T u H locs ls cells slots Q) : W p l e room_1 s m #[Value.ref b] below meth c H locs cells slots Q (F0 m 835 ls []) := by
  obtain ⟨hfl, G, hi, hr, hT, hc, hs, hW, hS, hl, kk⟩ := X
  exact W.widen (k := cells + 1) (n := slots + 6) (by omega) (by omega) (wz_c2 G (pc := 835) (y := 129) (z := 242) (x1 := 100) (x2 := 103) (off := 611) ⟨by decide +kernel, by decide +kernel, by decide +kernel, by decide +kernel, by decide +kernel, by decide +kernel, by decide +kernel, by decide +kernel, by decide +kernel, by decide⟩ (by decide +kernel) (by decide +kernel) kd_129 hi (op_movement 0 hr _ _) hc hs hW hS hl (kk _ (by omega)))
theorem wz_t20 {i T : Nat} {u : lt_m} {ls : Array Slot} (X : wz_G p l e s m below meth c b D B cA L xs i T u H locs ls cells slots Q) : W p l e room_1 s m #[Value.ref b] below meth c H locs cells slots Q (F0 m 872 ls []) := by
  obtain ⟨hfl, G, hi, hr, hT, hc, hs, hW, hS, hl, kk⟩ := X
  exact W.widen (k := cells + 1) (n := slots + 6) (by omega) (by omega) (wz_c2 G (pc := 872) (y := 130) (z := 243) (x1 := 104) (x2 := 107) (off := 574) ⟨by decide +kernel, by decide +kernel, by decide +kernel, by decide +kernel, by decide +kernel, by decide +kernel, by decide +kernel, by decide +kernel, by decide +kernel, by decide⟩ (by decide +kernel) (by decide +kernel) kd_130 hi (op_stop 0 hr _ _) hc hs hW hS hl (kk _ (by omega)))
theorem wz_t21 {i T : Nat} {u : lt_m} {ls : Array Slot} (X : wz_G p l e s m below meth c b D B cA L xs i T u H locs ls cells slots Q) : W p l e room_1 s m #[Value.ref b] below meth c H locs cells slots Q (F0 m 909 ls []) := by
  obtain ⟨hfl, G, hi, hr, hT, hc, hs, hW, hS, hl, kk⟩ := X
  exact W.widen (k := cells + 1) (n := slots + 6) (by omega) (by omega) (wz_c1 G (pc := 909) (y := 132) (z := 244) (x1 := 108) (x2 := 111) (off := 549) ⟨by decide +kernel, by decide +kernel, by decide +kernel, by decide +kernel, by decide +kernel, by decide +kernel, by decide +kernel, by decide⟩ (by decide +kernel) (by decide +kernel) kd_132 hi (op_left 0 hr _) hc hs hW hS hl (kk _ (by omega)))
theorem wz_t22 {i T : Nat} {u : lt_m} {ls : Array Slot} (X : wz_G p l e s m below meth c b D B cA L xs i T u H locs ls cells slots Q) : W p l e room_1 s m #[Value.ref b] below meth c H locs cells slots Q (F0 m 934 ls []) := by
  obtain ⟨hfl, G, hi, hr, hT, hc, hs, hW, hS, hl, kk⟩ := X
  exact W.widen (k := cells + 1) (n := slots + 6) (by omega) (by omega) (wz_c1 G (pc := 934) (y := 134) (z := 246) (x1 := 112) (x2 := 115) (off := 524) ⟨by decide +kernel, by decide +kernel, by decide +kernel, by decide +kernel, by decide +kernel, by decide +kernel, by decide +kernel, by decide⟩ (by decide +kernel) (by decide +kernel) kd_134 hi (op_borders 0 hr _) hc hs hW hS hl (kk _ (by omega)))
theorem wz_t23 {i T : Nat} {u : lt_m} {ls : Array Slot} (X : wz_G p l e s m below meth c b D B cA L xs i T u H locs ls cells slots Q) : W p l e room_1 s m #[Value.ref b] below meth c H locs cells slots Q (F0 m 959 ls []) := by
  obtain ⟨hfl, G, hi, hr, hT, hc, hs, hW, hS, hl, kk⟩ := X
  exact W.widen (k := cells + 1) (n := slots + 6) (by omega) (by omega) (wz_c1 G (pc := 959) (y := 135) (z := 247) (x1 := 116) (x2 := 119) (off := 499) ⟨by decide +kernel, by decide +kernel, by decide +kernel, by decide +kernel, by decide +kernel, by decide +kernel, by decide +kernel, by decide⟩ (by decide +kernel) (by decide +kernel) kd_135 hi (op_asked 0 hr _) hc hs hW hS hl (kk _ (by omega)))
theorem wz_t24 {i T : Nat} {u : lt_m} {ls : Array Slot} (X : wz_G p l e s m below meth c b D B cA L xs i T u H locs ls cells slots Q) : W p l e room_1 s m #[Value.ref b] below meth c H locs cells slots Q (F0 m 984 ls []) := by
  obtain ⟨hfl, G, hi, hr, hT, hc, hs, hW, hS, hl, kk⟩ := X
  exact W.widen (k := cells + 1) (n := slots + 6) (by omega) (by omega) (wz_c1 G (pc := 984) (y := 137) (z := 248) (x1 := 120) (x2 := 123) (off := 474) ⟨by decide +kernel, by decide +kernel, by decide +kernel, by decide +kernel, by decide +kernel, by decide +kernel, by decide +kernel, by decide⟩ (by decide +kernel) (by decide +kernel) kd_137 hi (op_states 0 hr _) hc hs hW hS hl (kk _ (by omega)))
theorem wz_t25 {i T : Nat} {u : lt_m} {ls : Array Slot} (X : wz_G p l e s m below meth c b D B cA L xs i T u H locs ls cells slots Q) : W p l e room_1 s m #[Value.ref b] below meth c H locs cells slots Q (F0 m 1009 ls []) := by
  obtain ⟨hfl, G, hi, hr, hT, hc, hs, hW, hS, hl, kk⟩ := X
  exact W.widen (k := cells + 1) (n := slots + 6) (by omega) (by omega) (wz_c1 G (pc := 1009) (y := 138) (z := 249) (x1 := 124) (x2 := 127) (off := 449) ⟨by decide +kernel, by decide +kernel, by decide +kernel, by decide +kernel, by decide +kernel, by decide +kernel, by decide +kernel, by decide⟩ (by decide +kernel) (by decide +kernel) kd_138 hi (op_owed 0 hr _) hc hs hW hS hl (kk _ (by omega)))
theorem wz_t26 {i T : Nat} {u : lt_m} {ls : Array Slot} (X : wz_G p l e s m below meth c b D B cA L xs i T u H locs ls cells slots Q) : W p l e room_1 s m #[Value.ref b] below meth c H locs cells slots Q (F0 m 1034 ls []) := by
  obtain ⟨hfl, G, hi, hr, hT, hc, hs, hW, hS, hl, kk⟩ := X
  exact W.widen (k := cells + 1) (n := slots + 6) (by omega) (by omega) (wz_c0 G (pc := 1034) (y := 140) (z := 250) (x1 := 128) (x2 := 131) (off := 436) ⟨by decide +kernel, by decide +kernel, by decide +kernel, by decide +kernel, by decide +kernel, by decide⟩ (by decide +kernel) (by decide +kernel) kd_140 hi (op_late 0 hr) hc hs hW hS hl (kk _ (by omega)))
theorem wz_t27 {i T : Nat} {u : lt_m} {ls : Array Slot} (X : wz_G p l e s m below meth c b D B cA L xs i T u H locs ls cells slots Q) : W p l e room_1 s m #[Value.ref b] below meth c H locs cells slots Q (F0 m 1047 ls []) := by
  obtain ⟨hfl, G, hi, hr, hT, hc, hs, hW, hS, hl, kk⟩ := X
  exact W.widen (k := cells + 1) (n := slots + 6) (by omega) (by omega) (wz_c1 G (pc := 1047) (y := 143) (z := 254) (x1 := 132) (x2 := 135) (off := 411) ⟨by decide +kernel, by decide +kernel, by decide +kernel, by decide +kernel, by decide +kernel, by decide +kernel, by decide +kernel, by decide⟩ (by decide +kernel) (by decide +kernel) kd_143 hi (op_next 0 hr _) hc hs hW hS hl (kk _ (by omega)))
theorem wz_t28 {i T : Nat} {u : lt_m} {ls : Array Slot} (X : wz_G p l e s m below meth c b D B cA L xs i T u H locs ls cells slots Q) : W p l e room_1 s m #[Value.ref b] below meth c H locs cells slots Q (F0 m 1072 ls []) := by
  obtain ⟨hfl, G, hi, hr, hT, hc, hs, hW, hS, hl, kk⟩ := X
  exact W.widen (k := cells + 1) (n := slots + 6) (by omega) (by omega) (wz_c1 G (pc := 1072) (y := 144) (z := 255) (x1 := 136) (x2 := 139) (off := 386) ⟨by decide +kernel, by decide +kernel, by decide +kernel, by decide +kernel, by decide +kernel, by decide +kernel, by decide +kernel, by decide⟩ (by decide +kernel) (by decide +kernel) kd_144 hi (op_worth 0 hr _) hc hs hW hS hl (kk _ (by omega)))
theorem wz_t29 {i T : Nat} {u : lt_m} {ls : Array Slot} (X : wz_G p l e s m below meth c b D B cA L xs i T u H locs ls cells slots Q) : W p l e room_1 s m #[Value.ref b] below meth c H locs cells slots Q (F0 m 1097 ls []) := by
  obtain ⟨hfl, G, hi, hr, hT, hc, hs, hW, hS, hl, kk⟩ := X
  exact W.widen (k := cells + 1) (n := slots + 6) (by omega) (by omega) (wz_c0 G (pc := 1097) (y := 145) (z := 253) (x1 := 140) (x2 := 143) (off := 373) ⟨by decide +kernel, by decide +kernel, by decide +kernel, by decide +kernel, by decide +kernel, by decide⟩ (by decide +kernel) (by decide +kernel) kd_145 hi (op_busiest 0 hr) hc hs hW hS hl (kk _ (by omega)))
theorem wz_t30 {i T : Nat} {u : lt_m} {ls : Array Slot} (X : wz_G p l e s m below meth c b D B cA L xs i T u H locs ls cells slots Q) : W p l e room_1 s m #[Value.ref b] below meth c H locs cells slots Q (F0 m 1110 ls []) := by
  obtain ⟨hfl, G, hi, hr, hT, hc, hs, hW, hS, hl, kk⟩ := X
  exact W.widen (k := cells + 1) (n := slots + 6) (by omega) (by omega) (wz_c2 G (pc := 1110) (y := 147) (z := 256) (x1 := 144) (x2 := 147) (off := 336) ⟨by decide +kernel, by decide +kernel, by decide +kernel, by decide +kernel, by decide +kernel, by decide +kernel, by decide +kernel, by decide +kernel, by decide +kernel, by decide⟩ (by decide +kernel) (by decide +kernel) kd_147 hi (op_can 0 hr _ _) hc hs hW hS hl (kk _ (by omega)))
theorem wz_t31 {i T : Nat} {u : lt_m} {ls : Array Slot} (X : wz_G p l e s m below meth c b D B cA L xs i T u H locs ls cells slots Q) : W p l e room_1 s m #[Value.ref b] below meth c H locs cells slots Q (F0 m 1147 ls []) := by
  obtain ⟨hfl, G, hi, hr, hT, hc, hs, hW, hS, hl, kk⟩ := X
  exact W.widen (k := cells + 1) (n := slots + 6) (by omega) (by omega) (wz_c2 G (pc := 1147) (y := 148) (z := 257) (x1 := 148) (x2 := 151) (off := 299) ⟨by decide +kernel, by decide +kernel, by decide +kernel, by decide +kernel, by decide +kernel, by decide +kernel, by decide +kernel, by decide +kernel, by decide +kernel, by decide⟩ (by decide +kernel) (by decide +kernel) kd_148 hi (op_frees 0 hr _ _) hc hs hW hS hl (kk _ (by omega)))
theorem wz_t32 {i T : Nat} {u : lt_m} {ls : Array Slot} (X : wz_G p l e s m below meth c b D B cA L xs i T u H locs ls cells slots Q) : W p l e room_1 s m #[Value.ref b] below meth c H locs cells slots Q (F0 m 1184 ls []) := by
  obtain ⟨hfl, G, hi, hr, hT, hc, hs, hW, hS, hl, kk⟩ := X
  exact W.widen (k := cells + 1) (n := slots + 6) (by omega) (by omega) (wz_c2 G (pc := 1184) (y := 152) (z := 260) (x1 := 152) (x2 := 155) (off := 262) ⟨by decide +kernel, by decide +kernel, by decide +kernel, by decide +kernel, by decide +kernel, by decide +kernel, by decide +kernel, by decide +kernel, by decide +kernel, by decide⟩ (by decide +kernel) (by decide +kernel) kd_152 hi (op_when 0 hr _ _) hc hs hW hS hl (kk _ (by omega)))
theorem wz_t33 {i T : Nat} {u : lt_m} {ls : Array Slot} (X : wz_G p l e s m below meth c b D B cA L xs i T u H locs ls cells slots Q) : W p l e room_1 s m #[Value.ref b] below meth c H locs cells slots Q (F0 m 1221 ls []) := by
  obtain ⟨hfl, G, hi, hr, hT, hc, hs, hW, hS, hl, kk⟩ := X
  exact W.widen (k := cells + 1) (n := slots + 6) (by omega) (by omega) (wz_c1 G (pc := 1221) (y := 155) (z := 261) (x1 := 156) (x2 := 159) (off := 237) ⟨by decide +kernel, by decide +kernel, by decide +kernel, by decide +kernel, by decide +kernel, by decide +kernel, by decide +kernel, by decide⟩ (by decide +kernel) (by decide +kernel) kd_155 hi (op_fits 0 hr _) hc hs hW hS hl (kk _ (by omega)))
theorem wz_t34 {i T : Nat} {u : lt_m} {ls : Array Slot} (X : wz_G p l e s m below meth c b D B cA L xs i T u H locs ls cells slots Q) : W p l e room_1 s m #[Value.ref b] below meth c H locs cells slots Q (F0 m 1246 ls []) := by
  obtain ⟨hfl, G, hi, hr, hT, hc, hs, hW, hS, hl, kk⟩ := X
  exact W.widen (k := cells + 1) (n := slots + 6) (by omega) (by omega) (wz_c0 G (pc := 1246) (y := 160) (z := 263) (x1 := 160) (x2 := 163) (off := 224) ⟨by decide +kernel, by decide +kernel, by decide +kernel, by decide +kernel, by decide +kernel, by decide⟩ (by decide +kernel) (by decide +kernel) kd_160 hi (op_detour 0 hr) hc hs hW hS hl (kk _ (by omega)))
theorem wz_t35 {i T : Nat} {u : lt_m} {ls : Array Slot} (X : wz_G p l e s m below meth c b D B cA L xs i T u H locs ls cells slots Q) : W p l e room_1 s m #[Value.ref b] below meth c H locs cells slots Q (F0 m 1259 ls []) := by
  obtain ⟨hfl, G, hi, hr, hT, hc, hs, hW, hS, hl, kk⟩ := X
  exact W.widen (k := cells + 1) (n := slots + 6) (by omega) (by omega) (wz_c1 G (pc := 1259) (y := 161) (z := 264) (x1 := 164) (x2 := 167) (off := 199) ⟨by decide +kernel, by decide +kernel, by decide +kernel, by decide +kernel, by decide +kernel, by decide +kernel, by decide +kernel, by decide⟩ (by decide +kernel) (by decide +kernel) kd_161 hi (op_risk 0 hr _) hc hs hW hS hl (kk _ (by omega)))
theorem wz_t36 {i T : Nat} {u : lt_m} {ls : Array Slot} (X : wz_G p l e s m below meth c b D B cA L xs i T u H locs ls cells slots Q) : W p l e room_1 s m #[Value.ref b] below meth c H locs cells slots Q (F0 m 1284 ls []) := by
  obtain ⟨hfl, G, hi, hr, hT, hc, hs, hW, hS, hl, kk⟩ := X
  exact W.widen (k := cells + 1) (n := slots + 6) (by omega) (by omega) (wz_c0 G (pc := 1284) (y := 162) (z := 265) (x1 := 168) (x2 := 171) (off := 186) ⟨by decide +kernel, by decide +kernel, by decide +kernel, by decide +kernel, by decide +kernel, by decide⟩ (by decide +kernel) (by decide +kernel) kd_162 hi (op_tightest 0 hr) hc hs hW hS hl (kk _ (by omega)))
theorem wz_t37 {i T : Nat} {u : lt_m} {ls : Array Slot} (X : wz_G p l e s m below meth c b D B cA L xs i T u H locs ls cells slots Q) : W p l e room_1 s m #[Value.ref b] below meth c H locs cells slots Q (F0 m 1297 ls []) := by
  obtain ⟨hfl, G, hi, hr, hT, hc, hs, hW, hS, hl, kk⟩ := X
  exact W.widen (k := cells + 1) (n := slots + 6) (by omega) (by omega) (wz_c2 G (pc := 1297) (y := 163) (z := 266) (x1 := 172) (x2 := 175) (off := 149) ⟨by decide +kernel, by decide +kernel, by decide +kernel, by decide +kernel, by decide +kernel, by decide +kernel, by decide +kernel, by decide +kernel, by decide +kernel, by decide⟩ (by decide +kernel) (by decide +kernel) kd_163 hi (op_book 0 (by omega) hr _ _) hc hs hW hS hl (kk _ (by omega)))
theorem wz_t38 {i T : Nat} {u : lt_m} {ls : Array Slot} (X : wz_G p l e s m below meth c b D B cA L xs i T u H locs ls cells slots Q) : W p l e room_1 s m #[Value.ref b] below meth c H locs cells slots Q (F0 m 1334 ls []) := by
  obtain ⟨hfl, G, hi, hr, hT, hc, hs, hW, hS, hl, kk⟩ := X
  exact W.widen (k := cells + 1) (n := slots + 6) (by omega) (by omega) (wz_c1 G (pc := 1334) (y := 166) (z := 267) (x1 := 176) (x2 := 179) (off := 124) ⟨by decide +kernel, by decide +kernel, by decide +kernel, by decide +kernel, by decide +kernel, by decide +kernel, by decide +kernel, by decide⟩ (by decide +kernel) (by decide +kernel) kd_166 hi (op_written 0 hr _) hc hs hW hS hl (kk _ (by omega)))
theorem wz_t39 {i T : Nat} {u : lt_m} {ls : Array Slot} (X : wz_G p l e s m below meth c b D B cA L xs i T u H locs ls cells slots Q) : W p l e room_1 s m #[Value.ref b] below meth c H locs cells slots Q (F0 m 1359 ls []) := by
  obtain ⟨hfl, G, hi, hr, hT, hc, hs, hW, hS, hl, kk⟩ := X
  exact W.widen (k := cells + 1) (n := slots + 6) (by omega) (by omega) (wz_c0 G (pc := 1359) (y := 167) (z := 270) (x1 := 180) (x2 := 183) (off := 111) ⟨by decide +kernel, by decide +kernel, by decide +kernel, by decide +kernel, by decide +kernel, by decide⟩ (by decide +kernel) (by decide +kernel) kd_167 hi (op_undo 0 hr) hc hs hW hS hl (kk _ (by omega)))
theorem wz_t40 {i T : Nat} {u : lt_m} {ls : Array Slot} (X : wz_G p l e s m below meth c b D B cA L xs i T u H locs ls cells slots Q) : W p l e room_1 s m #[Value.ref b] below meth c H locs cells slots Q (F0 m 1372 ls []) := by
  obtain ⟨hfl, G, hi, hr, hT, hc, hs, hW, hS, hl, kk⟩ := X
  exact W.widen (k := cells + 1) (n := slots + 6) (by omega) (by omega) (wz_c0 G (pc := 1372) (y := 169) (z := 271) (x1 := 184) (x2 := 187) (off := 98) ⟨by decide +kernel, by decide +kernel, by decide +kernel, by decide +kernel, by decide +kernel, by decide⟩ (by decide +kernel) (by decide +kernel) kd_169 hi (op_keeps 0 hr) hc hs hW hS hl (kk _ (by omega)))
theorem wz_t41 {i T : Nat} {u : lt_m} {ls : Array Slot} (X : wz_G p l e s m below meth c b D B cA L xs i T u H locs ls cells slots Q) : W p l e room_1 s m #[Value.ref b] below meth c H locs cells slots Q (F0 m 1385 ls []) := by
  obtain ⟨hfl, G, hi, hr, hT, hc, hs, hW, hS, hl, kk⟩ := X
  exact W.widen (k := cells + 1) (n := slots + 6) (by omega) (by omega) (wz_c0 G (pc := 1385) (y := 171) (z := 272) (x1 := 188) (x2 := 191) (off := 85) ⟨by decide +kernel, by decide +kernel, by decide +kernel, by decide +kernel, by decide +kernel, by decide⟩ (by decide +kernel) (by decide +kernel) kd_171 hi (op_back 0 hr) hc hs hW hS hl (kk _ (by omega)))
theorem wz_t42 {i T : Nat} {u : lt_m} {ls : Array Slot} (X : wz_G p l e s m below meth c b D B cA L xs i T u H locs ls cells slots Q) : W p l e room_1 s m #[Value.ref b] below meth c H locs cells slots Q (F0 m 1398 ls []) := by
  obtain ⟨hfl, G, hi, hr, hT, hc, hs, hW, hS, hl, kk⟩ := X
  exact W.widen (k := cells + 1) (n := slots + 6) (by omega) (by omega) (wz_c1 G (pc := 1398) (y := 173) (z := 273) (x1 := 192) (x2 := 195) (off := 60) ⟨by decide +kernel, by decide +kernel, by decide +kernel, by decide +kernel, by decide +kernel, by decide +kernel, by decide +kernel, by decide⟩ (by decide +kernel) (by decide +kernel) kd_173 hi (op_count 0 (by omega) hr _) hc hs hW hS hl (kk _ (by omega)))
theorem wz_t43 {i T : Nat} {u : lt_m} {ls : Array Slot} (X : wz_G p l e s m below meth c b D B cA L xs i T u H locs ls cells slots Q) : W p l e room_1 s m #[Value.ref b] below meth c H locs cells slots Q (F0 m 1423 ls []) := by
  obtain ⟨hfl, G, hi, hr, hT, hc, hs, hW, hS, hl, kk⟩ := X
  exact wz_row hfl G hi hr hc hs hW hS hl (kk T (by omega))
theorem dq_39 : decode code 39 = .ok (.tableswitch 1439 0 43 #[189, 214, 239, 252, 289, 326, 363, 400, 437, 474, 523, 548, 573, 622, 659, 684, 721, 746, 771, 796, 833, 870, 895, 920, 945, 970, 995, 1008, 1033, 1058, 1071, 1108, 1145, 1182, 1207, 1220, 1245, 1258, 1295, 1320, 1333, 1346, 1359, 1384], 189) := by decide +kernel
theorem wz_sw {i T : Nat} {u : lt_m} {ls : Array Slot} (X : wz_G p l e s m below meth c b D B cA L xs i T u H locs ls cells slots Q) {x : Int32} : W p l e room_1 s m #[Value.ref b] below meth c H locs cells slots Q (F0 m 39 ls [.int x]) := by
  have hx := X.2.1.1.1
  have hb := X.2.1.1.2.1
  by_cases h : x.toInt < 0 ∨ 43 < x.toInt
  · obtain ⟨-, -, -, hr, -, -, -, hW, hS, hl, kk⟩ := X
    exact lv_tableOut (tgt := 1478) hx hb dq_39 h (by decide) (W.widen (k := cells + 1) (n := slots + 6) (by omega) (by omega) (kk T (by omega) H locs u ls hW hS hr hl))
  · obtain ⟨k, hk⟩ : ∃ k : Nat, x.toInt = (k : Int) := ⟨x.toInt.toNat, by omega⟩
    have go : ∀ (off : Int) (tgt : Nat), (#[189, 214, 239, 252, 289, 326, 363, 400, 437, 474, 523, 548, 573, 622, 659, 684, 721, 746, 771, 796, 833, 870, 895, 920, 945, 970, 995, 1008, 1033, 1058, 1071, 1108, 1145, 1182, 1207, 1220, 1245, 1258, 1295, 1320, 1333, 1346, 1359, 1384] : Array Int)[k]? = some off → ((39 : Nat) : Int) + off = (tgt : Int) → W p l e room_1 s m #[Value.ref b] below meth c H locs cells slots Q (F0 m tgt ls []) → W p l e room_1 s m #[Value.ref b] below meth c H locs cells slots Q (F0 m 39 ls [.int x]) := fun off tgt h1 h2 h3 => lv_tableIn hx hb dq_39 (by omega) (by omega) (by rw [hk, show ((k : Int) - 0).toNat = k by omega]; exact h1) h2 h3
    have hk43 : k < 44 := by omega
    clear hk h
    match k, hk43, go with
    | 0, _, go => exact go 189 228 rfl (by decide) (wz_t0 X)
    | 1, _, go => exact go 214 253 rfl (by decide) (wz_t1 X)
    | 2, _, go => exact go 239 278 rfl (by decide) (wz_t2 X)
    | 3, _, go => exact go 252 291 rfl (by decide) (wz_t3 X)
    | 4, _, go => exact go 289 328 rfl (by decide) (wz_t4 X)
    | 5, _, go => exact go 326 365 rfl (by decide) (wz_t5 X)
    | 6, _, go => exact go 363 402 rfl (by decide) (wz_t6 X)
    | 7, _, go => exact go 400 439 rfl (by decide) (wz_t7 X)
    | 8, _, go => exact go 437 476 rfl (by decide) (wz_t8 X)
    | 9, _, go => exact go 474 513 rfl (by decide) (wz_t9 X)
    | 10, _, go => exact go 523 562 rfl (by decide) (wz_t10 X)
    | 11, _, go => exact go 548 587 rfl (by decide) (wz_t11 X)
    | 12, _, go => exact go 573 612 rfl (by decide) (wz_t12 X)
    | 13, _, go => exact go 622 661 rfl (by decide) (wz_t13 X)
    | 14, _, go => exact go 659 698 rfl (by decide) (wz_t14 X)
    | 15, _, go => exact go 684 723 rfl (by decide) (wz_t15 X)
    | 16, _, go => exact go 721 760 rfl (by decide) (wz_t16 X)
    | 17, _, go => exact go 746 785 rfl (by decide) (wz_t17 X)
    | 18, _, go => exact go 771 810 rfl (by decide) (wz_t18 X)
    | 19, _, go => exact go 796 835 rfl (by decide) (wz_t19 X)
    | 20, _, go => exact go 833 872 rfl (by decide) (wz_t20 X)
    | 21, _, go => exact go 870 909 rfl (by decide) (wz_t21 X)
    | 22, _, go => exact go 895 934 rfl (by decide) (wz_t22 X)
    | 23, _, go => exact go 920 959 rfl (by decide) (wz_t23 X)
    | 24, _, go => exact go 945 984 rfl (by decide) (wz_t24 X)
    | 25, _, go => exact go 970 1009 rfl (by decide) (wz_t25 X)
    | 26, _, go => exact go 995 1034 rfl (by decide) (wz_t26 X)
    | 27, _, go => exact go 1008 1047 rfl (by decide) (wz_t27 X)
    | 28, _, go => exact go 1033 1072 rfl (by decide) (wz_t28 X)
    | 29, _, go => exact go 1058 1097 rfl (by decide) (wz_t29 X)
    | 30, _, go => exact go 1071 1110 rfl (by decide) (wz_t30 X)
    | 31, _, go => exact go 1108 1147 rfl (by decide) (wz_t31 X)
    | 32, _, go => exact go 1145 1184 rfl (by decide) (wz_t32 X)
    | 33, _, go => exact go 1182 1221 rfl (by decide) (wz_t33 X)
    | 34, _, go => exact go 1207 1246 rfl (by decide) (wz_t34 X)
    | 35, _, go => exact go 1220 1259 rfl (by decide) (wz_t35 X)
    | 36, _, go => exact go 1245 1284 rfl (by decide) (wz_t36 X)
    | 37, _, go => exact go 1258 1297 rfl (by decide) (wz_t37 X)
    | 38, _, go => exact go 1295 1334 rfl (by decide) (wz_t38 X)
    | 39, _, go => exact go 1320 1359 rfl (by decide) (wz_t39 X)
    | 40, _, go => exact go 1333 1372 rfl (by decide) (wz_t40 X)
    | 41, _, go => exact go 1346 1385 rfl (by decide) (wz_t41 X)
    | 42, _, go => exact go 1359 1398 rfl (by decide) (wz_t42 X)
    | 43, _, go => exact go 1384 1423 rfl (by decide) (wz_t43 X)
    | n + 44, h, _ => exact absurd h (by omega)
end LAW

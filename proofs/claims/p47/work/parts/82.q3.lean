/-! ===== row of the class, in place; calls out of frames that are not the interpreter's own ===== -/
abbrev Y175 : ts_Y := (yX11_row, cX11_row, 2, (some .long), 11)
set_option maxRecDepth 100000 in
theorem hY175 : ts_mL[175]? = some Y175 := rfl
theorem ca_11_414 : ts_cal 11 414 = some (176, 1, 0, 0) := by decide +kernel
theorem d175_0 : decode Y175.2.1 0 = .ok (.iload_n 1, 1) := by decide +kernel
theorem d175_1 : decode Y175.2.1 1 = .ok (.ifCond .lt 14, 3) := by decide +kernel
theorem d175_4 : decode Y175.2.1 4 = .ok (.iload_n 1, 1) := by decide +kernel
theorem d175_5 : decode Y175.2.1 5 = .ok (.aload_n 0, 1) := by decide +kernel
theorem d175_6 : decode Y175.2.1 6 = .ok (.getfield 19, 3) := by decide +kernel
theorem d175_9 : decode Y175.2.1 9 = .ok (.invokevirtual 410, 3) := by decide +kernel
theorem d175_12 : decode Y175.2.1 12 = .ok (.if_icmp .lt 11, 3) := by decide +kernel
theorem d175_15 : decode Y175.2.1 15 = .ok (.new 411, 3) := by decide +kernel
theorem d175_18 : decode Y175.2.1 18 = .ok (.dup, 1) := by decide +kernel
theorem d175_19 : decode Y175.2.1 19 = .ok (.invokespecial 413, 3) := by decide +kernel
theorem d175_22 : decode Y175.2.1 22 = .ok (.athrow, 1) := by decide +kernel
theorem d175_23 : decode Y175.2.1 23 = .ok (.aload_n 0, 1) := by decide +kernel
theorem d175_24 : decode Y175.2.1 24 = .ok (.getfield 19, 3) := by decide +kernel
theorem d175_27 : decode Y175.2.1 27 = .ok (.iload_n 1, 1) := by decide +kernel
theorem d175_28 : decode Y175.2.1 28 = .ok (.invokevirtual 414, 3) := by decide +kernel
theorem d175_31 : decode Y175.2.1 31 = .ok (.i2l, 1) := by decide +kernel
theorem d175_32 : decode Y175.2.1 32 = .ok (.lreturn, 1) := by decide +kernel
theorem s0_11 : ts_sh 0 = (0, 11) := by decide +kernel
theorem s4_8 : ts_sh 4 = (0, 8) := by decide +kernel
theorem s5_12 : ts_sh 5 = (1, 12) := by decide +kernel
theorem row_in (d : Nat) {vs : List Int32} {m : lt_m} (h : rwC vs m) (hl : vs.length ≤ 12) {j : Nat} {v : Int32} (hv : vs[j]? = some v) : lt_ev (d + 3) 175 [.inr (.inr (some 0)), .inl (nI j)] m = some (some (.inr (.inl v.toInt64)), m) := by
  have hj : j < vs.length := (List.getElem?_eq_some_iff.mp hv).1
  have hn : ¬ nI j < 0 := fun q => by
    have h1 := Int32.lt_iff_toInt_lt.mp q
    rw [nI_toInt (by omega)] at h1
    have h2 : (0 : Int32).toInt = 0 := rfl
    omega
  refine Eq.trans (lt_enter2 (ls := [some (.inr (.inr (some 0))), some (.inl (nI j))]) hY175 (Nat.le_of_ble_eq_true rfl) (by rfl)) ?_
  refine Eq.trans (li_iload_n d175_0 (by rfl)) ?_
  refine Eq.trans (li_if_lt (t := 15) d175_1 (by rfl)) ?_
  rw [if_neg hn]
  refine Eq.trans (li_iload_n d175_4 (by rfl)) ?_
  refine Eq.trans (li_aload_n d175_5 (by rfl)) ?_
  refine Eq.trans (li_getr d175_6 fa_11_19 s0_11 rfl rfl rfl (by decide)) ?_
  refine Eq.trans (li_ivI d175_9 ca_11_410 kd_174 kl_174 (by rfl) (by rfl) (sf_of s0_11 1 (by decide) (by decide)) (Nat.le_of_ble_eq_true rfl) (Nat.le_of_ble_eq_true rfl)) ?_
  show lt_cI (lt_ev (d + 2) 174 [.inr (.inr (some (0 + ts_off 11 1)))] m) _ = _
  rw [show lt_ev (d + 2) 174 [.inr (.inr (some (0 + ts_off 11 1)))] m = _ from E174 (d + 1) (0 + ts_off 11 1) (sf_of s0_11 1 (by decide) (by decide)) m, lt_cI_s]
  rw [show m.1 (0 + ts_off 11 1) 1 = nI vs.length from h.1]
  refine Eq.trans (li_icmp_lt (t := 23) d175_12 (by rfl)) ?_
  rw [if_pos (Int32.lt_iff_toInt_lt.mpr (by rw [nI_toInt (by omega), nI_toInt (by omega)]; omega))]
  refine Eq.trans (li_aload_n d175_23 (by rfl)) ?_
  refine Eq.trans (li_getr d175_24 fa_11_19 s0_11 rfl rfl rfl (by decide)) ?_
  refine Eq.trans (li_iload_n d175_27 (by rfl)) ?_
  refine Eq.trans (li_ivI d175_28 ca_11_414 kd_176 kl_176 (by rfl) (by rfl) (sf_of s0_11 1 (by decide) (by decide)) (Nat.le_of_ble_eq_true rfl) (Nat.le_of_ble_eq_true rfl)) ?_
  show lt_cI (lt_ev (d + 2) 176 [.inr (.inr (some (0 + ts_off 11 1))), .inl (nI j)] m) _ = _
  rw [show lt_ev (d + 2) 176 [.inr (.inr (some (0 + ts_off 11 1))), .inl (nI j)] m = _ from E176 (d + 1) (0 + ts_off 11 1) (nI j) (sf_of s0_11 1 (by decide) (by decide)) m]
  rw [show lt_ev (d + 1) 16 [.inr (.inr (some (0 + ts_off 11 1 + 1))), .inl (nI j)] m = _ from E16 d 5 12 (nI j) s5_12 m, if_neg hn, if_neg (fun q => by
    have h1 := Int32.le_iff_toInt_le.mp q
    rw [nI_toInt (by omega)] at h1
    have h2 : (Int32.ofNat 12).toInt = 12 := rfl
    omega), lt_gd_t (sp_gd (by omega) (by omega)), lt_cI_s, lt_cI_s, nI_clamp (by omega), h.2 j v hv]
  refine Eq.trans (li_i2l d175_31) ?_
  exact li_lret d175_32 rfl
theorem q_row (d : Nat) {T : Nat} {S : ST} {vs : List Int32} {m : lt_m} (h : cP T S vs m) {j : Nat} {v : Int32} (hv : vs[j]? = some v) : lt_ev (d + 12) 175 [.inr (.inr (some 0)), .inl (nI j)] m = some (some (.inr (.inl v.toInt64)), m) := row_in (d + 9) h.2.2 h.2.1 hv

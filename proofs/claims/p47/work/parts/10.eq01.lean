/-! ===== equations of methods ===== -/
/-! TransitSeals$Movement.bit()I -/
theorem d65_0 : decode Y65.2.1 0 = .ok (.iconst 1, 1) := by decide +kernel
theorem d65_1 : decode Y65.2.1 1 = .ok (.aload_n 0, 1) := by decide +kernel
theorem d65_2 : decode Y65.2.1 2 = .ok (.getfield 22, 3) := by decide +kernel
theorem d65_5 : decode Y65.2.1 5 = .ok (.ishl, 1) := by decide +kernel
theorem d65_6 : decode Y65.2.1 6 = .ok (.ireturn, 1) := by decide +kernel
theorem E65 (d : Nat) (a0 : Nat) (h0 : ts_sh a0 = (0, 4)) (m : lt_m) : lt_ev (d + 1) 65 [.inr (.inr (some a0))] m = some (some (.inl ((1 : Int32) <<< ((m.1 a0 0) &&& 31))), m) := by
  refine Eq.trans (lt_enter2 (ls := [some (.inr (.inr (some a0)))]) hY65 (Nat.le_of_ble_eq_true rfl) (by rfl)) ?_
  refine Eq.trans (li_iconst d65_0 ic_1) ?_
  refine Eq.trans (li_aload_n d65_1 (by rfl)) ?_
  refine Eq.trans (li_geti d65_2 fa_4_22 h0 rfl) ?_
  refine Eq.trans (li_ishl d65_5) ?_
  exact li_iret d65_6 rfl
/-! TransitSeals$Row.add(I)V -/
theorem d68_0 : decode Y68.2.1 0 = .ok (.aload_n 0, 1) := by decide +kernel
theorem d68_1 : decode Y68.2.1 1 = .ok (.getfield 15, 3) := by decide +kernel
theorem d68_4 : decode Y68.2.1 4 = .ok (.aload_n 0, 1) := by decide +kernel
theorem d68_5 : decode Y68.2.1 5 = .ok (.getfield 9, 3) := by decide +kernel
theorem d68_8 : decode Y68.2.1 8 = .ok (.arraylength, 1) := by decide +kernel
theorem d68_9 : decode Y68.2.1 9 = .ok (.if_icmp .ge 25, 3) := by decide +kernel
theorem d68_12 : decode Y68.2.1 12 = .ok (.aload_n 0, 1) := by decide +kernel
theorem d68_13 : decode Y68.2.1 13 = .ok (.getfield 9, 3) := by decide +kernel
theorem d68_16 : decode Y68.2.1 16 = .ok (.aload_n 0, 1) := by decide +kernel
theorem d68_17 : decode Y68.2.1 17 = .ok (.getfield 15, 3) := by decide +kernel
theorem d68_20 : decode Y68.2.1 20 = .ok (.iload_n 1, 1) := by decide +kernel
theorem d68_21 : decode Y68.2.1 21 = .ok (.invokestatic 19, 3) := by decide +kernel
theorem d68_24 : decode Y68.2.1 24 = .ok (.aload_n 0, 1) := by decide +kernel
theorem d68_25 : decode Y68.2.1 25 = .ok (.dup, 1) := by decide +kernel
theorem d68_26 : decode Y68.2.1 26 = .ok (.getfield 15, 3) := by decide +kernel
theorem d68_29 : decode Y68.2.1 29 = .ok (.iconst 1, 1) := by decide +kernel
theorem d68_30 : decode Y68.2.1 30 = .ok (.iadd, 1) := by decide +kernel
theorem d68_31 : decode Y68.2.1 31 = .ok (.putfield 15, 3) := by decide +kernel
theorem d68_34 : decode Y68.2.1 34 = .ok (.return_, 1) := by decide +kernel
theorem E68 (d : Nat) (a0 : Nat) (x1 : Int32) (h0 : ts_sh a0 = (0, 8)) (m : lt_m) : lt_ev (d + 1) 68 [.inr (.inr (some a0)), .inl x1] m = if (12 : Int32) ≤ (m.1 a0 1) then (some (none, m)) else (lt_cV (lt_ev d 17 [.inr (.inr (some (a0 + 1))), .inl (m.1 a0 1), .inl x1] m) (fun m1 => (some (none, (lm_i m1 a0 1 ((m1.1 a0 1) + (1 : Int32))))))) := by
  refine Eq.trans (lt_enter2 (ls := [some (.inr (.inr (some a0))), some (.inl x1)]) hY68 (Nat.le_of_ble_eq_true rfl) (by rfl)) ?_
  refine Eq.trans (li_aload_n d68_0 (by rfl)) ?_
  refine Eq.trans (li_geti d68_1 fa_8_15 h0 rfl) ?_
  refine Eq.trans (li_aload_n d68_4 (by rfl)) ?_
  refine Eq.trans (li_getr d68_5 fa_8_9 h0 rfl rfl rfl (by decide)) ?_
  refine Eq.trans (li_alen d68_8 (sf_of h0 0 (by decide) (by decide)) (by decide) (by rfl)) ?_
  refine Eq.trans (li_icmp_ge (t := 34) d68_9 (by rfl)) ?_
  refine lt_ite (fun c1 => ?_) (fun c1 => ?_)
  · exact li_vret d68_34 rfl
  · refine Eq.trans (li_aload_n d68_12 (by rfl)) ?_
    refine Eq.trans (li_getr d68_13 fa_8_9 h0 rfl rfl rfl (by decide)) ?_
    refine Eq.trans (li_aload_n d68_16 (by rfl)) ?_
    refine Eq.trans (li_geti d68_17 fa_8_15 h0 rfl) ?_
    refine Eq.trans (li_iload_n d68_20 (by rfl)) ?_
    refine Eq.trans (li_isV d68_21 bi_8_19 ca_8_19 kd_17 (by rfl) (by rfl) (Nat.le_of_ble_eq_true rfl) (Nat.le_of_ble_eq_true rfl)) ?_
    refine lt_cV_c (fun m1 => ?_)
    refine Eq.trans (li_aload_n d68_24 (by rfl)) ?_
    refine Eq.trans (li_dup d68_25 rfl) ?_
    refine Eq.trans (li_geti d68_26 fa_8_15 h0 rfl) ?_
    refine Eq.trans (li_iconst d68_29 ic_1) ?_
    refine Eq.trans (li_iadd d68_30) ?_
    refine Eq.trans (li_puti d68_31 fa_8_15 h0 rfl rfl) ?_
    exact li_vret d68_34 rfl
/-! TransitSeals.tell(II)V -/
theorem d74_0 : decode Y74.2.1 0 = .ok (.aload_n 0, 1) := by decide +kernel
theorem d74_1 : decode Y74.2.1 1 = .ok (.iload_n 1, 1) := by decide +kernel
theorem d74_2 : decode Y74.2.1 2 = .ok (.invokevirtual 157, 3) := by decide +kernel
theorem d74_5 : decode Y74.2.1 5 = .ok (.aload_n 0, 1) := by decide +kernel
theorem d74_6 : decode Y74.2.1 6 = .ok (.getfield 19, 3) := by decide +kernel
theorem d74_9 : decode Y74.2.1 9 = .ok (.iload_n 2, 1) := by decide +kernel
theorem d74_10 : decode Y74.2.1 10 = .ok (.invokevirtual 194, 3) := by decide +kernel
theorem d74_13 : decode Y74.2.1 13 = .ok (.return_, 1) := by decide +kernel
theorem E74 (d : Nat) (a0 : Nat) (x1 : Int32) (x2 : Int32) (h0 : ts_sh a0 = (0, 11)) (m : lt_m) : lt_ev (d + 1) 74 [.inr (.inr (some a0)), .inl x1, .inl x2] m = lt_cV (lt_ev d 75 [.inr (.inr (some a0)), .inl x1] m) (fun m1 => (lt_cV (lt_ev d 68 [.inr (.inr (some (a0 + 4))), .inl x2] m1) (fun m2 => (some (none, m2))))) := by
  refine Eq.trans (lt_enter2 (ls := [some (.inr (.inr (some a0))), some (.inl x1), some (.inl x2)]) hY74 (Nat.le_of_ble_eq_true rfl) (by rfl)) ?_
  refine Eq.trans (li_aload_n d74_0 (by rfl)) ?_
  refine Eq.trans (li_iload_n d74_1 (by rfl)) ?_
  refine Eq.trans (li_ivV d74_2 ca_11_157 kd_75 kl_75 (by rfl) (by rfl) h0 (Nat.le_of_ble_eq_true rfl) (Nat.le_of_ble_eq_true rfl)) ?_
  refine lt_cV_c (fun m1 => ?_)
  refine Eq.trans (li_aload_n d74_5 (by rfl)) ?_
  refine Eq.trans (li_getr d74_6 fa_11_19 h0 rfl rfl rfl (by decide)) ?_
  refine Eq.trans (li_iload_n d74_9 (by rfl)) ?_
  refine Eq.trans (li_ivV d74_10 ca_11_194 kd_68 kl_68 (by rfl) (by rfl) (sf_of h0 1 (by decide) (by decide)) (Nat.le_of_ble_eq_true rfl) (Nat.le_of_ble_eq_true rfl)) ?_
  refine lt_cV_c (fun m2 => ?_)
  exact li_vret d74_13 rfl
/-! TransitSeals.tell(I)V -/
theorem d75_0 : decode Y75.2.1 0 = .ok (.aload_n 0, 1) := by decide +kernel
theorem d75_1 : decode Y75.2.1 1 = .ok (.getfield 19, 3) := by decide +kernel
theorem d75_4 : decode Y75.2.1 4 = .ok (.invokevirtual 100, 3) := by decide +kernel
theorem d75_7 : decode Y75.2.1 7 = .ok (.aload_n 0, 1) := by decide +kernel
theorem d75_8 : decode Y75.2.1 8 = .ok (.getfield 19, 3) := by decide +kernel
theorem d75_11 : decode Y75.2.1 11 = .ok (.iload_n 1, 1) := by decide +kernel
theorem d75_12 : decode Y75.2.1 12 = .ok (.invokevirtual 194, 3) := by decide +kernel
theorem d75_15 : decode Y75.2.1 15 = .ok (.return_, 1) := by decide +kernel
theorem E75 (d : Nat) (a0 : Nat) (x1 : Int32) (h0 : ts_sh a0 = (0, 11)) (m : lt_m) : lt_ev (d + 1) 75 [.inr (.inr (some a0)), .inl x1] m = lt_cV (lt_ev d 56 [.inr (.inr (some (a0 + 4)))] m) (fun m1 => (lt_cV (lt_ev d 68 [.inr (.inr (some (a0 + 4))), .inl x1] m1) (fun m2 => (some (none, m2))))) := by
  refine Eq.trans (lt_enter2 (ls := [some (.inr (.inr (some a0))), some (.inl x1)]) hY75 (Nat.le_of_ble_eq_true rfl) (by rfl)) ?_
  refine Eq.trans (li_aload_n d75_0 (by rfl)) ?_
  refine Eq.trans (li_getr d75_1 fa_11_19 h0 rfl rfl rfl (by decide)) ?_
  refine Eq.trans (li_ivV d75_4 ca_11_100 kd_56 kl_56 (by rfl) (by rfl) (sf_of h0 1 (by decide) (by decide)) (Nat.le_of_ble_eq_true rfl) (Nat.le_of_ble_eq_true rfl)) ?_
  refine lt_cV_c (fun m1 => ?_)
  refine Eq.trans (li_aload_n d75_7 (by rfl)) ?_
  refine Eq.trans (li_getr d75_8 fa_11_19 h0 rfl rfl rfl (by decide)) ?_
  refine Eq.trans (li_iload_n d75_11 (by rfl)) ?_
  refine Eq.trans (li_ivV d75_12 ca_11_194 kd_68 kl_68 (by rfl) (by rfl) (sf_of h0 1 (by decide) (by decide)) (Nat.le_of_ble_eq_true rfl) (Nat.le_of_ble_eq_true rfl)) ?_
  refine lt_cV_c (fun m2 => ?_)
  exact li_vret d75_15 rfl
/-! TransitSeals.trader(II)I -/
theorem d78_0 : decode Y78.2.1 0 = .ok (.iload_n 1, 1) := by decide +kernel
theorem d78_1 : decode Y78.2.1 1 = .ok (.invokestatic 159, 3) := by decide +kernel
theorem d78_4 : decode Y78.2.1 4 = .ok (.ifCond .eq 10, 3) := by decide +kernel
theorem d78_7 : decode Y78.2.1 7 = .ok (.iload_n 2, 1) := by decide +kernel
theorem d78_8 : decode Y78.2.1 8 = .ok (.invokestatic 162, 3) := by decide +kernel
theorem d78_11 : decode Y78.2.1 11 = .ok (.ifCond .ne 5, 3) := by decide +kernel
theorem d78_14 : decode Y78.2.1 14 = .ok (.iconst (-1), 1) := by decide +kernel
theorem d78_15 : decode Y78.2.1 15 = .ok (.ireturn, 1) := by decide +kernel
theorem d78_16 : decode Y78.2.1 16 = .ok (.aload_n 0, 1) := by decide +kernel
theorem d78_17 : decode Y78.2.1 17 = .ok (.getfield 47, 3) := by decide +kernel
theorem d78_20 : decode Y78.2.1 20 = .ok (.getfield 165, 3) := by decide +kernel
theorem d78_23 : decode Y78.2.1 23 = .ok (.bipush 6, 2) := by decide +kernel
theorem d78_25 : decode Y78.2.1 25 = .ok (.if_icmp .lt 6, 3) := by decide +kernel
theorem d78_28 : decode Y78.2.1 28 = .ok (.bipush (-2), 2) := by decide +kernel
theorem d78_30 : decode Y78.2.1 30 = .ok (.ireturn, 1) := by decide +kernel
theorem d78_31 : decode Y78.2.1 31 = .ok (.aload_n 0, 1) := by decide +kernel
theorem d78_32 : decode Y78.2.1 32 = .ok (.getfield 54, 3) := by decide +kernel
theorem d78_35 : decode Y78.2.1 35 = .ok (.aload_n 0, 1) := by decide +kernel
theorem d78_36 : decode Y78.2.1 36 = .ok (.getfield 47, 3) := by decide +kernel
theorem d78_39 : decode Y78.2.1 39 = .ok (.invokevirtual 168, 3) := by decide +kernel
theorem d78_42 : decode Y78.2.1 42 = .ok (.aload_n 0, 1) := by decide +kernel
theorem d78_43 : decode Y78.2.1 43 = .ok (.getfield 47, 3) := by decide +kernel
theorem d78_46 : decode Y78.2.1 46 = .ok (.iload_n 1, 1) := by decide +kernel
theorem d78_47 : decode Y78.2.1 47 = .ok (.iload_n 2, 1) := by decide +kernel
theorem d78_48 : decode Y78.2.1 48 = .ok (.invokevirtual 172, 3) := by decide +kernel
theorem d78_51 : decode Y78.2.1 51 = .ok (.ireturn, 1) := by decide +kernel
theorem E78 (d : Nat) (a0 : Nat) (x1 : Int32) (x2 : Int32) (h0 : ts_sh a0 = (0, 11)) (m : lt_m) : lt_ev (d + 1) 78 [.inr (.inr (some a0)), .inl x1, .inl x2] m = lt_cI (lt_ev d 79 [.inl x1] m) (fun v1 m1 => (if v1 = 0 then (some (some (.inl (-1 : Int32)), m1)) else (lt_cI (lt_ev d 80 [.inl x2] m1) (fun v2 m2 => (if ¬ v2 = 0 then (if (m2.1 (a0 + 13) 5) < (6 : Int32) then (lt_cV (lt_ev d 81 [.inr (.inr (some (a0 + 81))), .inr (.inr (some (a0 + 13)))] m2) (fun m3 => (lt_cI (lt_ev d 87 [.inr (.inr (some (a0 + 13))), .inl x1, .inl x2] m3) (fun v3 m4 => (some (some (.inl v3), m4)))))) else (some (some (.inl (-2 : Int32)), m2))) else (some (some (.inl (-1 : Int32)), m2))))))) := by
  refine Eq.trans (lt_enter2 (ls := [some (.inr (.inr (some a0))), some (.inl x1), some (.inl x2)]) hY78 (Nat.le_of_ble_eq_true rfl) (by rfl)) ?_
  refine Eq.trans (li_iload_n d78_0 (by rfl)) ?_
  refine Eq.trans (li_isI d78_1 bi_11_159 ca_11_159 kd_79 (by rfl) (by rfl) (Nat.le_of_ble_eq_true rfl) (Nat.le_of_ble_eq_true rfl)) ?_
  refine lt_cI_c (fun v1 m1 => ?_)
  refine Eq.trans (li_if_eq (t := 14) d78_4 (by rfl)) ?_
  refine lt_ite (fun c1 => ?_) (fun c1 => ?_)
  · refine Eq.trans (li_iconst d78_14 ic_n1) ?_
    exact li_iret d78_15 rfl
  · refine Eq.trans (li_iload_n d78_7 (by rfl)) ?_
    refine Eq.trans (li_isI d78_8 bi_11_162 ca_11_162 kd_80 (by rfl) (by rfl) (Nat.le_of_ble_eq_true rfl) (Nat.le_of_ble_eq_true rfl)) ?_
    refine lt_cI_c (fun v2 m2 => ?_)
    refine Eq.trans (li_if_ne (t := 16) d78_11 (by rfl)) ?_
    refine lt_ite (fun c2 => ?_) (fun c2 => ?_)
    · refine Eq.trans (li_aload_n d78_16 (by rfl)) ?_
      refine Eq.trans (li_getr d78_17 fa_11_47 h0 rfl rfl rfl (by decide)) ?_
      refine Eq.trans (li_geti d78_20 fa_11_165 (sf_of h0 5 (by decide) (by decide)) rfl) ?_
      refine Eq.trans (li_bipush d78_23 bi_6) ?_
      refine Eq.trans (li_icmp_lt (t := 31) d78_25 (by rfl)) ?_
      refine lt_ite (fun c3 => ?_) (fun c3 => ?_)
      · refine Eq.trans (li_aload_n d78_31 (by rfl)) ?_
        refine Eq.trans (li_getr d78_32 fa_11_54 h0 rfl rfl rfl (by decide)) ?_
        refine Eq.trans (li_aload_n d78_35 (by rfl)) ?_
        refine Eq.trans (li_getr d78_36 fa_11_47 h0 rfl rfl rfl (by decide)) ?_
        refine Eq.trans (li_ivV d78_39 ca_11_168 kd_81 kl_81 (by rfl) (by rfl) (sf_of h0 6 (by decide) (by decide)) (Nat.le_of_ble_eq_true rfl) (Nat.le_of_ble_eq_true rfl)) ?_
        refine lt_cV_c (fun m3 => ?_)
        refine Eq.trans (li_aload_n d78_42 (by rfl)) ?_
        refine Eq.trans (li_getr d78_43 fa_11_47 h0 rfl rfl rfl (by decide)) ?_
        refine Eq.trans (li_iload_n d78_46 (by rfl)) ?_
        refine Eq.trans (li_iload_n d78_47 (by rfl)) ?_
        refine Eq.trans (li_ivI d78_48 ca_11_172 kd_87 kl_87 (by rfl) (by rfl) (sf_of h0 5 (by decide) (by decide)) (Nat.le_of_ble_eq_true rfl) (Nat.le_of_ble_eq_true rfl)) ?_
        refine lt_cI_c (fun v3 m4 => ?_)
        exact li_iret d78_51 rfl
      · refine Eq.trans (li_bipush d78_28 bi_n2) ?_
        exact li_iret d78_30 rfl
    · refine Eq.trans (li_iconst d78_14 ic_n1) ?_
      exact li_iret d78_15 rfl
/-! TransitSeals.isSum(I)Z -/
theorem d79_0 : decode Y79.2.1 0 = .ok (.iload_n 0, 1) := by decide +kernel
theorem d79_1 : decode Y79.2.1 1 = .ok (.ifCond .lt 14, 3) := by decide +kernel
theorem d79_4 : decode Y79.2.1 4 = .ok (.iload_n 0, 1) := by decide +kernel
theorem d79_5 : decode Y79.2.1 5 = .ok (.ldc_w 426, 3) := by decide +kernel
theorem d79_8 : decode Y79.2.1 8 = .ok (.if_icmp .gt 7, 3) := by decide +kernel
theorem d79_11 : decode Y79.2.1 11 = .ok (.iconst 1, 1) := by decide +kernel
theorem d79_12 : decode Y79.2.1 12 = .ok (.goto 4, 3) := by decide +kernel
theorem d79_15 : decode Y79.2.1 15 = .ok (.iconst 0, 1) := by decide +kernel
theorem d79_16 : decode Y79.2.1 16 = .ok (.ireturn, 1) := by decide +kernel
theorem E79 (d : Nat) (x0 : Int32)  (m : lt_m) : lt_ev (d + 1) 79 [.inl x0] m = if x0 < 0 then (some (some (.inl (0 : Int32)), m)) else (if (999999 : Int32) < x0 then (some (some (.inl (0 : Int32)), m)) else (some (some (.inl (1 : Int32)), m))) := by
  refine Eq.trans (lt_enter2 (ls := [some (.inl x0)]) hY79 (Nat.le_of_ble_eq_true rfl) (by rfl)) ?_
  refine Eq.trans (li_iload_n d79_0 (by rfl)) ?_
  refine Eq.trans (li_if_lt (t := 15) d79_1 (by rfl)) ?_
  refine lt_ite (fun c1 => ?_) (fun c1 => ?_)
  · refine Eq.trans (li_iconst d79_15 ic_0) ?_
    exact li_zret d79_16 rfl (by decide)
  · refine Eq.trans (li_iload_n d79_4 (by rfl)) ?_
    refine Eq.trans (li_ldc_w d79_5 cI_11_426) ?_
    refine Eq.trans (li_icmp_gt (t := 15) d79_8 (by rfl)) ?_
    refine lt_ite (fun c2 => ?_) (fun c2 => ?_)
    · refine Eq.trans (li_iconst d79_15 ic_0) ?_
      exact li_zret d79_16 rfl (by decide)
    · refine Eq.trans (li_iconst d79_11 ic_1) ?_
      refine Eq.trans (li_goto (t := 16) d79_12 (by rfl)) ?_
      exact li_zret d79_16 rfl (by decide)
/-! TransitSeals.isLevel(I)Z -/
theorem d80_0 : decode Y80.2.1 0 = .ok (.iload_n 0, 1) := by decide +kernel
theorem d80_1 : decode Y80.2.1 1 = .ok (.ifCond .lt 12, 3) := by decide +kernel
theorem d80_4 : decode Y80.2.1 4 = .ok (.iload_n 0, 1) := by decide +kernel
theorem d80_5 : decode Y80.2.1 5 = .ok (.iconst 3, 1) := by decide +kernel
theorem d80_6 : decode Y80.2.1 6 = .ok (.if_icmp .gt 7, 3) := by decide +kernel
theorem d80_9 : decode Y80.2.1 9 = .ok (.iconst 1, 1) := by decide +kernel
theorem d80_10 : decode Y80.2.1 10 = .ok (.goto 4, 3) := by decide +kernel
theorem d80_13 : decode Y80.2.1 13 = .ok (.iconst 0, 1) := by decide +kernel
theorem d80_14 : decode Y80.2.1 14 = .ok (.ireturn, 1) := by decide +kernel
theorem E80 (d : Nat) (x0 : Int32)  (m : lt_m) : lt_ev (d + 1) 80 [.inl x0] m = if x0 < 0 then (some (some (.inl (0 : Int32)), m)) else (if (3 : Int32) < x0 then (some (some (.inl (0 : Int32)), m)) else (some (some (.inl (1 : Int32)), m))) := by
  refine Eq.trans (lt_enter2 (ls := [some (.inl x0)]) hY80 (Nat.le_of_ble_eq_true rfl) (by rfl)) ?_
  refine Eq.trans (li_iload_n d80_0 (by rfl)) ?_
  refine Eq.trans (li_if_lt (t := 13) d80_1 (by rfl)) ?_
  refine lt_ite (fun c1 => ?_) (fun c1 => ?_)
  · refine Eq.trans (li_iconst d80_13 ic_0) ?_
    exact li_zret d80_14 rfl (by decide)
  · refine Eq.trans (li_iload_n d80_4 (by rfl)) ?_
    refine Eq.trans (li_iconst d80_5 ic_3) ?_
    refine Eq.trans (li_icmp_gt (t := 13) d80_6 (by rfl)) ?_
    refine lt_ite (fun c2 => ?_) (fun c2 => ?_)
    · refine Eq.trans (li_iconst d80_13 ic_0) ?_
      exact li_zret d80_14 rfl (by decide)
    · refine Eq.trans (li_iconst d80_9 ic_1) ?_
      refine Eq.trans (li_goto (t := 14) d80_10 (by rfl)) ?_
      exact li_zret d80_14 rfl (by decide)
/-! TransitSeals$History.remember(LTransitSeals$Ledger;)V -/
theorem d81_0 : decode Y81.2.1 0 = .ok (.aload_n 0, 1) := by decide +kernel
theorem d81_1 : decode Y81.2.1 1 = .ok (.aload_n 0, 1) := by decide +kernel
theorem d81_2 : decode Y81.2.1 2 = .ok (.getfield 30, 3) := by decide +kernel
theorem d81_5 : decode Y81.2.1 5 = .ok (.iconst 1, 1) := by decide +kernel
theorem d81_6 : decode Y81.2.1 6 = .ok (.iadd, 1) := by decide +kernel
theorem d81_7 : decode Y81.2.1 7 = .ok (.bipush 8, 2) := by decide +kernel
theorem d81_9 : decode Y81.2.1 9 = .ok (.irem, 1) := by decide +kernel
theorem d81_10 : decode Y81.2.1 10 = .ok (.putfield 30, 3) := by decide +kernel
theorem d81_13 : decode Y81.2.1 13 = .ok (.aload_n 0, 1) := by decide +kernel
theorem d81_14 : decode Y81.2.1 14 = .ok (.aload_n 0, 1) := by decide +kernel
theorem d81_15 : decode Y81.2.1 15 = .ok (.getfield 22, 3) := by decide +kernel
theorem d81_18 : decode Y81.2.1 18 = .ok (.iconst 1, 1) := by decide +kernel
theorem d81_19 : decode Y81.2.1 19 = .ok (.iadd, 1) := by decide +kernel
theorem d81_20 : decode Y81.2.1 20 = .ok (.bipush 8, 2) := by decide +kernel
theorem d81_22 : decode Y81.2.1 22 = .ok (.invokestatic 33, 3) := by decide +kernel
theorem d81_25 : decode Y81.2.1 25 = .ok (.putfield 22, 3) := by decide +kernel
theorem d81_28 : decode Y81.2.1 28 = .ok (.aload_n 0, 1) := by decide +kernel
theorem d81_29 : decode Y81.2.1 29 = .ok (.invokevirtual 39, 3) := by decide +kernel
theorem d81_32 : decode Y81.2.1 32 = .ok (.astore_n 2, 1) := by decide +kernel
theorem d81_33 : decode Y81.2.1 33 = .ok (.aload_n 2, 1) := by decide +kernel
theorem d81_34 : decode Y81.2.1 34 = .ok (.ifnull 8, 3) := by decide +kernel
theorem d81_37 : decode Y81.2.1 37 = .ok (.aload_n 2, 1) := by decide +kernel
theorem d81_38 : decode Y81.2.1 38 = .ok (.aload_n 1, 1) := by decide +kernel
theorem d81_39 : decode Y81.2.1 39 = .ok (.invokevirtual 43, 3) := by decide +kernel
theorem d81_42 : decode Y81.2.1 42 = .ok (.return_, 1) := by decide +kernel
theorem E81 (d : Nat) (a0 : Nat) (a1 : Nat) (h0 : ts_sh a0 = (0, 1)) (h1 : ts_sh a1 = (0, 2)) (m : lt_m) : lt_ev (d + 1) 81 [.inr (.inr (some a0)), .inr (.inr (some a1))] m = lt_let (lm_i (lm_i m a0 3 (((m.1 a0 3) + (1 : Int32)) - ((m.1 a0 3) + (1 : Int32)) / (8 : Int32) * (8 : Int32))) a0 4 (lm_min (((lm_i m a0 3 (((m.1 a0 3) + (1 : Int32)) - ((m.1 a0 3) + (1 : Int32)) / (8 : Int32) * (8 : Int32))).1 a0 4) + (1 : Int32)) (8 : Int32))) (fun m1 => (lt_cR (lt_ev d 82 [.inr (.inr (some a0))] m1) (fun v1 m2 => (lt_nl v1 (some (none, m2)) (fun q1 => (lt_gd (ts_sh q1 = (0, 2)) (lt_cV (lt_ev d 83 [.inr (.inr (some q1)), .inr (.inr (some a1))] m2) (fun m3 => (some (none, m3)))))))))) := by
  refine Eq.trans (lt_enter2 (ls := [some (.inr (.inr (some a0))), some (.inr (.inr (some a1))), none]) hY81 (Nat.le_of_ble_eq_true rfl) (by rfl)) ?_
  refine Eq.trans (li_aload_n d81_0 (by rfl)) ?_
  refine Eq.trans (li_aload_n d81_1 (by rfl)) ?_
  refine Eq.trans (li_geti d81_2 fa_1_30 h0 rfl) ?_
  refine Eq.trans (li_iconst d81_5 ic_1) ?_
  refine Eq.trans (li_iadd d81_6) ?_
  refine Eq.trans (li_bipush d81_7 bi_8) ?_
  refine Eq.trans (li_irem d81_9) ?_
  refine Eq.trans (lt_gd_t (by decide)) ?_
  refine Eq.trans (li_puti d81_10 fa_1_30 h0 rfl rfl) ?_
  refine Eq.trans (li_aload_n d81_13 (by rfl)) ?_
  refine Eq.trans (li_aload_n d81_14 (by rfl)) ?_
  refine Eq.trans (li_geti d81_15 fa_1_22 h0 rfl) ?_
  refine Eq.trans (li_iconst d81_18 ic_1) ?_
  refine Eq.trans (li_iadd d81_19) ?_
  refine Eq.trans (li_bipush d81_20 bi_8) ?_
  refine Eq.trans (li_min d81_22 bi_1_33 (Nat.le_of_ble_eq_true rfl)) ?_
  refine Eq.trans (li_puti d81_25 fa_1_22 h0 rfl rfl) ?_
  refine lt_let_x (F := fun m1 => lt_run d Y81 28 [some (.inr (.inr (some a0))), some (.inr (.inr (some a1))), none] [] m1) (fun m1 => ?_)
  refine Eq.trans (li_aload_n d81_28 (by rfl)) ?_
  refine Eq.trans (li_ivR d81_29 ca_1_39 kd_82 kl_82 (by rfl) (by rfl) h0 (Nat.le_of_ble_eq_true rfl) (Nat.le_of_ble_eq_true rfl)) ?_
  refine lt_cR_c (fun v1 m2 => ?_)
  refine Eq.trans (li_astore_n (ls' := [some (.inr (.inr (some a0))), some (.inr (.inr (some a1))), some (.inr (.inr v1))]) d81_32 (by decide) (by rfl)) ?_
  refine Eq.trans (li_aload_n d81_33 (by rfl)) ?_
  refine lt_nl_x (F := fun oz => lt_run d Y81 34 [some (.inr (.inr (some a0))), some (.inr (.inr (some a1))), some (.inr (.inr oz))] [.inr (.inr oz)] m2) ?_ (fun q1 => ?_)
  · refine Eq.trans (li_ifnull_n (t := 42) d81_34 (by rfl)) ?_
    exact li_vret d81_42 rfl
  · refine Eq.trans (li_ifnull_s d81_34) ?_
    refine Eq.trans (li_aload_n d81_37 (by rfl)) ?_
    refine Eq.trans (li_aload_n d81_38 (by rfl)) ?_
    refine Eq.trans (li_ginv d81_39 ca_1_43 kl_83 (by rfl)) ?_
    refine lt_gd_c (fun g1 => ?_)
    refine Eq.trans (li_ivV d81_39 ca_1_43 kd_83 kl_83 (by rfl) (by rfl) g1 (Nat.le_of_ble_eq_true rfl) (Nat.le_of_ble_eq_true rfl)) ?_
    refine lt_cV_c (fun m3 => ?_)
    exact li_vret d81_42 rfl
/-! TransitSeals$History.latestBefore()LTransitSeals$Ledger; -/
theorem d82_0 : decode Y82.2.1 0 = .ok (.aload_n 0, 1) := by decide +kernel
theorem d82_1 : decode Y82.2.1 1 = .ok (.getfield 30, 3) := by decide +kernel
theorem d82_4 : decode Y82.2.1 4 = .ok (.ifCond .lt 27, 3) := by decide +kernel
theorem d82_7 : decode Y82.2.1 7 = .ok (.aload_n 0, 1) := by decide +kernel
theorem d82_8 : decode Y82.2.1 8 = .ok (.getfield 30, 3) := by decide +kernel
theorem d82_11 : decode Y82.2.1 11 = .ok (.aload_n 0, 1) := by decide +kernel
theorem d82_12 : decode Y82.2.1 12 = .ok (.getfield 11, 3) := by decide +kernel
theorem d82_15 : decode Y82.2.1 15 = .ok (.arraylength, 1) := by decide +kernel
theorem d82_16 : decode Y82.2.1 16 = .ok (.if_icmp .ge 15, 3) := by decide +kernel
theorem d82_19 : decode Y82.2.1 19 = .ok (.aload_n 0, 1) := by decide +kernel
theorem d82_20 : decode Y82.2.1 20 = .ok (.getfield 11, 3) := by decide +kernel
theorem d82_23 : decode Y82.2.1 23 = .ok (.aload_n 0, 1) := by decide +kernel
theorem d82_24 : decode Y82.2.1 24 = .ok (.getfield 30, 3) := by decide +kernel
theorem d82_27 : decode Y82.2.1 27 = .ok (.aaload, 1) := by decide +kernel
theorem d82_28 : decode Y82.2.1 28 = .ok (.goto 4, 3) := by decide +kernel
theorem d82_31 : decode Y82.2.1 31 = .ok (.aconst_null, 1) := by decide +kernel
theorem d82_32 : decode Y82.2.1 32 = .ok (.areturn, 1) := by decide +kernel
theorem E82 (d : Nat) (a0 : Nat) (h0 : ts_sh a0 = (0, 1)) (m : lt_m) : lt_ev (d + 1) 82 [.inr (.inr (some a0))] m = if (m.1 a0 3) < 0 then (some (some (.inr (.inr none)), m)) else (if (8 : Int32) ≤ (m.1 a0 3) then (some (some (.inr (.inr none)), m)) else (lt_gd (0 ≤ (m.1 a0 3) ∧ ((m.1 a0 3)).toNatClampNeg < 8) (some (some (.inr (.inr (some ((a0 + 1) + 69 + 68 * ((m.1 a0 3)).toNatClampNeg)))), m)))) := by
  refine Eq.trans (lt_enter2 (ls := [some (.inr (.inr (some a0)))]) hY82 (Nat.le_of_ble_eq_true rfl) (by rfl)) ?_
  refine Eq.trans (li_aload_n d82_0 (by rfl)) ?_
  refine Eq.trans (li_geti d82_1 fa_1_30 h0 rfl) ?_
  refine Eq.trans (li_if_lt (t := 31) d82_4 (by rfl)) ?_
  refine lt_ite (fun c1 => ?_) (fun c1 => ?_)
  · refine Eq.trans (li_null d82_31) ?_
    exact li_aret d82_32 rfl
  · refine Eq.trans (li_aload_n d82_7 (by rfl)) ?_
    refine Eq.trans (li_geti d82_8 fa_1_30 h0 rfl) ?_
    refine Eq.trans (li_aload_n d82_11 (by rfl)) ?_
    refine Eq.trans (li_getr d82_12 fa_1_11 h0 rfl rfl rfl (by decide)) ?_
    refine Eq.trans (li_alen d82_15 (sf_of h0 0 (by decide) (by decide)) (by decide) (by rfl)) ?_
    refine Eq.trans (li_icmp_ge (t := 31) d82_16 (by rfl)) ?_
    refine lt_ite (fun c2 => ?_) (fun c2 => ?_)
    · refine Eq.trans (li_null d82_31) ?_
      exact li_aret d82_32 rfl
    · refine Eq.trans (li_aload_n d82_19 (by rfl)) ?_
      refine Eq.trans (li_getr d82_20 fa_1_11 h0 rfl rfl rfl (by decide)) ?_
      refine Eq.trans (li_aload_n d82_23 (by rfl)) ?_
      refine Eq.trans (li_geti d82_24 fa_1_30 h0 rfl) ?_
      refine Eq.trans (li_aald5 d82_27 (sf_of h0 0 (by decide) (by decide))) ?_
      refine lt_gd_c (fun g1 => ?_)
      refine Eq.trans (li_goto (t := 32) d82_28 (by rfl)) ?_
      exact li_aret d82_32 rfl
/-! TransitSeals$Ledger.copyFrom(LTransitSeals$Ledger;)V -/
theorem d83_0 : decode Y83.2.1 0 = .ok (.aload_n 0, 1) := by decide +kernel
theorem d83_1 : decode Y83.2.1 1 = .ok (.aload_n 1, 1) := by decide +kernel
theorem d83_2 : decode Y83.2.1 2 = .ok (.getfield 34, 3) := by decide +kernel
theorem d83_5 : decode Y83.2.1 5 = .ok (.putfield 34, 3) := by decide +kernel
theorem d83_8 : decode Y83.2.1 8 = .ok (.aload_n 0, 1) := by decide +kernel
theorem d83_9 : decode Y83.2.1 9 = .ok (.aload_n 1, 1) := by decide +kernel
theorem d83_10 : decode Y83.2.1 10 = .ok (.getfield 38, 3) := by decide +kernel
theorem d83_13 : decode Y83.2.1 13 = .ok (.putfield 38, 3) := by decide +kernel
theorem d83_16 : decode Y83.2.1 16 = .ok (.aload_n 0, 1) := by decide +kernel
theorem d83_17 : decode Y83.2.1 17 = .ok (.aload_n 1, 1) := by decide +kernel
theorem d83_18 : decode Y83.2.1 18 = .ok (.getfield 41, 3) := by decide +kernel
theorem d83_21 : decode Y83.2.1 21 = .ok (.putfield 41, 3) := by decide +kernel
theorem d83_24 : decode Y83.2.1 24 = .ok (.aload_n 1, 1) := by decide +kernel
theorem d83_25 : decode Y83.2.1 25 = .ok (.getfield 9, 3) := by decide +kernel
theorem d83_28 : decode Y83.2.1 28 = .ok (.aload_n 0, 1) := by decide +kernel
theorem d83_29 : decode Y83.2.1 29 = .ok (.getfield 9, 3) := by decide +kernel
theorem d83_32 : decode Y83.2.1 32 = .ok (.invokestatic 50, 3) := by decide +kernel
theorem d83_35 : decode Y83.2.1 35 = .ok (.aload_n 1, 1) := by decide +kernel
theorem d83_36 : decode Y83.2.1 36 = .ok (.getfield 15, 3) := by decide +kernel
theorem d83_39 : decode Y83.2.1 39 = .ok (.aload_n 0, 1) := by decide +kernel
theorem d83_40 : decode Y83.2.1 40 = .ok (.getfield 15, 3) := by decide +kernel
theorem d83_43 : decode Y83.2.1 43 = .ok (.invokestatic 50, 3) := by decide +kernel
theorem d83_46 : decode Y83.2.1 46 = .ok (.iconst 0, 1) := by decide +kernel
theorem d83_47 : decode Y83.2.1 47 = .ok (.istore_n 2, 1) := by decide +kernel
theorem d83_48 : decode Y83.2.1 48 = .ok (.iload_n 2, 1) := by decide +kernel
theorem d83_49 : decode Y83.2.1 49 = .ok (.aload_n 0, 1) := by decide +kernel
theorem d83_50 : decode Y83.2.1 50 = .ok (.getfield 20, 3) := by decide +kernel
theorem d83_53 : decode Y83.2.1 53 = .ok (.arraylength, 1) := by decide +kernel
theorem d83_54 : decode Y83.2.1 54 = .ok (.if_icmp .ge 33, 3) := by decide +kernel
theorem d83_57 : decode Y83.2.1 57 = .ok (.iload_n 2, 1) := by decide +kernel
theorem d83_58 : decode Y83.2.1 58 = .ok (.aload_n 1, 1) := by decide +kernel
theorem d83_59 : decode Y83.2.1 59 = .ok (.getfield 20, 3) := by decide +kernel
theorem d83_62 : decode Y83.2.1 62 = .ok (.arraylength, 1) := by decide +kernel
theorem d83_63 : decode Y83.2.1 63 = .ok (.if_icmp .ge 24, 3) := by decide +kernel
theorem d83_66 : decode Y83.2.1 66 = .ok (.aload_n 0, 1) := by decide +kernel
theorem d83_67 : decode Y83.2.1 67 = .ok (.getfield 20, 3) := by decide +kernel
theorem d83_70 : decode Y83.2.1 70 = .ok (.iload_n 2, 1) := by decide +kernel
theorem d83_71 : decode Y83.2.1 71 = .ok (.aaload, 1) := by decide +kernel
theorem d83_72 : decode Y83.2.1 72 = .ok (.aload_n 1, 1) := by decide +kernel
theorem d83_73 : decode Y83.2.1 73 = .ok (.getfield 20, 3) := by decide +kernel
theorem d83_76 : decode Y83.2.1 76 = .ok (.iload_n 2, 1) := by decide +kernel
theorem d83_77 : decode Y83.2.1 77 = .ok (.aaload, 1) := by decide +kernel
theorem d83_78 : decode Y83.2.1 78 = .ok (.invokevirtual 54, 3) := by decide +kernel
theorem d83_81 : decode Y83.2.1 81 = .ok (.iinc 2 1, 3) := by decide +kernel
theorem d83_84 : decode Y83.2.1 84 = .ok (.goto (-36), 3) := by decide +kernel
theorem d83_87 : decode Y83.2.1 87 = .ok (.aload_n 0, 1) := by decide +kernel
theorem d83_88 : decode Y83.2.1 88 = .ok (.getfield 27, 3) := by decide +kernel
theorem d83_91 : decode Y83.2.1 91 = .ok (.aload_n 1, 1) := by decide +kernel
theorem d83_92 : decode Y83.2.1 92 = .ok (.getfield 27, 3) := by decide +kernel
theorem d83_95 : decode Y83.2.1 95 = .ok (.invokevirtual 58, 3) := by decide +kernel
theorem d83_98 : decode Y83.2.1 98 = .ok (.return_, 1) := by decide +kernel
noncomputable def L83_48 (d : Nat) (a0 : Nat) (a1 : Nat) (x2 : Int32) (m : lt_m) : Option lt_r := lt_run d Y83 48 [some (.inr (.inr (some a0))), some (.inr (.inr (some a1))), some (.inl x2)] [] m
theorem E83 (d : Nat) (a0 : Nat) (a1 : Nat) (h0 : ts_sh a0 = (0, 2)) (h1 : ts_sh a1 = (0, 2)) (m : lt_m) : lt_ev (d + 1) 83 [.inr (.inr (some a0)), .inr (.inr (some a1))] m = lt_let (lm_i (lm_i (lm_i m a0 4 (m.1 a1 4)) a0 5 ((lm_i m a0 4 (m.1 a1 4)).1 a1 5)) a0 6 ((lm_i (lm_i m a0 4 (m.1 a1 4)) a0 5 ((lm_i m a0 4 (m.1 a1 4)).1 a1 5)).1 a1 6)) (fun m1 => (lt_cV (lt_ev d 84 [.inr (.inr (some (a1 + 1))), .inr (.inr (some (a0 + 1)))] m1) (fun m2 => (lt_cV (lt_ev d 84 [.inr (.inr (some (a1 + 2))), .inr (.inr (some (a0 + 2)))] m2) (fun m3 => (L83_48 d a0 a1 (0 : Int32) m3)))))) := by
  refine Eq.trans (lt_enter2 (ls := [some (.inr (.inr (some a0))), some (.inr (.inr (some a1))), none]) hY83 (Nat.le_of_ble_eq_true rfl) (by rfl)) ?_
  refine Eq.trans (li_aload_n d83_0 (by rfl)) ?_
  refine Eq.trans (li_aload_n d83_1 (by rfl)) ?_
  refine Eq.trans (li_geti d83_2 fa_2_34 h1 rfl) ?_
  refine Eq.trans (li_puti d83_5 fa_2_34 h0 rfl rfl) ?_
  refine Eq.trans (li_aload_n d83_8 (by rfl)) ?_
  refine Eq.trans (li_aload_n d83_9 (by rfl)) ?_
  refine Eq.trans (li_geti d83_10 fa_2_38 h1 rfl) ?_
  refine Eq.trans (li_puti d83_13 fa_2_38 h0 rfl rfl) ?_
  refine Eq.trans (li_aload_n d83_16 (by rfl)) ?_
  refine Eq.trans (li_aload_n d83_17 (by rfl)) ?_
  refine Eq.trans (li_geti d83_18 fa_2_41 h1 rfl) ?_
  refine Eq.trans (li_puti d83_21 fa_2_41 h0 rfl rfl) ?_
  refine lt_let_x (F := fun m1 => lt_run d Y83 24 [some (.inr (.inr (some a0))), some (.inr (.inr (some a1))), none] [] m1) (fun m1 => ?_)
  refine Eq.trans (li_aload_n d83_24 (by rfl)) ?_
  refine Eq.trans (li_getr d83_25 fa_2_9 h1 rfl rfl rfl (by decide)) ?_
  refine Eq.trans (li_aload_n d83_28 (by rfl)) ?_
  refine Eq.trans (li_getr d83_29 fa_2_9 h0 rfl rfl rfl (by decide)) ?_
  refine Eq.trans (li_isV d83_32 bi_2_50 ca_2_50 kd_84 (by rfl) (by rfl) (Nat.le_of_ble_eq_true rfl) (Nat.le_of_ble_eq_true rfl)) ?_
  refine lt_cV_c (fun m2 => ?_)
  refine Eq.trans (li_aload_n d83_35 (by rfl)) ?_
  refine Eq.trans (li_getr d83_36 fa_2_15 h1 rfl rfl rfl (by decide)) ?_
  refine Eq.trans (li_aload_n d83_39 (by rfl)) ?_
  refine Eq.trans (li_getr d83_40 fa_2_15 h0 rfl rfl rfl (by decide)) ?_
  refine Eq.trans (li_isV d83_43 bi_2_50 ca_2_50 kd_84 (by rfl) (by rfl) (Nat.le_of_ble_eq_true rfl) (Nat.le_of_ble_eq_true rfl)) ?_
  refine lt_cV_c (fun m3 => ?_)
  refine Eq.trans (li_iconst d83_46 ic_0) ?_
  refine Eq.trans (li_istore_n (ls' := [some (.inr (.inr (some a0))), some (.inr (.inr (some a1))), some (.inl (0 : Int32))]) d83_47 (by decide) (by rfl)) ?_
  rfl
theorem E83_48 (d : Nat) (a0 : Nat) (a1 : Nat) (x2 : Int32) (h0 : ts_sh a0 = (0, 2)) (h1 : ts_sh a1 = (0, 2)) (m : lt_m) : L83_48 d a0 a1 x2 m = if (20 : Int32) ≤ x2 then (lt_cV (lt_ev d 86 [.inr (.inr (some (a0 + 4))), .inr (.inr (some (a1 + 4)))] m) (fun m1 => (some (none, m1)))) else (if (20 : Int32) ≤ x2 then (lt_cV (lt_ev d 86 [.inr (.inr (some (a0 + 4))), .inr (.inr (some (a1 + 4)))] m) (fun m2 => (some (none, m2)))) else (lt_gd (0 ≤ x2 ∧ (x2).toNatClampNeg < 20) (lt_gd (0 ≤ x2 ∧ (x2).toNatClampNeg < 20) (lt_cV (lt_ev d 85 [.inr (.inr (some ((a0 + 3) + 5 + 3 * (x2).toNatClampNeg))), .inr (.inr (some ((a1 + 3) + 5 + 3 * (x2).toNatClampNeg)))] m) (fun m3 => (L83_48 d a0 a1 (x2 + (1 : Int32)) m3)))))) := by
  show lt_run d Y83 48 [some (.inr (.inr (some a0))), some (.inr (.inr (some a1))), some (.inl x2)] [] m = _
  refine Eq.trans (li_iload_n d83_48 (by rfl)) ?_
  refine Eq.trans (li_aload_n d83_49 (by rfl)) ?_
  refine Eq.trans (li_getr d83_50 fa_2_20 h0 rfl rfl rfl (by decide)) ?_
  refine Eq.trans (li_alen d83_53 (sf_of h0 2 (by decide) (by decide)) (by decide) (by rfl)) ?_
  refine Eq.trans (li_icmp_ge (t := 87) d83_54 (by rfl)) ?_
  refine lt_ite (fun c1 => ?_) (fun c1 => ?_)
  · refine Eq.trans (li_aload_n d83_87 (by rfl)) ?_
    refine Eq.trans (li_getr d83_88 fa_2_27 h0 rfl rfl rfl (by decide)) ?_
    refine Eq.trans (li_aload_n d83_91 (by rfl)) ?_
    refine Eq.trans (li_getr d83_92 fa_2_27 h1 rfl rfl rfl (by decide)) ?_
    refine Eq.trans (li_ivV d83_95 ca_2_58 kd_86 kl_86 (by rfl) (by rfl) (sf_of h0 3 (by decide) (by decide)) (Nat.le_of_ble_eq_true rfl) (Nat.le_of_ble_eq_true rfl)) ?_
    refine lt_cV_c (fun m1 => ?_)
    exact li_vret d83_98 rfl
  · refine Eq.trans (li_iload_n d83_57 (by rfl)) ?_
    refine Eq.trans (li_aload_n d83_58 (by rfl)) ?_
    refine Eq.trans (li_getr d83_59 fa_2_20 h1 rfl rfl rfl (by decide)) ?_
    refine Eq.trans (li_alen d83_62 (sf_of h1 2 (by decide) (by decide)) (by decide) (by rfl)) ?_
    refine Eq.trans (li_icmp_ge (t := 87) d83_63 (by rfl)) ?_
    refine lt_ite (fun c2 => ?_) (fun c2 => ?_)
    · refine Eq.trans (li_aload_n d83_87 (by rfl)) ?_
      refine Eq.trans (li_getr d83_88 fa_2_27 h0 rfl rfl rfl (by decide)) ?_
      refine Eq.trans (li_aload_n d83_91 (by rfl)) ?_
      refine Eq.trans (li_getr d83_92 fa_2_27 h1 rfl rfl rfl (by decide)) ?_
      refine Eq.trans (li_ivV d83_95 ca_2_58 kd_86 kl_86 (by rfl) (by rfl) (sf_of h0 3 (by decide) (by decide)) (Nat.le_of_ble_eq_true rfl) (Nat.le_of_ble_eq_true rfl)) ?_
      refine lt_cV_c (fun m2 => ?_)
      exact li_vret d83_98 rfl
    · refine Eq.trans (li_aload_n d83_66 (by rfl)) ?_
      refine Eq.trans (li_getr d83_67 fa_2_20 h0 rfl rfl rfl (by decide)) ?_
      refine Eq.trans (li_iload_n d83_70 (by rfl)) ?_
      refine Eq.trans (li_aald4 d83_71 (sf_of h0 2 (by decide) (by decide))) ?_
      refine lt_gd_c (fun g1 => ?_)
      refine Eq.trans (li_aload_n d83_72 (by rfl)) ?_
      refine Eq.trans (li_getr d83_73 fa_2_20 h1 rfl rfl rfl (by decide)) ?_
      refine Eq.trans (li_iload_n d83_76 (by rfl)) ?_
      refine Eq.trans (li_aald4 d83_77 (sf_of h1 2 (by decide) (by decide))) ?_
      refine lt_gd_c (fun g2 => ?_)
      refine Eq.trans (li_ivV d83_78 ca_2_54 kd_85 kl_85 (by rfl) (by rfl) (sm_4 (sf_of h0 2 (by decide) (by decide)) g1.2) (Nat.le_of_ble_eq_true rfl) (Nat.le_of_ble_eq_true rfl)) ?_
      refine lt_cV_c (fun m3 => ?_)
      refine Eq.trans (li_iinc (ls' := [some (.inr (.inr (some a0))), some (.inr (.inr (some a1))), some (.inl (x2 + (1 : Int32)))]) d83_81 (by rfl) (by decide) ic_1 (by rfl)) ?_
      refine Eq.trans (li_goto (t := 48) d83_84 (by rfl)) ?_
      rfl
/-! TransitSeals.copy([I[I)V -/
theorem d84_0 : decode Y84.2.1 0 = .ok (.iconst 0, 1) := by decide +kernel
theorem d84_1 : decode Y84.2.1 1 = .ok (.istore_n 2, 1) := by decide +kernel
theorem d84_2 : decode Y84.2.1 2 = .ok (.iload_n 2, 1) := by decide +kernel
theorem d84_3 : decode Y84.2.1 3 = .ok (.aload_n 0, 1) := by decide +kernel
theorem d84_4 : decode Y84.2.1 4 = .ok (.arraylength, 1) := by decide +kernel
theorem d84_5 : decode Y84.2.1 5 = .ok (.if_icmp .ge 21, 3) := by decide +kernel
theorem d84_8 : decode Y84.2.1 8 = .ok (.iload_n 2, 1) := by decide +kernel
theorem d84_9 : decode Y84.2.1 9 = .ok (.aload_n 1, 1) := by decide +kernel
theorem d84_10 : decode Y84.2.1 10 = .ok (.arraylength, 1) := by decide +kernel
theorem d84_11 : decode Y84.2.1 11 = .ok (.if_icmp .ge 15, 3) := by decide +kernel
theorem d84_14 : decode Y84.2.1 14 = .ok (.aload_n 1, 1) := by decide +kernel
theorem d84_15 : decode Y84.2.1 15 = .ok (.iload_n 2, 1) := by decide +kernel
theorem d84_16 : decode Y84.2.1 16 = .ok (.aload_n 0, 1) := by decide +kernel
theorem d84_17 : decode Y84.2.1 17 = .ok (.iload_n 2, 1) := by decide +kernel
theorem d84_18 : decode Y84.2.1 18 = .ok (.iaload, 1) := by decide +kernel
theorem d84_19 : decode Y84.2.1 19 = .ok (.iastore, 1) := by decide +kernel
theorem d84_20 : decode Y84.2.1 20 = .ok (.iinc 2 1, 3) := by decide +kernel
theorem d84_23 : decode Y84.2.1 23 = .ok (.goto (-21), 3) := by decide +kernel
theorem d84_26 : decode Y84.2.1 26 = .ok (.return_, 1) := by decide +kernel
noncomputable def L84_2 (d : Nat) (a0 : Nat) (n0 : Nat) (a1 : Nat) (n1 : Nat) (x2 : Int32) (m : lt_m) : Option lt_r := lt_run d Y84 2 [some (.inr (.inr (some a0))), some (.inr (.inr (some a1))), some (.inl x2)] [] m
theorem E84 (d : Nat) (a0 : Nat) (n0 : Nat) (a1 : Nat) (n1 : Nat) (h0 : ts_sh a0 = (1, n0)) (h1 : ts_sh a1 = (1, n1)) (m : lt_m) : lt_ev (d + 1) 84 [.inr (.inr (some a0)), .inr (.inr (some a1))] m = L84_2 d a0 n0 a1 n1 (0 : Int32) m := by
  refine Eq.trans (lt_enter2 (ls := [some (.inr (.inr (some a0))), some (.inr (.inr (some a1))), none]) hY84 (Nat.le_of_ble_eq_true rfl) (by rfl)) ?_
  refine Eq.trans (li_iconst d84_0 ic_0) ?_
  refine Eq.trans (li_istore_n (ls' := [some (.inr (.inr (some a0))), some (.inr (.inr (some a1))), some (.inl (0 : Int32))]) d84_1 (by decide) (by rfl)) ?_
  rfl
theorem E84_2 (d : Nat) (a0 : Nat) (n0 : Nat) (a1 : Nat) (n1 : Nat) (x2 : Int32) (h0 : ts_sh a0 = (1, n0)) (h1 : ts_sh a1 = (1, n1)) (m : lt_m) : L84_2 d a0 n0 a1 n1 x2 m = if (Int32.ofNat n0) ≤ x2 then (some (none, m)) else (if (Int32.ofNat n1) ≤ x2 then (some (none, m)) else (lt_gd (0 ≤ x2 ∧ (x2).toNatClampNeg < n0) (lt_gd (0 ≤ x2 ∧ (x2).toNatClampNeg < n1) (L84_2 d a0 n0 a1 n1 (x2 + (1 : Int32)) (lm_i m a1 (x2).toNatClampNeg (m.1 a0 (x2).toNatClampNeg)))))) := by
  show lt_run d Y84 2 [some (.inr (.inr (some a0))), some (.inr (.inr (some a1))), some (.inl x2)] [] m = _
  refine Eq.trans (li_iload_n d84_2 (by rfl)) ?_
  refine Eq.trans (li_aload_n d84_3 (by rfl)) ?_
  refine Eq.trans (li_alen d84_4 h0 (by decide) (by rfl)) ?_
  refine Eq.trans (li_icmp_ge (t := 26) d84_5 (by rfl)) ?_
  refine lt_ite (fun c1 => ?_) (fun c1 => ?_)
  · exact li_vret d84_26 rfl
  · refine Eq.trans (li_iload_n d84_8 (by rfl)) ?_
    refine Eq.trans (li_aload_n d84_9 (by rfl)) ?_
    refine Eq.trans (li_alen d84_10 h1 (by decide) (by rfl)) ?_
    refine Eq.trans (li_icmp_ge (t := 26) d84_11 (by rfl)) ?_
    refine lt_ite (fun c2 => ?_) (fun c2 => ?_)
    · exact li_vret d84_26 rfl
    · refine Eq.trans (li_aload_n d84_14 (by rfl)) ?_
      refine Eq.trans (li_iload_n d84_15 (by rfl)) ?_
      refine Eq.trans (li_aload_n d84_16 (by rfl)) ?_
      refine Eq.trans (li_iload_n d84_17 (by rfl)) ?_
      refine Eq.trans (li_iald d84_18 h0) ?_
      refine lt_gd_c (fun g1 => ?_)
      refine Eq.trans (li_iast d84_19 h1) ?_
      refine lt_gd_c (fun g2 => ?_)
      refine Eq.trans (li_iinc (ls' := [some (.inr (.inr (some a0))), some (.inr (.inr (some a1))), some (.inl (x2 + (1 : Int32)))]) d84_20 (by rfl) (by decide) ic_1 (by rfl)) ?_
      refine Eq.trans (li_goto (t := 2) d84_23 (by rfl)) ?_
      rfl
/-! TransitSeals$Movement.copyFrom(LTransitSeals$Movement;)V -/
theorem d85_0 : decode Y85.2.1 0 = .ok (.aload_n 0, 1) := by decide +kernel
theorem d85_1 : decode Y85.2.1 1 = .ok (.aload_n 1, 1) := by decide +kernel
theorem d85_2 : decode Y85.2.1 2 = .ok (.getfield 25, 3) := by decide +kernel
theorem d85_5 : decode Y85.2.1 5 = .ok (.putfield 25, 3) := by decide +kernel
theorem d85_8 : decode Y85.2.1 8 = .ok (.aload_n 0, 1) := by decide +kernel
theorem d85_9 : decode Y85.2.1 9 = .ok (.aload_n 1, 1) := by decide +kernel
theorem d85_10 : decode Y85.2.1 10 = .ok (.getfield 52, 3) := by decide +kernel
theorem d85_13 : decode Y85.2.1 13 = .ok (.putfield 52, 3) := by decide +kernel
theorem d85_16 : decode Y85.2.1 16 = .ok (.aload_n 0, 1) := by decide +kernel
theorem d85_17 : decode Y85.2.1 17 = .ok (.aload_n 1, 1) := by decide +kernel
theorem d85_18 : decode Y85.2.1 18 = .ok (.getfield 55, 3) := by decide +kernel
theorem d85_21 : decode Y85.2.1 21 = .ok (.putfield 55, 3) := by decide +kernel
theorem d85_24 : decode Y85.2.1 24 = .ok (.aload_n 0, 1) := by decide +kernel
theorem d85_25 : decode Y85.2.1 25 = .ok (.aload_n 1, 1) := by decide +kernel
theorem d85_26 : decode Y85.2.1 26 = .ok (.getfield 58, 3) := by decide +kernel
theorem d85_29 : decode Y85.2.1 29 = .ok (.putfield 58, 3) := by decide +kernel
theorem d85_32 : decode Y85.2.1 32 = .ok (.aload_n 0, 1) := by decide +kernel
theorem d85_33 : decode Y85.2.1 33 = .ok (.aload_n 1, 1) := by decide +kernel
theorem d85_34 : decode Y85.2.1 34 = .ok (.getfield 61, 3) := by decide +kernel
theorem d85_37 : decode Y85.2.1 37 = .ok (.putfield 61, 3) := by decide +kernel
theorem d85_40 : decode Y85.2.1 40 = .ok (.aload_n 0, 1) := by decide +kernel
theorem d85_41 : decode Y85.2.1 41 = .ok (.aload_n 1, 1) := by decide +kernel
theorem d85_42 : decode Y85.2.1 42 = .ok (.getfield 48, 3) := by decide +kernel
theorem d85_45 : decode Y85.2.1 45 = .ok (.putfield 48, 3) := by decide +kernel
theorem d85_48 : decode Y85.2.1 48 = .ok (.aload_n 0, 1) := by decide +kernel
theorem d85_49 : decode Y85.2.1 49 = .ok (.aload_n 1, 1) := by decide +kernel
theorem d85_50 : decode Y85.2.1 50 = .ok (.getfield 9, 3) := by decide +kernel
theorem d85_53 : decode Y85.2.1 53 = .ok (.putfield 9, 3) := by decide +kernel
theorem d85_56 : decode Y85.2.1 56 = .ok (.aload_n 0, 1) := by decide +kernel
theorem d85_57 : decode Y85.2.1 57 = .ok (.aload_n 1, 1) := by decide +kernel
theorem d85_58 : decode Y85.2.1 58 = .ok (.getfield 28, 3) := by decide +kernel
theorem d85_61 : decode Y85.2.1 61 = .ok (.putfield 28, 3) := by decide +kernel
theorem d85_64 : decode Y85.2.1 64 = .ok (.aload_n 0, 1) := by decide +kernel
theorem d85_65 : decode Y85.2.1 65 = .ok (.aload_n 1, 1) := by decide +kernel
theorem d85_66 : decode Y85.2.1 66 = .ok (.getfield 35, 3) := by decide +kernel
theorem d85_69 : decode Y85.2.1 69 = .ok (.putfield 35, 3) := by decide +kernel
theorem d85_72 : decode Y85.2.1 72 = .ok (.aload_n 0, 1) := by decide +kernel
theorem d85_73 : decode Y85.2.1 73 = .ok (.aload_n 1, 1) := by decide +kernel
theorem d85_74 : decode Y85.2.1 74 = .ok (.getfield 75, 3) := by decide +kernel
theorem d85_77 : decode Y85.2.1 77 = .ok (.putfield 75, 3) := by decide +kernel
theorem d85_80 : decode Y85.2.1 80 = .ok (.aload_n 0, 1) := by decide +kernel
theorem d85_81 : decode Y85.2.1 81 = .ok (.aload_n 1, 1) := by decide +kernel
theorem d85_82 : decode Y85.2.1 82 = .ok (.getfield 78, 3) := by decide +kernel
theorem d85_85 : decode Y85.2.1 85 = .ok (.putfield 78, 3) := by decide +kernel
theorem d85_88 : decode Y85.2.1 88 = .ok (.aload_n 1, 1) := by decide +kernel
theorem d85_89 : decode Y85.2.1 89 = .ok (.getfield 15, 3) := by decide +kernel
theorem d85_92 : decode Y85.2.1 92 = .ok (.aload_n 0, 1) := by decide +kernel
theorem d85_93 : decode Y85.2.1 93 = .ok (.getfield 15, 3) := by decide +kernel
theorem d85_96 : decode Y85.2.1 96 = .ok (.invokestatic 82, 3) := by decide +kernel
theorem d85_99 : decode Y85.2.1 99 = .ok (.aload_n 1, 1) := by decide +kernel
theorem d85_100 : decode Y85.2.1 100 = .ok (.getfield 19, 3) := by decide +kernel
theorem d85_103 : decode Y85.2.1 103 = .ok (.aload_n 0, 1) := by decide +kernel
theorem d85_104 : decode Y85.2.1 104 = .ok (.getfield 19, 3) := by decide +kernel
theorem d85_107 : decode Y85.2.1 107 = .ok (.invokestatic 82, 3) := by decide +kernel
theorem d85_110 : decode Y85.2.1 110 = .ok (.return_, 1) := by decide +kernel
theorem E85 (d : Nat) (a0 : Nat) (a1 : Nat) (h0 : ts_sh a0 = (0, 4)) (h1 : ts_sh a1 = (0, 4)) (m : lt_m) : lt_ev (d + 1) 85 [.inr (.inr (some a0)), .inr (.inr (some a1))] m = lt_let (lm_i (lm_i (lm_i m a0 1 (m.1 a1 1)) a0 2 ((lm_i m a0 1 (m.1 a1 1)).1 a1 2)) a0 3 ((lm_i (lm_i m a0 1 (m.1 a1 1)) a0 2 ((lm_i m a0 1 (m.1 a1 1)).1 a1 2)).1 a1 3)) (fun m1 => (lt_let (lm_i (lm_i (lm_i m1 a0 4 (m1.1 a1 4)) a0 5 ((lm_i m1 a0 4 (m1.1 a1 4)).1 a1 5)) a0 6 ((lm_i (lm_i m1 a0 4 (m1.1 a1 4)) a0 5 ((lm_i m1 a0 4 (m1.1 a1 4)).1 a1 5)).1 a1 6)) (fun m2 => (lt_let (lm_i (lm_i (lm_i m2 a0 7 (m2.1 a1 7)) a0 8 ((lm_i m2 a0 7 (m2.1 a1 7)).1 a1 8)) a0 9 ((lm_i (lm_i m2 a0 7 (m2.1 a1 7)) a0 8 ((lm_i m2 a0 7 (m2.1 a1 7)).1 a1 8)).1 a1 9)) (fun m3 => (lt_gd (((lm_i m3 a0 10 (m3.1 a1 10)).1 a1 11) = 0 ∨ ((lm_i m3 a0 10 (m3.1 a1 10)).1 a1 11) = 1) (lt_cV (lt_ev d 84 [.inr (.inr (some (a1 + 1))), .inr (.inr (some (a0 + 1)))] (lm_i (lm_i m3 a0 10 (m3.1 a1 10)) a0 11 ((lm_i m3 a0 10 (m3.1 a1 10)).1 a1 11))) (fun m4 => (lt_cV (lt_ev d 84 [.inr (.inr (some (a1 + 2))), .inr (.inr (some (a0 + 2)))] m4) (fun m5 => (some (none, m5)))))))))))) := by
  refine Eq.trans (lt_enter2 (ls := [some (.inr (.inr (some a0))), some (.inr (.inr (some a1)))]) hY85 (Nat.le_of_ble_eq_true rfl) (by rfl)) ?_
  refine Eq.trans (li_aload_n d85_0 (by rfl)) ?_
  refine Eq.trans (li_aload_n d85_1 (by rfl)) ?_
  refine Eq.trans (li_geti d85_2 fa_4_25 h1 rfl) ?_
  refine Eq.trans (li_puti d85_5 fa_4_25 h0 rfl rfl) ?_
  refine Eq.trans (li_aload_n d85_8 (by rfl)) ?_
  refine Eq.trans (li_aload_n d85_9 (by rfl)) ?_
  refine Eq.trans (li_geti d85_10 fa_4_52 h1 rfl) ?_
  refine Eq.trans (li_puti d85_13 fa_4_52 h0 rfl rfl) ?_
  refine Eq.trans (li_aload_n d85_16 (by rfl)) ?_
  refine Eq.trans (li_aload_n d85_17 (by rfl)) ?_
  refine Eq.trans (li_geti d85_18 fa_4_55 h1 rfl) ?_
  refine Eq.trans (li_puti d85_21 fa_4_55 h0 rfl rfl) ?_
  refine lt_let_x (F := fun m1 => lt_run d Y85 24 [some (.inr (.inr (some a0))), some (.inr (.inr (some a1)))] [] m1) (fun m1 => ?_)
  refine Eq.trans (li_aload_n d85_24 (by rfl)) ?_
  refine Eq.trans (li_aload_n d85_25 (by rfl)) ?_
  refine Eq.trans (li_geti d85_26 fa_4_58 h1 rfl) ?_
  refine Eq.trans (li_puti d85_29 fa_4_58 h0 rfl rfl) ?_
  refine Eq.trans (li_aload_n d85_32 (by rfl)) ?_
  refine Eq.trans (li_aload_n d85_33 (by rfl)) ?_
  refine Eq.trans (li_geti d85_34 fa_4_61 h1 rfl) ?_
  refine Eq.trans (li_puti d85_37 fa_4_61 h0 rfl rfl) ?_
  refine Eq.trans (li_aload_n d85_40 (by rfl)) ?_
  refine Eq.trans (li_aload_n d85_41 (by rfl)) ?_
  refine Eq.trans (li_geti d85_42 fa_4_48 h1 rfl) ?_
  refine Eq.trans (li_puti d85_45 fa_4_48 h0 rfl rfl) ?_
  refine lt_let_x (F := fun m2 => lt_run d Y85 48 [some (.inr (.inr (some a0))), some (.inr (.inr (some a1)))] [] m2) (fun m2 => ?_)
  refine Eq.trans (li_aload_n d85_48 (by rfl)) ?_
  refine Eq.trans (li_aload_n d85_49 (by rfl)) ?_
  refine Eq.trans (li_geti d85_50 fa_4_9 h1 rfl) ?_
  refine Eq.trans (li_puti d85_53 fa_4_9 h0 rfl rfl) ?_
  refine Eq.trans (li_aload_n d85_56 (by rfl)) ?_
  refine Eq.trans (li_aload_n d85_57 (by rfl)) ?_
  refine Eq.trans (li_geti d85_58 fa_4_28 h1 rfl) ?_
  refine Eq.trans (li_puti d85_61 fa_4_28 h0 rfl rfl) ?_
  refine Eq.trans (li_aload_n d85_64 (by rfl)) ?_
  refine Eq.trans (li_aload_n d85_65 (by rfl)) ?_
  refine Eq.trans (li_geti d85_66 fa_4_35 h1 rfl) ?_
  refine Eq.trans (li_puti d85_69 fa_4_35 h0 rfl rfl) ?_
  refine lt_let_x (F := fun m3 => lt_run d Y85 72 [some (.inr (.inr (some a0))), some (.inr (.inr (some a1)))] [] m3) (fun m3 => ?_)
  refine Eq.trans (li_aload_n d85_72 (by rfl)) ?_
  refine Eq.trans (li_aload_n d85_73 (by rfl)) ?_
  refine Eq.trans (li_geti d85_74 fa_4_75 h1 rfl) ?_
  refine Eq.trans (li_puti d85_77 fa_4_75 h0 rfl rfl) ?_
  refine Eq.trans (li_aload_n d85_80 (by rfl)) ?_
  refine Eq.trans (li_aload_n d85_81 (by rfl)) ?_
  refine Eq.trans (li_geti d85_82 fa_4_78 h1 rfl) ?_
  refine Eq.trans (li_putz d85_85 fa_4_78 h0 rfl rfl) ?_
  refine lt_gd_c (fun g1 => ?_)
  refine Eq.trans (li_aload_n d85_88 (by rfl)) ?_
  refine Eq.trans (li_getr d85_89 fa_4_15 h1 rfl rfl rfl (by decide)) ?_
  refine Eq.trans (li_aload_n d85_92 (by rfl)) ?_
  refine Eq.trans (li_getr d85_93 fa_4_15 h0 rfl rfl rfl (by decide)) ?_
  refine Eq.trans (li_isV d85_96 bi_4_82 ca_4_82 kd_84 (by rfl) (by rfl) (Nat.le_of_ble_eq_true rfl) (Nat.le_of_ble_eq_true rfl)) ?_
  refine lt_cV_c (fun m4 => ?_)
  refine Eq.trans (li_aload_n d85_99 (by rfl)) ?_
  refine Eq.trans (li_getr d85_100 fa_4_19 h1 rfl rfl rfl (by decide)) ?_
  refine Eq.trans (li_aload_n d85_103 (by rfl)) ?_
  refine Eq.trans (li_getr d85_104 fa_4_19 h0 rfl rfl rfl (by decide)) ?_
  refine Eq.trans (li_isV d85_107 bi_4_82 ca_4_82 kd_84 (by rfl) (by rfl) (Nat.le_of_ble_eq_true rfl) (Nat.le_of_ble_eq_true rfl)) ?_
  refine lt_cV_c (fun m5 => ?_)
  exact li_vret d85_110 rfl
/-! TransitSeals$Book.copyFrom(LTransitSeals$Book;)V -/
theorem d86_0 : decode Y86.2.1 0 = .ok (.aload_n 0, 1) := by decide +kernel
theorem d86_1 : decode Y86.2.1 1 = .ok (.aload_n 1, 1) := by decide +kernel
theorem d86_2 : decode Y86.2.1 2 = .ok (.getfield 21, 3) := by decide +kernel
theorem d86_5 : decode Y86.2.1 5 = .ok (.putfield 21, 3) := by decide +kernel
theorem d86_8 : decode Y86.2.1 8 = .ok (.aload_n 1, 1) := by decide +kernel
theorem d86_9 : decode Y86.2.1 9 = .ok (.getfield 9, 3) := by decide +kernel
theorem d86_12 : decode Y86.2.1 12 = .ok (.aload_n 0, 1) := by decide +kernel
theorem d86_13 : decode Y86.2.1 13 = .ok (.getfield 9, 3) := by decide +kernel
theorem d86_16 : decode Y86.2.1 16 = .ok (.invokestatic 43, 3) := by decide +kernel
theorem d86_19 : decode Y86.2.1 19 = .ok (.aload_n 1, 1) := by decide +kernel
theorem d86_20 : decode Y86.2.1 20 = .ok (.getfield 15, 3) := by decide +kernel
theorem d86_23 : decode Y86.2.1 23 = .ok (.aload_n 0, 1) := by decide +kernel
theorem d86_24 : decode Y86.2.1 24 = .ok (.getfield 15, 3) := by decide +kernel
theorem d86_27 : decode Y86.2.1 27 = .ok (.invokestatic 43, 3) := by decide +kernel
theorem d86_30 : decode Y86.2.1 30 = .ok (.aload_n 1, 1) := by decide +kernel
theorem d86_31 : decode Y86.2.1 31 = .ok (.getfield 18, 3) := by decide +kernel
theorem d86_34 : decode Y86.2.1 34 = .ok (.aload_n 0, 1) := by decide +kernel
theorem d86_35 : decode Y86.2.1 35 = .ok (.getfield 18, 3) := by decide +kernel
theorem d86_38 : decode Y86.2.1 38 = .ok (.invokestatic 43, 3) := by decide +kernel
theorem d86_41 : decode Y86.2.1 41 = .ok (.return_, 1) := by decide +kernel
theorem E86 (d : Nat) (a0 : Nat) (a1 : Nat) (h0 : ts_sh a0 = (0, 0)) (h1 : ts_sh a1 = (0, 0)) (m : lt_m) : lt_ev (d + 1) 86 [.inr (.inr (some a0)), .inr (.inr (some a1))] m = lt_cV (lt_ev d 84 [.inr (.inr (some (a1 + 1))), .inr (.inr (some (a0 + 1)))] (lm_i m a0 3 (m.1 a1 3))) (fun m1 => (lt_cV (lt_ev d 84 [.inr (.inr (some (a1 + 2))), .inr (.inr (some (a0 + 2)))] m1) (fun m2 => (lt_cV (lt_ev d 84 [.inr (.inr (some (a1 + 3))), .inr (.inr (some (a0 + 3)))] m2) (fun m3 => (some (none, m3))))))) := by
  refine Eq.trans (lt_enter2 (ls := [some (.inr (.inr (some a0))), some (.inr (.inr (some a1)))]) hY86 (Nat.le_of_ble_eq_true rfl) (by rfl)) ?_
  refine Eq.trans (li_aload_n d86_0 (by rfl)) ?_
  refine Eq.trans (li_aload_n d86_1 (by rfl)) ?_
  refine Eq.trans (li_geti d86_2 fa_0_21 h1 rfl) ?_
  refine Eq.trans (li_puti d86_5 fa_0_21 h0 rfl rfl) ?_
  refine Eq.trans (li_aload_n d86_8 (by rfl)) ?_
  refine Eq.trans (li_getr d86_9 fa_0_9 h1 rfl rfl rfl (by decide)) ?_
  refine Eq.trans (li_aload_n d86_12 (by rfl)) ?_
  refine Eq.trans (li_getr d86_13 fa_0_9 h0 rfl rfl rfl (by decide)) ?_
  refine Eq.trans (li_isV d86_16 bi_0_43 ca_0_43 kd_84 (by rfl) (by rfl) (Nat.le_of_ble_eq_true rfl) (Nat.le_of_ble_eq_true rfl)) ?_
  refine lt_cV_c (fun m1 => ?_)
  refine Eq.trans (li_aload_n d86_19 (by rfl)) ?_
  refine Eq.trans (li_getr d86_20 fa_0_15 h1 rfl rfl rfl (by decide)) ?_
  refine Eq.trans (li_aload_n d86_23 (by rfl)) ?_
  refine Eq.trans (li_getr d86_24 fa_0_15 h0 rfl rfl rfl (by decide)) ?_
  refine Eq.trans (li_isV d86_27 bi_0_43 ca_0_43 kd_84 (by rfl) (by rfl) (Nat.le_of_ble_eq_true rfl) (Nat.le_of_ble_eq_true rfl)) ?_
  refine lt_cV_c (fun m2 => ?_)
  refine Eq.trans (li_aload_n d86_30 (by rfl)) ?_
  refine Eq.trans (li_getr d86_31 fa_0_18 h1 rfl rfl rfl (by decide)) ?_
  refine Eq.trans (li_aload_n d86_34 (by rfl)) ?_
  refine Eq.trans (li_getr d86_35 fa_0_18 h0 rfl rfl rfl (by decide)) ?_
  refine Eq.trans (li_isV d86_38 bi_0_43 ca_0_43 kd_84 (by rfl) (by rfl) (Nat.le_of_ble_eq_true rfl) (Nat.le_of_ble_eq_true rfl)) ?_
  refine lt_cV_c (fun m3 => ?_)
  exact li_vret d86_41 rfl
/-! TransitSeals$Ledger.addTrader(II)I -/
theorem d87_0 : decode Y87.2.1 0 = .ok (.aload_n 0, 1) := by decide +kernel
theorem d87_1 : decode Y87.2.1 1 = .ok (.aload_n 0, 1) := by decide +kernel
theorem d87_2 : decode Y87.2.1 2 = .ok (.getfield 38, 3) := by decide +kernel
theorem d87_5 : decode Y87.2.1 5 = .ok (.iload_n 1, 1) := by decide +kernel
theorem d87_6 : decode Y87.2.1 6 = .ok (.iload_n 2, 1) := by decide +kernel
theorem d87_7 : decode Y87.2.1 7 = .ok (.invokevirtual 61, 3) := by decide +kernel
theorem d87_10 : decode Y87.2.1 10 = .ok (.aload_n 0, 1) := by decide +kernel
theorem d87_11 : decode Y87.2.1 11 = .ok (.dup, 1) := by decide +kernel
theorem d87_12 : decode Y87.2.1 12 = .ok (.getfield 38, 3) := by decide +kernel
theorem d87_15 : decode Y87.2.1 15 = .ok (.iconst 1, 1) := by decide +kernel
theorem d87_16 : decode Y87.2.1 16 = .ok (.iadd, 1) := by decide +kernel
theorem d87_17 : decode Y87.2.1 17 = .ok (.putfield 38, 3) := by decide +kernel
theorem d87_20 : decode Y87.2.1 20 = .ok (.aload_n 0, 1) := by decide +kernel
theorem d87_21 : decode Y87.2.1 21 = .ok (.getfield 38, 3) := by decide +kernel
theorem d87_24 : decode Y87.2.1 24 = .ok (.iconst 1, 1) := by decide +kernel
theorem d87_25 : decode Y87.2.1 25 = .ok (.isub, 1) := by decide +kernel
theorem d87_26 : decode Y87.2.1 26 = .ok (.ireturn, 1) := by decide +kernel
theorem E87 (d : Nat) (a0 : Nat) (x1 : Int32) (x2 : Int32) (h0 : ts_sh a0 = (0, 2)) (m : lt_m) : lt_ev (d + 1) 87 [.inr (.inr (some a0)), .inl x1, .inl x2] m = lt_cV (lt_ev d 88 [.inr (.inr (some a0)), .inl (m.1 a0 5), .inl x1, .inl x2] m) (fun m1 => (some (some (.inl (((lm_i m1 a0 5 ((m1.1 a0 5) + (1 : Int32))).1 a0 5) - (1 : Int32))), (lm_i m1 a0 5 ((m1.1 a0 5) + (1 : Int32)))))) := by
  refine Eq.trans (lt_enter2 (ls := [some (.inr (.inr (some a0))), some (.inl x1), some (.inl x2)]) hY87 (Nat.le_of_ble_eq_true rfl) (by rfl)) ?_
  refine Eq.trans (li_aload_n d87_0 (by rfl)) ?_
  refine Eq.trans (li_aload_n d87_1 (by rfl)) ?_
  refine Eq.trans (li_geti d87_2 fa_2_38 h0 rfl) ?_
  refine Eq.trans (li_iload_n d87_5 (by rfl)) ?_
  refine Eq.trans (li_iload_n d87_6 (by rfl)) ?_
  refine Eq.trans (li_ivV d87_7 ca_2_61 kd_88 kl_88 (by rfl) (by rfl) h0 (Nat.le_of_ble_eq_true rfl) (Nat.le_of_ble_eq_true rfl)) ?_
  refine lt_cV_c (fun m1 => ?_)
  refine Eq.trans (li_aload_n d87_10 (by rfl)) ?_
  refine Eq.trans (li_dup d87_11 rfl) ?_
  refine Eq.trans (li_geti d87_12 fa_2_38 h0 rfl) ?_
  refine Eq.trans (li_iconst d87_15 ic_1) ?_
  refine Eq.trans (li_iadd d87_16) ?_
  refine Eq.trans (li_puti d87_17 fa_2_38 h0 rfl rfl) ?_
  refine Eq.trans (li_aload_n d87_20 (by rfl)) ?_
  refine Eq.trans (li_geti d87_21 fa_2_38 h0 rfl) ?_
  refine Eq.trans (li_iconst d87_24 ic_1) ?_
  refine Eq.trans (li_isub d87_25) ?_
  exact li_iret d87_26 rfl
/-! TransitSeals$Ledger.setTrader(III)V -/
theorem d88_0 : decode Y88.2.1 0 = .ok (.aload_n 0, 1) := by decide +kernel
theorem d88_1 : decode Y88.2.1 1 = .ok (.getfield 9, 3) := by decide +kernel
theorem d88_4 : decode Y88.2.1 4 = .ok (.iload_n 1, 1) := by decide +kernel
theorem d88_5 : decode Y88.2.1 5 = .ok (.iload_n 2, 1) := by decide +kernel
theorem d88_6 : decode Y88.2.1 6 = .ok (.invokestatic 65, 3) := by decide +kernel
theorem d88_9 : decode Y88.2.1 9 = .ok (.aload_n 0, 1) := by decide +kernel
theorem d88_10 : decode Y88.2.1 10 = .ok (.getfield 15, 3) := by decide +kernel
theorem d88_13 : decode Y88.2.1 13 = .ok (.iload_n 1, 1) := by decide +kernel
theorem d88_14 : decode Y88.2.1 14 = .ok (.iload_n 3, 1) := by decide +kernel
theorem d88_15 : decode Y88.2.1 15 = .ok (.invokestatic 65, 3) := by decide +kernel
theorem d88_18 : decode Y88.2.1 18 = .ok (.return_, 1) := by decide +kernel
theorem E88 (d : Nat) (a0 : Nat) (x1 : Int32) (x2 : Int32) (x3 : Int32) (h0 : ts_sh a0 = (0, 2)) (m : lt_m) : lt_ev (d + 1) 88 [.inr (.inr (some a0)), .inl x1, .inl x2, .inl x3] m = lt_cV (lt_ev d 17 [.inr (.inr (some (a0 + 1))), .inl x1, .inl x2] m) (fun m1 => (lt_cV (lt_ev d 17 [.inr (.inr (some (a0 + 2))), .inl x1, .inl x3] m1) (fun m2 => (some (none, m2))))) := by
  refine Eq.trans (lt_enter2 (ls := [some (.inr (.inr (some a0))), some (.inl x1), some (.inl x2), some (.inl x3)]) hY88 (Nat.le_of_ble_eq_true rfl) (by rfl)) ?_
  refine Eq.trans (li_aload_n d88_0 (by rfl)) ?_
  refine Eq.trans (li_getr d88_1 fa_2_9 h0 rfl rfl rfl (by decide)) ?_
  refine Eq.trans (li_iload_n d88_4 (by rfl)) ?_
  refine Eq.trans (li_iload_n d88_5 (by rfl)) ?_
  refine Eq.trans (li_isV d88_6 bi_2_65 ca_2_65 kd_17 (by rfl) (by rfl) (Nat.le_of_ble_eq_true rfl) (Nat.le_of_ble_eq_true rfl)) ?_
  refine lt_cV_c (fun m1 => ?_)
  refine Eq.trans (li_aload_n d88_9 (by rfl)) ?_
  refine Eq.trans (li_getr d88_10 fa_2_15 h0 rfl rfl rfl (by decide)) ?_
  refine Eq.trans (li_iload_n d88_13 (by rfl)) ?_
  refine Eq.trans (li_iload_n d88_14 (by rfl)) ?_
  refine Eq.trans (li_isV d88_15 bi_2_65 ca_2_65 kd_17 (by rfl) (by rfl) (Nat.le_of_ble_eq_true rfl) (Nat.le_of_ble_eq_true rfl)) ?_
  refine lt_cV_c (fun m2 => ?_)
  exact li_vret d88_18 rfl
/-! TransitSeals$Ledger.hasTrader(I)Z -/
theorem d90_0 : decode Y90.2.1 0 = .ok (.iload_n 1, 1) := by decide +kernel
theorem d90_1 : decode Y90.2.1 1 = .ok (.ifCond .lt 15, 3) := by decide +kernel
theorem d90_4 : decode Y90.2.1 4 = .ok (.iload_n 1, 1) := by decide +kernel
theorem d90_5 : decode Y90.2.1 5 = .ok (.aload_n 0, 1) := by decide +kernel
theorem d90_6 : decode Y90.2.1 6 = .ok (.getfield 38, 3) := by decide +kernel
theorem d90_9 : decode Y90.2.1 9 = .ok (.if_icmp .ge 7, 3) := by decide +kernel
theorem d90_12 : decode Y90.2.1 12 = .ok (.iconst 1, 1) := by decide +kernel
theorem d90_13 : decode Y90.2.1 13 = .ok (.goto 4, 3) := by decide +kernel
theorem d90_16 : decode Y90.2.1 16 = .ok (.iconst 0, 1) := by decide +kernel
theorem d90_17 : decode Y90.2.1 17 = .ok (.ireturn, 1) := by decide +kernel
theorem E90 (d : Nat) (a0 : Nat) (x1 : Int32) (h0 : ts_sh a0 = (0, 2)) (m : lt_m) : lt_ev (d + 1) 90 [.inr (.inr (some a0)), .inl x1] m = if x1 < 0 then (some (some (.inl (0 : Int32)), m)) else (if (m.1 a0 5) ≤ x1 then (some (some (.inl (0 : Int32)), m)) else (some (some (.inl (1 : Int32)), m))) := by
  refine Eq.trans (lt_enter2 (ls := [some (.inr (.inr (some a0))), some (.inl x1)]) hY90 (Nat.le_of_ble_eq_true rfl) (by rfl)) ?_
  refine Eq.trans (li_iload_n d90_0 (by rfl)) ?_
  refine Eq.trans (li_if_lt (t := 16) d90_1 (by rfl)) ?_
  refine lt_ite (fun c1 => ?_) (fun c1 => ?_)
  · refine Eq.trans (li_iconst d90_16 ic_0) ?_
    exact li_zret d90_17 rfl (by decide)
  · refine Eq.trans (li_iload_n d90_4 (by rfl)) ?_
    refine Eq.trans (li_aload_n d90_5 (by rfl)) ?_
    refine Eq.trans (li_geti d90_6 fa_2_38 h0 rfl) ?_
    refine Eq.trans (li_icmp_ge (t := 16) d90_9 (by rfl)) ?_
    refine lt_ite (fun c2 => ?_) (fun c2 => ?_)
    · refine Eq.trans (li_iconst d90_16 ic_0) ?_
      exact li_zret d90_17 rfl (by decide)
    · refine Eq.trans (li_iconst d90_12 ic_1) ?_
      refine Eq.trans (li_goto (t := 17) d90_13 (by rfl)) ?_
      exact li_zret d90_17 rfl (by decide)
/-! TransitSeals$Ledger.sharesOf(I)I -/
theorem d91_0 : decode Y91.2.1 0 = .ok (.iconst 0, 1) := by decide +kernel
theorem d91_1 : decode Y91.2.1 1 = .ok (.istore_n 2, 1) := by decide +kernel
theorem d91_2 : decode Y91.2.1 2 = .ok (.aload_n 0, 1) := by decide +kernel
theorem d91_3 : decode Y91.2.1 3 = .ok (.getfield 20, 3) := by decide +kernel
theorem d91_6 : decode Y91.2.1 6 = .ok (.astore_n 3, 1) := by decide +kernel
theorem d91_7 : decode Y91.2.1 7 = .ok (.aload_n 3, 1) := by decide +kernel
theorem d91_8 : decode Y91.2.1 8 = .ok (.arraylength, 1) := by decide +kernel
theorem d91_9 : decode Y91.2.1 9 = .ok (.istore 4, 2) := by decide +kernel
theorem d91_11 : decode Y91.2.1 11 = .ok (.iconst 0, 1) := by decide +kernel
theorem d91_12 : decode Y91.2.1 12 = .ok (.istore 5, 2) := by decide +kernel
theorem d91_14 : decode Y91.2.1 14 = .ok (.iload 5, 2) := by decide +kernel
theorem d91_16 : decode Y91.2.1 16 = .ok (.iload 4, 2) := by decide +kernel
theorem d91_18 : decode Y91.2.1 18 = .ok (.if_icmp .ge 36, 3) := by decide +kernel
theorem d91_21 : decode Y91.2.1 21 = .ok (.aload_n 3, 1) := by decide +kernel
theorem d91_22 : decode Y91.2.1 22 = .ok (.iload 5, 2) := by decide +kernel
theorem d91_24 : decode Y91.2.1 24 = .ok (.aaload, 1) := by decide +kernel
theorem d91_25 : decode Y91.2.1 25 = .ok (.astore 6, 2) := by decide +kernel
theorem d91_27 : decode Y91.2.1 27 = .ok (.iload_n 2, 1) := by decide +kernel
theorem d91_28 : decode Y91.2.1 28 = .ok (.aload 6, 2) := by decide +kernel
theorem d91_30 : decode Y91.2.1 30 = .ok (.iload_n 1, 1) := by decide +kernel
theorem d91_31 : decode Y91.2.1 31 = .ok (.invokevirtual 80, 3) := by decide +kernel
theorem d91_34 : decode Y91.2.1 34 = .ok (.ifCond .eq 11, 3) := by decide +kernel
theorem d91_37 : decode Y91.2.1 37 = .ok (.aload 6, 2) := by decide +kernel
theorem d91_39 : decode Y91.2.1 39 = .ok (.getfield 84, 3) := by decide +kernel
theorem d91_42 : decode Y91.2.1 42 = .ok (.goto 4, 3) := by decide +kernel
theorem d91_45 : decode Y91.2.1 45 = .ok (.iconst 0, 1) := by decide +kernel
theorem d91_46 : decode Y91.2.1 46 = .ok (.iadd, 1) := by decide +kernel
theorem d91_47 : decode Y91.2.1 47 = .ok (.istore_n 2, 1) := by decide +kernel
theorem d91_48 : decode Y91.2.1 48 = .ok (.iinc 5 1, 3) := by decide +kernel
theorem d91_51 : decode Y91.2.1 51 = .ok (.goto (-37), 3) := by decide +kernel
theorem d91_54 : decode Y91.2.1 54 = .ok (.iload_n 2, 1) := by decide +kernel
theorem d91_55 : decode Y91.2.1 55 = .ok (.ireturn, 1) := by decide +kernel
noncomputable def L91_14 (d : Nat) (a0 : Nat) (x1 : Int32) (x2 : Int32) (x5 : Int32) (o6 : Option ts_V) (m : lt_m) : Option lt_r := lt_run d Y91 14 [some (.inr (.inr (some a0))), some (.inl x1), some (.inl x2), some (.inr (.inr (some (a0 + 3)))), some (.inl (20 : Int32)), some (.inl x5), o6] [] m
theorem E91 (d : Nat) (a0 : Nat) (x1 : Int32) (h0 : ts_sh a0 = (0, 2)) (m : lt_m) : lt_ev (d + 1) 91 [.inr (.inr (some a0)), .inl x1] m = L91_14 d a0 x1 (0 : Int32) (0 : Int32) none m := by
  refine Eq.trans (lt_enter2 (ls := [some (.inr (.inr (some a0))), some (.inl x1), none, none, none, none, none]) hY91 (Nat.le_of_ble_eq_true rfl) (by rfl)) ?_
  refine Eq.trans (li_iconst d91_0 ic_0) ?_
  refine Eq.trans (li_istore_n (ls' := [some (.inr (.inr (some a0))), some (.inl x1), some (.inl (0 : Int32)), none, none, none, none]) d91_1 (by decide) (by rfl)) ?_
  refine Eq.trans (li_aload_n d91_2 (by rfl)) ?_
  refine Eq.trans (li_getr d91_3 fa_2_20 h0 rfl rfl rfl (by decide)) ?_
  refine Eq.trans (li_astore_n (ls' := [some (.inr (.inr (some a0))), some (.inl x1), some (.inl (0 : Int32)), some (.inr (.inr (some (a0 + 3)))), none, none, none]) d91_6 (by decide) (by rfl)) ?_
  refine Eq.trans (li_aload_n d91_7 (by rfl)) ?_
  refine Eq.trans (li_alen d91_8 (sf_of h0 2 (by decide) (by decide)) (by decide) (by rfl)) ?_
  refine Eq.trans (li_istore (ls' := [some (.inr (.inr (some a0))), some (.inl x1), some (.inl (0 : Int32)), some (.inr (.inr (some (a0 + 3)))), some (.inl (20 : Int32)), none, none]) d91_9 (by decide) (by rfl)) ?_
  refine Eq.trans (li_iconst d91_11 ic_0) ?_
  refine Eq.trans (li_istore (ls' := [some (.inr (.inr (some a0))), some (.inl x1), some (.inl (0 : Int32)), some (.inr (.inr (some (a0 + 3)))), some (.inl (20 : Int32)), some (.inl (0 : Int32)), none]) d91_12 (by decide) (by rfl)) ?_
  rfl
theorem E91_14 (d : Nat) (a0 : Nat) (x1 : Int32) (x2 : Int32) (x5 : Int32) (o6 : Option ts_V) (h0 : ts_sh a0 = (0, 2)) (m : lt_m) : L91_14 d a0 x1 x2 x5 o6 m = if (20 : Int32) ≤ x5 then (some (some (.inl x2), m)) else (lt_gd (0 ≤ x5 ∧ (x5).toNatClampNeg < 20) (lt_cI (lt_ev d 92 [.inr (.inr (some ((a0 + 3) + 5 + 3 * (x5).toNatClampNeg))), .inl x1] m) (fun v1 m1 => (if v1 = 0 then (L91_14 d a0 x1 (x2 + (0 : Int32)) (x5 + (1 : Int32)) (some (.inr (.inr (some ((a0 + 3) + 5 + 3 * (x5).toNatClampNeg))))) m1) else (L91_14 d a0 x1 (x2 + (m1.1 ((a0 + 3) + 5 + 3 * (x5).toNatClampNeg) 5)) (x5 + (1 : Int32)) (some (.inr (.inr (some ((a0 + 3) + 5 + 3 * (x5).toNatClampNeg))))) m1))))) := by
  show lt_run d Y91 14 [some (.inr (.inr (some a0))), some (.inl x1), some (.inl x2), some (.inr (.inr (some (a0 + 3)))), some (.inl (20 : Int32)), some (.inl x5), o6] [] m = _
  refine Eq.trans (li_iload d91_14 (by rfl)) ?_
  refine Eq.trans (li_iload d91_16 (by rfl)) ?_
  refine Eq.trans (li_icmp_ge (t := 54) d91_18 (by rfl)) ?_
  refine lt_ite (fun c1 => ?_) (fun c1 => ?_)
  · refine Eq.trans (li_iload_n d91_54 (by rfl)) ?_
    exact li_iret d91_55 rfl
  · refine Eq.trans (li_aload_n d91_21 (by rfl)) ?_
    refine Eq.trans (li_iload d91_22 (by rfl)) ?_
    refine Eq.trans (li_aald4 d91_24 (sf_of h0 2 (by decide) (by decide))) ?_
    refine lt_gd_c (fun g1 => ?_)
    refine Eq.trans (li_astore (ls' := [some (.inr (.inr (some a0))), some (.inl x1), some (.inl x2), some (.inr (.inr (some (a0 + 3)))), some (.inl (20 : Int32)), some (.inl x5), some (.inr (.inr (some ((a0 + 3) + 5 + 3 * (x5).toNatClampNeg))))]) d91_25 (by decide) (by rfl)) ?_
    refine Eq.trans (li_iload_n d91_27 (by rfl)) ?_
    refine Eq.trans (li_aload d91_28 (by rfl)) ?_
    refine Eq.trans (li_iload_n d91_30 (by rfl)) ?_
    refine Eq.trans (li_ivI d91_31 ca_2_80 kd_92 kl_92 (by rfl) (by rfl) (sm_4 (sf_of h0 2 (by decide) (by decide)) g1.2) (Nat.le_of_ble_eq_true rfl) (Nat.le_of_ble_eq_true rfl)) ?_
    refine lt_cI_c (fun v1 m1 => ?_)
    refine Eq.trans (li_if_eq (t := 45) d91_34 (by rfl)) ?_
    refine lt_ite (fun c2 => ?_) (fun c2 => ?_)
    · refine Eq.trans (li_iconst d91_45 ic_0) ?_
      refine Eq.trans (li_iadd d91_46) ?_
      refine Eq.trans (li_istore_n (ls' := [some (.inr (.inr (some a0))), some (.inl x1), some (.inl (x2 + (0 : Int32))), some (.inr (.inr (some (a0 + 3)))), some (.inl (20 : Int32)), some (.inl x5), some (.inr (.inr (some ((a0 + 3) + 5 + 3 * (x5).toNatClampNeg))))]) d91_47 (by decide) (by rfl)) ?_
      refine Eq.trans (li_iinc (ls' := [some (.inr (.inr (some a0))), some (.inl x1), some (.inl (x2 + (0 : Int32))), some (.inr (.inr (some (a0 + 3)))), some (.inl (20 : Int32)), some (.inl (x5 + (1 : Int32))), some (.inr (.inr (some ((a0 + 3) + 5 + 3 * (x5).toNatClampNeg))))]) d91_48 (by rfl) (by decide) ic_1 (by rfl)) ?_
      refine Eq.trans (li_goto (t := 14) d91_51 (by rfl)) ?_
      rfl
    · refine Eq.trans (li_aload d91_37 (by rfl)) ?_
      refine Eq.trans (li_geti d91_39 fa_2_84 (sm_4 (sf_of h0 2 (by decide) (by decide)) g1.2) rfl) ?_
      refine Eq.trans (li_goto (t := 46) d91_42 (by rfl)) ?_
      refine Eq.trans (li_iadd d91_46) ?_
      refine Eq.trans (li_istore_n (ls' := [some (.inr (.inr (some a0))), some (.inl x1), some (.inl (x2 + (m1.1 ((a0 + 3) + 5 + 3 * (x5).toNatClampNeg) 5))), some (.inr (.inr (some (a0 + 3)))), some (.inl (20 : Int32)), some (.inl x5), some (.inr (.inr (some ((a0 + 3) + 5 + 3 * (x5).toNatClampNeg))))]) d91_47 (by decide) (by rfl)) ?_
      refine Eq.trans (li_iinc (ls' := [some (.inr (.inr (some a0))), some (.inl x1), some (.inl (x2 + (m1.1 ((a0 + 3) + 5 + 3 * (x5).toNatClampNeg) 5))), some (.inr (.inr (some (a0 + 3)))), some (.inl (20 : Int32)), some (.inl (x5 + (1 : Int32))), some (.inr (.inr (some ((a0 + 3) + 5 + 3 * (x5).toNatClampNeg))))]) d91_48 (by rfl) (by decide) ic_1 (by rfl)) ?_
      refine Eq.trans (li_goto (t := 14) d91_51 (by rfl)) ?_
      rfl
/-! TransitSeals$Movement.isOpenFor(I)Z -/
theorem d92_0 : decode Y92.2.1 0 = .ok (.aload_n 0, 1) := by decide +kernel
theorem d92_1 : decode Y92.2.1 1 = .ok (.getfield 25, 3) := by decide +kernel
theorem d92_4 : decode Y92.2.1 4 = .ok (.iload_n 1, 1) := by decide +kernel
theorem d92_5 : decode Y92.2.1 5 = .ok (.if_icmp .ne 31, 3) := by decide +kernel
theorem d92_8 : decode Y92.2.1 8 = .ok (.aload_n 0, 1) := by decide +kernel
theorem d92_9 : decode Y92.2.1 9 = .ok (.getfield 9, 3) := by decide +kernel
theorem d92_12 : decode Y92.2.1 12 = .ok (.iconst (-1), 1) := by decide +kernel
theorem d92_13 : decode Y92.2.1 13 = .ok (.if_icmp .eq 23, 3) := by decide +kernel
theorem d92_16 : decode Y92.2.1 16 = .ok (.aload_n 0, 1) := by decide +kernel
theorem d92_17 : decode Y92.2.1 17 = .ok (.getfield 9, 3) := by decide +kernel
theorem d92_20 : decode Y92.2.1 20 = .ok (.iconst 2, 1) := by decide +kernel
theorem d92_21 : decode Y92.2.1 21 = .ok (.if_icmp .eq 15, 3) := by decide +kernel
theorem d92_24 : decode Y92.2.1 24 = .ok (.aload_n 0, 1) := by decide +kernel
theorem d92_25 : decode Y92.2.1 25 = .ok (.getfield 9, 3) := by decide +kernel
theorem d92_28 : decode Y92.2.1 28 = .ok (.iconst 5, 1) := by decide +kernel
theorem d92_29 : decode Y92.2.1 29 = .ok (.if_icmp .eq 7, 3) := by decide +kernel
theorem d92_32 : decode Y92.2.1 32 = .ok (.iconst 1, 1) := by decide +kernel
theorem d92_33 : decode Y92.2.1 33 = .ok (.goto 4, 3) := by decide +kernel
theorem d92_36 : decode Y92.2.1 36 = .ok (.iconst 0, 1) := by decide +kernel
theorem d92_37 : decode Y92.2.1 37 = .ok (.ireturn, 1) := by decide +kernel
theorem E92 (d : Nat) (a0 : Nat) (x1 : Int32) (h0 : ts_sh a0 = (0, 4)) (m : lt_m) : lt_ev (d + 1) 92 [.inr (.inr (some a0)), .inl x1] m = if ¬ (m.1 a0 1) = x1 then (some (some (.inl (0 : Int32)), m)) else (if (m.1 a0 7) = (-1 : Int32) then (some (some (.inl (0 : Int32)), m)) else (if (m.1 a0 7) = (2 : Int32) then (some (some (.inl (0 : Int32)), m)) else (if (m.1 a0 7) = (5 : Int32) then (some (some (.inl (0 : Int32)), m)) else (some (some (.inl (1 : Int32)), m))))) := by
  refine Eq.trans (lt_enter2 (ls := [some (.inr (.inr (some a0))), some (.inl x1)]) hY92 (Nat.le_of_ble_eq_true rfl) (by rfl)) ?_
  refine Eq.trans (li_aload_n d92_0 (by rfl)) ?_
  refine Eq.trans (li_geti d92_1 fa_4_25 h0 rfl) ?_
  refine Eq.trans (li_iload_n d92_4 (by rfl)) ?_
  refine Eq.trans (li_icmp_ne (t := 36) d92_5 (by rfl)) ?_
  refine lt_ite (fun c1 => ?_) (fun c1 => ?_)
  · refine Eq.trans (li_iconst d92_36 ic_0) ?_
    exact li_zret d92_37 rfl (by decide)
  · refine Eq.trans (li_aload_n d92_8 (by rfl)) ?_
    refine Eq.trans (li_geti d92_9 fa_4_9 h0 rfl) ?_
    refine Eq.trans (li_iconst d92_12 ic_n1) ?_
    refine Eq.trans (li_icmp_eq (t := 36) d92_13 (by rfl)) ?_
    refine lt_ite (fun c2 => ?_) (fun c2 => ?_)
    · refine Eq.trans (li_iconst d92_36 ic_0) ?_
      exact li_zret d92_37 rfl (by decide)
    · refine Eq.trans (li_aload_n d92_16 (by rfl)) ?_
      refine Eq.trans (li_geti d92_17 fa_4_9 h0 rfl) ?_
      refine Eq.trans (li_iconst d92_20 ic_2) ?_
      refine Eq.trans (li_icmp_eq (t := 36) d92_21 (by rfl)) ?_
      refine lt_ite (fun c3 => ?_) (fun c3 => ?_)
      · refine Eq.trans (li_iconst d92_36 ic_0) ?_
        exact li_zret d92_37 rfl (by decide)
      · refine Eq.trans (li_aload_n d92_24 (by rfl)) ?_
        refine Eq.trans (li_geti d92_25 fa_4_9 h0 rfl) ?_
        refine Eq.trans (li_iconst d92_28 ic_5) ?_
        refine Eq.trans (li_icmp_eq (t := 36) d92_29 (by rfl)) ?_
        refine lt_ite (fun c4 => ?_) (fun c4 => ?_)
        · refine Eq.trans (li_iconst d92_36 ic_0) ?_
          exact li_zret d92_37 rfl (by decide)
        · refine Eq.trans (li_iconst d92_32 ic_1) ?_
          refine Eq.trans (li_goto (t := 37) d92_33 (by rfl)) ?_
          exact li_zret d92_37 rfl (by decide)
/-! TransitSeals.inUse(I)I -/
theorem d93_0 : decode Y93.2.1 0 = .ok (.aload_n 0, 1) := by decide +kernel
theorem d93_1 : decode Y93.2.1 1 = .ok (.getfield 47, 3) := by decide +kernel
theorem d93_4 : decode Y93.2.1 4 = .ok (.iload_n 1, 1) := by decide +kernel
theorem d93_5 : decode Y93.2.1 5 = .ok (.invokevirtual 175, 3) := by decide +kernel
theorem d93_8 : decode Y93.2.1 8 = .ok (.ifCond .ne 5, 3) := by decide +kernel
theorem d93_11 : decode Y93.2.1 11 = .ok (.iconst (-1), 1) := by decide +kernel
theorem d93_12 : decode Y93.2.1 12 = .ok (.ireturn, 1) := by decide +kernel
theorem d93_13 : decode Y93.2.1 13 = .ok (.aload_n 0, 1) := by decide +kernel
theorem d93_14 : decode Y93.2.1 14 = .ok (.aload_n 0, 1) := by decide +kernel
theorem d93_15 : decode Y93.2.1 15 = .ok (.getfield 47, 3) := by decide +kernel
theorem d93_18 : decode Y93.2.1 18 = .ok (.iload_n 1, 1) := by decide +kernel
theorem d93_19 : decode Y93.2.1 19 = .ok (.invokevirtual 185, 3) := by decide +kernel
theorem d93_22 : decode Y93.2.1 22 = .ok (.aload_n 0, 1) := by decide +kernel
theorem d93_23 : decode Y93.2.1 23 = .ok (.getfield 47, 3) := by decide +kernel
theorem d93_26 : decode Y93.2.1 26 = .ok (.iload_n 1, 1) := by decide +kernel
theorem d93_27 : decode Y93.2.1 27 = .ok (.invokevirtual 188, 3) := by decide +kernel
theorem d93_30 : decode Y93.2.1 30 = .ok (.invokevirtual 144, 3) := by decide +kernel
theorem d93_33 : decode Y93.2.1 33 = .ok (.aload_n 0, 1) := by decide +kernel
theorem d93_34 : decode Y93.2.1 34 = .ok (.getfield 19, 3) := by decide +kernel
theorem d93_37 : decode Y93.2.1 37 = .ok (.aload_n 0, 1) := by decide +kernel
theorem d93_38 : decode Y93.2.1 38 = .ok (.getfield 47, 3) := by decide +kernel
theorem d93_41 : decode Y93.2.1 41 = .ok (.iload_n 1, 1) := by decide +kernel
theorem d93_42 : decode Y93.2.1 42 = .ok (.invokevirtual 191, 3) := by decide +kernel
theorem d93_45 : decode Y93.2.1 45 = .ok (.invokevirtual 194, 3) := by decide +kernel
theorem d93_48 : decode Y93.2.1 48 = .ok (.aload_n 0, 1) := by decide +kernel
theorem d93_49 : decode Y93.2.1 49 = .ok (.getfield 19, 3) := by decide +kernel
theorem d93_52 : decode Y93.2.1 52 = .ok (.aload_n 0, 1) := by decide +kernel
theorem d93_53 : decode Y93.2.1 53 = .ok (.getfield 47, 3) := by decide +kernel
theorem d93_56 : decode Y93.2.1 56 = .ok (.iload_n 1, 1) := by decide +kernel
theorem d93_57 : decode Y93.2.1 57 = .ok (.invokevirtual 195, 3) := by decide +kernel
theorem d93_60 : decode Y93.2.1 60 = .ok (.invokevirtual 194, 3) := by decide +kernel
theorem d93_63 : decode Y93.2.1 63 = .ok (.aload_n 0, 1) := by decide +kernel
theorem d93_64 : decode Y93.2.1 64 = .ok (.getfield 47, 3) := by decide +kernel
theorem d93_67 : decode Y93.2.1 67 = .ok (.iload_n 1, 1) := by decide +kernel
theorem d93_68 : decode Y93.2.1 68 = .ok (.invokevirtual 178, 3) := by decide +kernel
theorem d93_71 : decode Y93.2.1 71 = .ok (.ireturn, 1) := by decide +kernel
theorem E93 (d : Nat) (a0 : Nat) (x1 : Int32) (h0 : ts_sh a0 = (0, 11)) (m : lt_m) : lt_ev (d + 1) 93 [.inr (.inr (some a0)), .inl x1] m = lt_cI (lt_ev d 90 [.inr (.inr (some (a0 + 13))), .inl x1] m) (fun v1 m1 => (if ¬ v1 = 0 then (lt_cI (lt_ev d 94 [.inr (.inr (some (a0 + 13))), .inl x1] m1) (fun v2 m2 => (lt_cI (lt_ev d 95 [.inr (.inr (some (a0 + 13))), .inl x1] m2) (fun v3 m3 => (lt_cV (lt_ev d 74 [.inr (.inr (some a0)), .inl v2, .inl v3] m3) (fun m4 => (lt_cI (lt_ev d 96 [.inr (.inr (some (a0 + 13))), .inl x1] m4) (fun v4 m5 => (lt_cV (lt_ev d 68 [.inr (.inr (some (a0 + 4))), .inl v4] m5) (fun m6 => (lt_cI (lt_ev d 97 [.inr (.inr (some (a0 + 13))), .inl x1] m6) (fun v5 m7 => (lt_cV (lt_ev d 68 [.inr (.inr (some (a0 + 4))), .inl v5] m7) (fun m8 => (lt_cI (lt_ev d 91 [.inr (.inr (some (a0 + 13))), .inl x1] m8) (fun v6 m9 => (some (some (.inl v6), m9)))))))))))))))))) else (some (some (.inl (-1 : Int32)), m1)))) := by
  refine Eq.trans (lt_enter2 (ls := [some (.inr (.inr (some a0))), some (.inl x1)]) hY93 (Nat.le_of_ble_eq_true rfl) (by rfl)) ?_
  refine Eq.trans (li_aload_n d93_0 (by rfl)) ?_
  refine Eq.trans (li_getr d93_1 fa_11_47 h0 rfl rfl rfl (by decide)) ?_
  refine Eq.trans (li_iload_n d93_4 (by rfl)) ?_
  refine Eq.trans (li_ivI d93_5 ca_11_175 kd_90 kl_90 (by rfl) (by rfl) (sf_of h0 5 (by decide) (by decide)) (Nat.le_of_ble_eq_true rfl) (Nat.le_of_ble_eq_true rfl)) ?_
  refine lt_cI_c (fun v1 m1 => ?_)
  refine Eq.trans (li_if_ne (t := 13) d93_8 (by rfl)) ?_
  refine lt_ite (fun c1 => ?_) (fun c1 => ?_)
  · refine Eq.trans (li_aload_n d93_13 (by rfl)) ?_
    refine Eq.trans (li_aload_n d93_14 (by rfl)) ?_
    refine Eq.trans (li_getr d93_15 fa_11_47 h0 rfl rfl rfl (by decide)) ?_
    refine Eq.trans (li_iload_n d93_18 (by rfl)) ?_
    refine Eq.trans (li_ivI d93_19 ca_11_185 kd_94 kl_94 (by rfl) (by rfl) (sf_of h0 5 (by decide) (by decide)) (Nat.le_of_ble_eq_true rfl) (Nat.le_of_ble_eq_true rfl)) ?_
    refine lt_cI_c (fun v2 m2 => ?_)
    refine Eq.trans (li_aload_n d93_22 (by rfl)) ?_
    refine Eq.trans (li_getr d93_23 fa_11_47 h0 rfl rfl rfl (by decide)) ?_
    refine Eq.trans (li_iload_n d93_26 (by rfl)) ?_
    refine Eq.trans (li_ivI d93_27 ca_11_188 kd_95 kl_95 (by rfl) (by rfl) (sf_of h0 5 (by decide) (by decide)) (Nat.le_of_ble_eq_true rfl) (Nat.le_of_ble_eq_true rfl)) ?_
    refine lt_cI_c (fun v3 m3 => ?_)
    refine Eq.trans (li_ivV d93_30 ca_11_144 kd_74 kl_74 (by rfl) (by rfl) h0 (Nat.le_of_ble_eq_true rfl) (Nat.le_of_ble_eq_true rfl)) ?_
    refine lt_cV_c (fun m4 => ?_)
    refine Eq.trans (li_aload_n d93_33 (by rfl)) ?_
    refine Eq.trans (li_getr d93_34 fa_11_19 h0 rfl rfl rfl (by decide)) ?_
    refine Eq.trans (li_aload_n d93_37 (by rfl)) ?_
    refine Eq.trans (li_getr d93_38 fa_11_47 h0 rfl rfl rfl (by decide)) ?_
    refine Eq.trans (li_iload_n d93_41 (by rfl)) ?_
    refine Eq.trans (li_ivI d93_42 ca_11_191 kd_96 kl_96 (by rfl) (by rfl) (sf_of h0 5 (by decide) (by decide)) (Nat.le_of_ble_eq_true rfl) (Nat.le_of_ble_eq_true rfl)) ?_
    refine lt_cI_c (fun v4 m5 => ?_)
    refine Eq.trans (li_ivV d93_45 ca_11_194 kd_68 kl_68 (by rfl) (by rfl) (sf_of h0 1 (by decide) (by decide)) (Nat.le_of_ble_eq_true rfl) (Nat.le_of_ble_eq_true rfl)) ?_
    refine lt_cV_c (fun m6 => ?_)
    refine Eq.trans (li_aload_n d93_48 (by rfl)) ?_
    refine Eq.trans (li_getr d93_49 fa_11_19 h0 rfl rfl rfl (by decide)) ?_
    refine Eq.trans (li_aload_n d93_52 (by rfl)) ?_
    refine Eq.trans (li_getr d93_53 fa_11_47 h0 rfl rfl rfl (by decide)) ?_
    refine Eq.trans (li_iload_n d93_56 (by rfl)) ?_
    refine Eq.trans (li_ivI d93_57 ca_11_195 kd_97 kl_97 (by rfl) (by rfl) (sf_of h0 5 (by decide) (by decide)) (Nat.le_of_ble_eq_true rfl) (Nat.le_of_ble_eq_true rfl)) ?_
    refine lt_cI_c (fun v5 m7 => ?_)
    refine Eq.trans (li_ivV d93_60 ca_11_194 kd_68 kl_68 (by rfl) (by rfl) (sf_of h0 1 (by decide) (by decide)) (Nat.le_of_ble_eq_true rfl) (Nat.le_of_ble_eq_true rfl)) ?_
    refine lt_cV_c (fun m8 => ?_)
    refine Eq.trans (li_aload_n d93_63 (by rfl)) ?_
    refine Eq.trans (li_getr d93_64 fa_11_47 h0 rfl rfl rfl (by decide)) ?_
    refine Eq.trans (li_iload_n d93_67 (by rfl)) ?_
    refine Eq.trans (li_ivI d93_68 ca_11_178 kd_91 kl_91 (by rfl) (by rfl) (sf_of h0 5 (by decide) (by decide)) (Nat.le_of_ble_eq_true rfl) (Nat.le_of_ble_eq_true rfl)) ?_
    refine lt_cI_c (fun v6 m9 => ?_)
    exact li_iret d93_71 rfl
  · refine Eq.trans (li_iconst d93_11 ic_n1) ?_
    exact li_iret d93_12 rfl
/-! TransitSeals$Ledger.sumOf(I)I -/
theorem d94_0 : decode Y94.2.1 0 = .ok (.aload_n 0, 1) := by decide +kernel
theorem d94_1 : decode Y94.2.1 1 = .ok (.getfield 9, 3) := by decide +kernel
theorem d94_4 : decode Y94.2.1 4 = .ok (.iload_n 1, 1) := by decide +kernel
theorem d94_5 : decode Y94.2.1 5 = .ok (.invokestatic 69, 3) := by decide +kernel
theorem d94_8 : decode Y94.2.1 8 = .ok (.ireturn, 1) := by decide +kernel
theorem E94 (d : Nat) (a0 : Nat) (x1 : Int32) (h0 : ts_sh a0 = (0, 2)) (m : lt_m) : lt_ev (d + 1) 94 [.inr (.inr (some a0)), .inl x1] m = lt_cI (lt_ev d 16 [.inr (.inr (some (a0 + 1))), .inl x1] m) (fun v1 m1 => (some (some (.inl v1), m1))) := by
  refine Eq.trans (lt_enter2 (ls := [some (.inr (.inr (some a0))), some (.inl x1)]) hY94 (Nat.le_of_ble_eq_true rfl) (by rfl)) ?_
  refine Eq.trans (li_aload_n d94_0 (by rfl)) ?_
  refine Eq.trans (li_getr d94_1 fa_2_9 h0 rfl rfl rfl (by decide)) ?_
  refine Eq.trans (li_iload_n d94_4 (by rfl)) ?_
  refine Eq.trans (li_isI d94_5 bi_2_69 ca_2_69 kd_16 (by rfl) (by rfl) (Nat.le_of_ble_eq_true rfl) (Nat.le_of_ble_eq_true rfl)) ?_
  refine lt_cI_c (fun v1 m1 => ?_)
  exact li_iret d94_8 rfl
/-! TransitSeals$Ledger.levelOf(I)I -/
theorem d95_0 : decode Y95.2.1 0 = .ok (.aload_n 0, 1) := by decide +kernel
theorem d95_1 : decode Y95.2.1 1 = .ok (.getfield 15, 3) := by decide +kernel
theorem d95_4 : decode Y95.2.1 4 = .ok (.iload_n 1, 1) := by decide +kernel
theorem d95_5 : decode Y95.2.1 5 = .ok (.invokestatic 69, 3) := by decide +kernel
theorem d95_8 : decode Y95.2.1 8 = .ok (.ireturn, 1) := by decide +kernel
theorem E95 (d : Nat) (a0 : Nat) (x1 : Int32) (h0 : ts_sh a0 = (0, 2)) (m : lt_m) : lt_ev (d + 1) 95 [.inr (.inr (some a0)), .inl x1] m = lt_cI (lt_ev d 16 [.inr (.inr (some (a0 + 2))), .inl x1] m) (fun v1 m1 => (some (some (.inl v1), m1))) := by
  refine Eq.trans (lt_enter2 (ls := [some (.inr (.inr (some a0))), some (.inl x1)]) hY95 (Nat.le_of_ble_eq_true rfl) (by rfl)) ?_
  refine Eq.trans (li_aload_n d95_0 (by rfl)) ?_
  refine Eq.trans (li_getr d95_1 fa_2_15 h0 rfl rfl rfl (by decide)) ?_
  refine Eq.trans (li_iload_n d95_4 (by rfl)) ?_
  refine Eq.trans (li_isI d95_5 bi_2_69 ca_2_69 kd_16 (by rfl) (by rfl) (Nat.le_of_ble_eq_true rfl) (Nat.le_of_ble_eq_true rfl)) ?_
  refine lt_cI_c (fun v1 m1 => ?_)
  exact li_iret d95_8 rfl
/-! TransitSeals$Ledger.freeOf(I)I -/
theorem d96_0 : decode Y96.2.1 0 = .ok (.aload_n 0, 1) := by decide +kernel
theorem d96_1 : decode Y96.2.1 1 = .ok (.iload_n 1, 1) := by decide +kernel
theorem d96_2 : decode Y96.2.1 2 = .ok (.invokevirtual 73, 3) := by decide +kernel
theorem d96_5 : decode Y96.2.1 5 = .ok (.aload_n 0, 1) := by decide +kernel
theorem d96_6 : decode Y96.2.1 6 = .ok (.iload_n 1, 1) := by decide +kernel
theorem d96_7 : decode Y96.2.1 7 = .ok (.invokevirtual 77, 3) := by decide +kernel
theorem d96_10 : decode Y96.2.1 10 = .ok (.isub, 1) := by decide +kernel
theorem d96_11 : decode Y96.2.1 11 = .ok (.ireturn, 1) := by decide +kernel
theorem E96 (d : Nat) (a0 : Nat) (x1 : Int32) (h0 : ts_sh a0 = (0, 2)) (m : lt_m) : lt_ev (d + 1) 96 [.inr (.inr (some a0)), .inl x1] m = lt_cI (lt_ev d 94 [.inr (.inr (some a0)), .inl x1] m) (fun v1 m1 => (lt_cI (lt_ev d 91 [.inr (.inr (some a0)), .inl x1] m1) (fun v2 m2 => (some (some (.inl (v1 - v2)), m2))))) := by
  refine Eq.trans (lt_enter2 (ls := [some (.inr (.inr (some a0))), some (.inl x1)]) hY96 (Nat.le_of_ble_eq_true rfl) (by rfl)) ?_
  refine Eq.trans (li_aload_n d96_0 (by rfl)) ?_
  refine Eq.trans (li_iload_n d96_1 (by rfl)) ?_
  refine Eq.trans (li_ivI d96_2 ca_2_73 kd_94 kl_94 (by rfl) (by rfl) h0 (Nat.le_of_ble_eq_true rfl) (Nat.le_of_ble_eq_true rfl)) ?_
  refine lt_cI_c (fun v1 m1 => ?_)
  refine Eq.trans (li_aload_n d96_5 (by rfl)) ?_
  refine Eq.trans (li_iload_n d96_6 (by rfl)) ?_
  refine Eq.trans (li_ivI d96_7 ca_2_77 kd_91 kl_91 (by rfl) (by rfl) h0 (Nat.le_of_ble_eq_true rfl) (Nat.le_of_ble_eq_true rfl)) ?_
  refine lt_cI_c (fun v2 m2 => ?_)
  refine Eq.trans (li_isub d96_10) ?_
  exact li_iret d96_11 rfl
/-! TransitSeals$Ledger.openOf(I)I -/
theorem d97_0 : decode Y97.2.1 0 = .ok (.iconst 0, 1) := by decide +kernel
theorem d97_1 : decode Y97.2.1 1 = .ok (.istore_n 2, 1) := by decide +kernel
theorem d97_2 : decode Y97.2.1 2 = .ok (.aload_n 0, 1) := by decide +kernel
theorem d97_3 : decode Y97.2.1 3 = .ok (.getfield 20, 3) := by decide +kernel
theorem d97_6 : decode Y97.2.1 6 = .ok (.astore_n 3, 1) := by decide +kernel
theorem d97_7 : decode Y97.2.1 7 = .ok (.aload_n 3, 1) := by decide +kernel
theorem d97_8 : decode Y97.2.1 8 = .ok (.arraylength, 1) := by decide +kernel
theorem d97_9 : decode Y97.2.1 9 = .ok (.istore 4, 2) := by decide +kernel
theorem d97_11 : decode Y97.2.1 11 = .ok (.iconst 0, 1) := by decide +kernel
theorem d97_12 : decode Y97.2.1 12 = .ok (.istore 5, 2) := by decide +kernel
theorem d97_14 : decode Y97.2.1 14 = .ok (.iload 5, 2) := by decide +kernel
theorem d97_16 : decode Y97.2.1 16 = .ok (.iload 4, 2) := by decide +kernel
theorem d97_18 : decode Y97.2.1 18 = .ok (.if_icmp .ge 36, 3) := by decide +kernel
theorem d97_21 : decode Y97.2.1 21 = .ok (.aload_n 3, 1) := by decide +kernel
theorem d97_22 : decode Y97.2.1 22 = .ok (.iload 5, 2) := by decide +kernel
theorem d97_24 : decode Y97.2.1 24 = .ok (.aaload, 1) := by decide +kernel
theorem d97_25 : decode Y97.2.1 25 = .ok (.astore 6, 2) := by decide +kernel
theorem d97_27 : decode Y97.2.1 27 = .ok (.iload_n 2, 1) := by decide +kernel
theorem d97_28 : decode Y97.2.1 28 = .ok (.aload 6, 2) := by decide +kernel
theorem d97_30 : decode Y97.2.1 30 = .ok (.iload_n 1, 1) := by decide +kernel
theorem d97_31 : decode Y97.2.1 31 = .ok (.invokevirtual 80, 3) := by decide +kernel
theorem d97_34 : decode Y97.2.1 34 = .ok (.ifCond .eq 11, 3) := by decide +kernel
theorem d97_37 : decode Y97.2.1 37 = .ok (.aload 6, 2) := by decide +kernel
theorem d97_39 : decode Y97.2.1 39 = .ok (.invokevirtual 87, 3) := by decide +kernel
theorem d97_42 : decode Y97.2.1 42 = .ok (.goto 4, 3) := by decide +kernel
theorem d97_45 : decode Y97.2.1 45 = .ok (.iconst 0, 1) := by decide +kernel
theorem d97_46 : decode Y97.2.1 46 = .ok (.ior, 1) := by decide +kernel
theorem d97_47 : decode Y97.2.1 47 = .ok (.istore_n 2, 1) := by decide +kernel
theorem d97_48 : decode Y97.2.1 48 = .ok (.iinc 5 1, 3) := by decide +kernel
theorem d97_51 : decode Y97.2.1 51 = .ok (.goto (-37), 3) := by decide +kernel
theorem d97_54 : decode Y97.2.1 54 = .ok (.iload_n 2, 1) := by decide +kernel
theorem d97_55 : decode Y97.2.1 55 = .ok (.ireturn, 1) := by decide +kernel
noncomputable def L97_14 (d : Nat) (a0 : Nat) (x1 : Int32) (x2 : Int32) (x5 : Int32) (o6 : Option ts_V) (m : lt_m) : Option lt_r := lt_run d Y97 14 [some (.inr (.inr (some a0))), some (.inl x1), some (.inl x2), some (.inr (.inr (some (a0 + 3)))), some (.inl (20 : Int32)), some (.inl x5), o6] [] m
theorem E97 (d : Nat) (a0 : Nat) (x1 : Int32) (h0 : ts_sh a0 = (0, 2)) (m : lt_m) : lt_ev (d + 1) 97 [.inr (.inr (some a0)), .inl x1] m = L97_14 d a0 x1 (0 : Int32) (0 : Int32) none m := by
  refine Eq.trans (lt_enter2 (ls := [some (.inr (.inr (some a0))), some (.inl x1), none, none, none, none, none]) hY97 (Nat.le_of_ble_eq_true rfl) (by rfl)) ?_
  refine Eq.trans (li_iconst d97_0 ic_0) ?_
  refine Eq.trans (li_istore_n (ls' := [some (.inr (.inr (some a0))), some (.inl x1), some (.inl (0 : Int32)), none, none, none, none]) d97_1 (by decide) (by rfl)) ?_
  refine Eq.trans (li_aload_n d97_2 (by rfl)) ?_
  refine Eq.trans (li_getr d97_3 fa_2_20 h0 rfl rfl rfl (by decide)) ?_
  refine Eq.trans (li_astore_n (ls' := [some (.inr (.inr (some a0))), some (.inl x1), some (.inl (0 : Int32)), some (.inr (.inr (some (a0 + 3)))), none, none, none]) d97_6 (by decide) (by rfl)) ?_
  refine Eq.trans (li_aload_n d97_7 (by rfl)) ?_
  refine Eq.trans (li_alen d97_8 (sf_of h0 2 (by decide) (by decide)) (by decide) (by rfl)) ?_
  refine Eq.trans (li_istore (ls' := [some (.inr (.inr (some a0))), some (.inl x1), some (.inl (0 : Int32)), some (.inr (.inr (some (a0 + 3)))), some (.inl (20 : Int32)), none, none]) d97_9 (by decide) (by rfl)) ?_
  refine Eq.trans (li_iconst d97_11 ic_0) ?_
  refine Eq.trans (li_istore (ls' := [some (.inr (.inr (some a0))), some (.inl x1), some (.inl (0 : Int32)), some (.inr (.inr (some (a0 + 3)))), some (.inl (20 : Int32)), some (.inl (0 : Int32)), none]) d97_12 (by decide) (by rfl)) ?_
  rfl
theorem E97_14 (d : Nat) (a0 : Nat) (x1 : Int32) (x2 : Int32) (x5 : Int32) (o6 : Option ts_V) (h0 : ts_sh a0 = (0, 2)) (m : lt_m) : L97_14 d a0 x1 x2 x5 o6 m = if (20 : Int32) ≤ x5 then (some (some (.inl x2), m)) else (lt_gd (0 ≤ x5 ∧ (x5).toNatClampNeg < 20) (lt_cI (lt_ev d 92 [.inr (.inr (some ((a0 + 3) + 5 + 3 * (x5).toNatClampNeg))), .inl x1] m) (fun v1 m1 => (if v1 = 0 then (L97_14 d a0 x1 (x2 ||| (0 : Int32)) (x5 + (1 : Int32)) (some (.inr (.inr (some ((a0 + 3) + 5 + 3 * (x5).toNatClampNeg))))) m1) else (lt_cI (lt_ev d 65 [.inr (.inr (some ((a0 + 3) + 5 + 3 * (x5).toNatClampNeg)))] m1) (fun v2 m2 => (L97_14 d a0 x1 (x2 ||| v2) (x5 + (1 : Int32)) (some (.inr (.inr (some ((a0 + 3) + 5 + 3 * (x5).toNatClampNeg))))) m2))))))) := by
  show lt_run d Y97 14 [some (.inr (.inr (some a0))), some (.inl x1), some (.inl x2), some (.inr (.inr (some (a0 + 3)))), some (.inl (20 : Int32)), some (.inl x5), o6] [] m = _
  refine Eq.trans (li_iload d97_14 (by rfl)) ?_
  refine Eq.trans (li_iload d97_16 (by rfl)) ?_
  refine Eq.trans (li_icmp_ge (t := 54) d97_18 (by rfl)) ?_
  refine lt_ite (fun c1 => ?_) (fun c1 => ?_)
  · refine Eq.trans (li_iload_n d97_54 (by rfl)) ?_
    exact li_iret d97_55 rfl
  · refine Eq.trans (li_aload_n d97_21 (by rfl)) ?_
    refine Eq.trans (li_iload d97_22 (by rfl)) ?_
    refine Eq.trans (li_aald4 d97_24 (sf_of h0 2 (by decide) (by decide))) ?_
    refine lt_gd_c (fun g1 => ?_)
    refine Eq.trans (li_astore (ls' := [some (.inr (.inr (some a0))), some (.inl x1), some (.inl x2), some (.inr (.inr (some (a0 + 3)))), some (.inl (20 : Int32)), some (.inl x5), some (.inr (.inr (some ((a0 + 3) + 5 + 3 * (x5).toNatClampNeg))))]) d97_25 (by decide) (by rfl)) ?_
    refine Eq.trans (li_iload_n d97_27 (by rfl)) ?_
    refine Eq.trans (li_aload d97_28 (by rfl)) ?_
    refine Eq.trans (li_iload_n d97_30 (by rfl)) ?_
    refine Eq.trans (li_ivI d97_31 ca_2_80 kd_92 kl_92 (by rfl) (by rfl) (sm_4 (sf_of h0 2 (by decide) (by decide)) g1.2) (Nat.le_of_ble_eq_true rfl) (Nat.le_of_ble_eq_true rfl)) ?_
    refine lt_cI_c (fun v1 m1 => ?_)
    refine Eq.trans (li_if_eq (t := 45) d97_34 (by rfl)) ?_
    refine lt_ite (fun c2 => ?_) (fun c2 => ?_)
    · refine Eq.trans (li_iconst d97_45 ic_0) ?_
      refine Eq.trans (li_ior d97_46) ?_
      refine Eq.trans (li_istore_n (ls' := [some (.inr (.inr (some a0))), some (.inl x1), some (.inl (x2 ||| (0 : Int32))), some (.inr (.inr (some (a0 + 3)))), some (.inl (20 : Int32)), some (.inl x5), some (.inr (.inr (some ((a0 + 3) + 5 + 3 * (x5).toNatClampNeg))))]) d97_47 (by decide) (by rfl)) ?_
      refine Eq.trans (li_iinc (ls' := [some (.inr (.inr (some a0))), some (.inl x1), some (.inl (x2 ||| (0 : Int32))), some (.inr (.inr (some (a0 + 3)))), some (.inl (20 : Int32)), some (.inl (x5 + (1 : Int32))), some (.inr (.inr (some ((a0 + 3) + 5 + 3 * (x5).toNatClampNeg))))]) d97_48 (by rfl) (by decide) ic_1 (by rfl)) ?_
      refine Eq.trans (li_goto (t := 14) d97_51 (by rfl)) ?_
      rfl
    · refine Eq.trans (li_aload d97_37 (by rfl)) ?_
      refine Eq.trans (li_ivI d97_39 ca_2_87 kd_65 kl_65 (by rfl) (by rfl) (sm_4 (sf_of h0 2 (by decide) (by decide)) g1.2) (Nat.le_of_ble_eq_true rfl) (Nat.le_of_ble_eq_true rfl)) ?_
      refine lt_cI_c (fun v2 m2 => ?_)
      refine Eq.trans (li_goto (t := 46) d97_42 (by rfl)) ?_
      refine Eq.trans (li_ior d97_46) ?_
      refine Eq.trans (li_istore_n (ls' := [some (.inr (.inr (some a0))), some (.inl x1), some (.inl (x2 ||| v2)), some (.inr (.inr (some (a0 + 3)))), some (.inl (20 : Int32)), some (.inl x5), some (.inr (.inr (some ((a0 + 3) + 5 + 3 * (x5).toNatClampNeg))))]) d97_47 (by decide) (by rfl)) ?_
      refine Eq.trans (li_iinc (ls' := [some (.inr (.inr (some a0))), some (.inl x1), some (.inl (x2 ||| v2)), some (.inr (.inr (some (a0 + 3)))), some (.inl (20 : Int32)), some (.inl (x5 + (1 : Int32))), some (.inr (.inr (some ((a0 + 3) + 5 + 3 * (x5).toNatClampNeg))))]) d97_48 (by rfl) (by decide) ic_1 (by rfl)) ?_
      refine Eq.trans (li_goto (t := 14) d97_51 (by rfl)) ?_
      rfl
/-! TransitSeals.owes(I)I -/
theorem d98_0 : decode Y98.2.1 0 = .ok (.aload_n 0, 1) := by decide +kernel
theorem d98_1 : decode Y98.2.1 1 = .ok (.getfield 47, 3) := by decide +kernel
theorem d98_4 : decode Y98.2.1 4 = .ok (.iload_n 1, 1) := by decide +kernel
theorem d98_5 : decode Y98.2.1 5 = .ok (.invokevirtual 175, 3) := by decide +kernel
theorem d98_8 : decode Y98.2.1 8 = .ok (.ifCond .ne 5, 3) := by decide +kernel
theorem d98_11 : decode Y98.2.1 11 = .ok (.iconst (-1), 1) := by decide +kernel
theorem d98_12 : decode Y98.2.1 12 = .ok (.ireturn, 1) := by decide +kernel
theorem d98_13 : decode Y98.2.1 13 = .ok (.aload_n 0, 1) := by decide +kernel
theorem d98_14 : decode Y98.2.1 14 = .ok (.aload_n 0, 1) := by decide +kernel
theorem d98_15 : decode Y98.2.1 15 = .ok (.getfield 47, 3) := by decide +kernel
theorem d98_18 : decode Y98.2.1 18 = .ok (.iload_n 1, 1) := by decide +kernel
theorem d98_19 : decode Y98.2.1 19 = .ok (.iconst 5, 1) := by decide +kernel
theorem d98_20 : decode Y98.2.1 20 = .ok (.invokevirtual 198, 3) := by decide +kernel
theorem d98_23 : decode Y98.2.1 23 = .ok (.invokevirtual 157, 3) := by decide +kernel
theorem d98_26 : decode Y98.2.1 26 = .ok (.aload_n 0, 1) := by decide +kernel
theorem d98_27 : decode Y98.2.1 27 = .ok (.getfield 47, 3) := by decide +kernel
theorem d98_30 : decode Y98.2.1 30 = .ok (.iload_n 1, 1) := by decide +kernel
theorem d98_31 : decode Y98.2.1 31 = .ok (.iconst 4, 1) := by decide +kernel
theorem d98_32 : decode Y98.2.1 32 = .ok (.invokevirtual 198, 3) := by decide +kernel
theorem d98_35 : decode Y98.2.1 35 = .ok (.ireturn, 1) := by decide +kernel
theorem E98 (d : Nat) (a0 : Nat) (x1 : Int32) (h0 : ts_sh a0 = (0, 11)) (m : lt_m) : lt_ev (d + 1) 98 [.inr (.inr (some a0)), .inl x1] m = lt_cI (lt_ev d 90 [.inr (.inr (some (a0 + 13))), .inl x1] m) (fun v1 m1 => (if ¬ v1 = 0 then (lt_cI (lt_ev d 99 [.inr (.inr (some (a0 + 13))), .inl x1, .inl (5 : Int32)] m1) (fun v2 m2 => (lt_cV (lt_ev d 75 [.inr (.inr (some a0)), .inl v2] m2) (fun m3 => (lt_cI (lt_ev d 99 [.inr (.inr (some (a0 + 13))), .inl x1, .inl (4 : Int32)] m3) (fun v3 m4 => (some (some (.inl v3), m4)))))))) else (some (some (.inl (-1 : Int32)), m1)))) := by
  refine Eq.trans (lt_enter2 (ls := [some (.inr (.inr (some a0))), some (.inl x1)]) hY98 (Nat.le_of_ble_eq_true rfl) (by rfl)) ?_
  refine Eq.trans (li_aload_n d98_0 (by rfl)) ?_
  refine Eq.trans (li_getr d98_1 fa_11_47 h0 rfl rfl rfl (by decide)) ?_
  refine Eq.trans (li_iload_n d98_4 (by rfl)) ?_
  refine Eq.trans (li_ivI d98_5 ca_11_175 kd_90 kl_90 (by rfl) (by rfl) (sf_of h0 5 (by decide) (by decide)) (Nat.le_of_ble_eq_true rfl) (Nat.le_of_ble_eq_true rfl)) ?_
  refine lt_cI_c (fun v1 m1 => ?_)
  refine Eq.trans (li_if_ne (t := 13) d98_8 (by rfl)) ?_
  refine lt_ite (fun c1 => ?_) (fun c1 => ?_)
  · refine Eq.trans (li_aload_n d98_13 (by rfl)) ?_
    refine Eq.trans (li_aload_n d98_14 (by rfl)) ?_
    refine Eq.trans (li_getr d98_15 fa_11_47 h0 rfl rfl rfl (by decide)) ?_
    refine Eq.trans (li_iload_n d98_18 (by rfl)) ?_
    refine Eq.trans (li_iconst d98_19 ic_5) ?_
    refine Eq.trans (li_ivI d98_20 ca_11_198 kd_99 kl_99 (by rfl) (by rfl) (sf_of h0 5 (by decide) (by decide)) (Nat.le_of_ble_eq_true rfl) (Nat.le_of_ble_eq_true rfl)) ?_
    refine lt_cI_c (fun v2 m2 => ?_)
    refine Eq.trans (li_ivV d98_23 ca_11_157 kd_75 kl_75 (by rfl) (by rfl) h0 (Nat.le_of_ble_eq_true rfl) (Nat.le_of_ble_eq_true rfl)) ?_
    refine lt_cV_c (fun m3 => ?_)
    refine Eq.trans (li_aload_n d98_26 (by rfl)) ?_
    refine Eq.trans (li_getr d98_27 fa_11_47 h0 rfl rfl rfl (by decide)) ?_
    refine Eq.trans (li_iload_n d98_30 (by rfl)) ?_
    refine Eq.trans (li_iconst d98_31 ic_4) ?_
    refine Eq.trans (li_ivI d98_32 ca_11_198 kd_99 kl_99 (by rfl) (by rfl) (sf_of h0 5 (by decide) (by decide)) (Nat.le_of_ble_eq_true rfl) (Nat.le_of_ble_eq_true rfl)) ?_
    refine lt_cI_c (fun v3 m4 => ?_)
    exact li_iret d98_35 rfl
  · refine Eq.trans (li_iconst d98_11 ic_n1) ?_
    exact li_iret d98_12 rfl
/-! TransitSeals$Ledger.debtsOf(II)I -/
theorem d99_0 : decode Y99.2.1 0 = .ok (.iconst 0, 1) := by decide +kernel
theorem d99_1 : decode Y99.2.1 1 = .ok (.istore_n 3, 1) := by decide +kernel
theorem d99_2 : decode Y99.2.1 2 = .ok (.aload_n 0, 1) := by decide +kernel
theorem d99_3 : decode Y99.2.1 3 = .ok (.getfield 20, 3) := by decide +kernel
theorem d99_6 : decode Y99.2.1 6 = .ok (.astore 4, 2) := by decide +kernel
theorem d99_8 : decode Y99.2.1 8 = .ok (.aload 4, 2) := by decide +kernel
theorem d99_10 : decode Y99.2.1 10 = .ok (.arraylength, 1) := by decide +kernel
theorem d99_11 : decode Y99.2.1 11 = .ok (.istore 5, 2) := by decide +kernel
theorem d99_13 : decode Y99.2.1 13 = .ok (.iconst 0, 1) := by decide +kernel
theorem d99_14 : decode Y99.2.1 14 = .ok (.istore 6, 2) := by decide +kernel
theorem d99_16 : decode Y99.2.1 16 = .ok (.iload 6, 2) := by decide +kernel
theorem d99_18 : decode Y99.2.1 18 = .ok (.iload 5, 2) := by decide +kernel
theorem d99_20 : decode Y99.2.1 20 = .ok (.if_icmp .ge 46, 3) := by decide +kernel
theorem d99_23 : decode Y99.2.1 23 = .ok (.aload 4, 2) := by decide +kernel
theorem d99_25 : decode Y99.2.1 25 = .ok (.iload 6, 2) := by decide +kernel
theorem d99_27 : decode Y99.2.1 27 = .ok (.aaload, 1) := by decide +kernel
theorem d99_28 : decode Y99.2.1 28 = .ok (.astore 7, 2) := by decide +kernel
theorem d99_30 : decode Y99.2.1 30 = .ok (.iload_n 3, 1) := by decide +kernel
theorem d99_31 : decode Y99.2.1 31 = .ok (.aload 7, 2) := by decide +kernel
theorem d99_33 : decode Y99.2.1 33 = .ok (.getfield 44, 3) := by decide +kernel
theorem d99_36 : decode Y99.2.1 36 = .ok (.iload_n 2, 1) := by decide +kernel
theorem d99_37 : decode Y99.2.1 37 = .ok (.if_icmp .ne 20, 3) := by decide +kernel
theorem d99_40 : decode Y99.2.1 40 = .ok (.aload 7, 2) := by decide +kernel
theorem d99_42 : decode Y99.2.1 42 = .ok (.getfield 91, 3) := by decide +kernel
theorem d99_45 : decode Y99.2.1 45 = .ok (.iload_n 1, 1) := by decide +kernel
theorem d99_46 : decode Y99.2.1 46 = .ok (.if_icmp .ne 11, 3) := by decide +kernel
theorem d99_49 : decode Y99.2.1 49 = .ok (.aload 7, 2) := by decide +kernel
theorem d99_51 : decode Y99.2.1 51 = .ok (.getfield 94, 3) := by decide +kernel
theorem d99_54 : decode Y99.2.1 54 = .ok (.goto 4, 3) := by decide +kernel
theorem d99_57 : decode Y99.2.1 57 = .ok (.iconst 0, 1) := by decide +kernel
theorem d99_58 : decode Y99.2.1 58 = .ok (.iadd, 1) := by decide +kernel
theorem d99_59 : decode Y99.2.1 59 = .ok (.istore_n 3, 1) := by decide +kernel
theorem d99_60 : decode Y99.2.1 60 = .ok (.iinc 6 1, 3) := by decide +kernel
theorem d99_63 : decode Y99.2.1 63 = .ok (.goto (-47), 3) := by decide +kernel
theorem d99_66 : decode Y99.2.1 66 = .ok (.iload_n 3, 1) := by decide +kernel
theorem d99_67 : decode Y99.2.1 67 = .ok (.ireturn, 1) := by decide +kernel
noncomputable def L99_16 (d : Nat) (a0 : Nat) (x1 : Int32) (x2 : Int32) (x3 : Int32) (x6 : Int32) (o7 : Option ts_V) (m : lt_m) : Option lt_r := lt_run d Y99 16 [some (.inr (.inr (some a0))), some (.inl x1), some (.inl x2), some (.inl x3), some (.inr (.inr (some (a0 + 3)))), some (.inl (20 : Int32)), some (.inl x6), o7] [] m
theorem E99 (d : Nat) (a0 : Nat) (x1 : Int32) (x2 : Int32) (h0 : ts_sh a0 = (0, 2)) (m : lt_m) : lt_ev (d + 1) 99 [.inr (.inr (some a0)), .inl x1, .inl x2] m = L99_16 d a0 x1 x2 (0 : Int32) (0 : Int32) none m := by
  refine Eq.trans (lt_enter2 (ls := [some (.inr (.inr (some a0))), some (.inl x1), some (.inl x2), none, none, none, none, none]) hY99 (Nat.le_of_ble_eq_true rfl) (by rfl)) ?_
  refine Eq.trans (li_iconst d99_0 ic_0) ?_
  refine Eq.trans (li_istore_n (ls' := [some (.inr (.inr (some a0))), some (.inl x1), some (.inl x2), some (.inl (0 : Int32)), none, none, none, none]) d99_1 (by decide) (by rfl)) ?_
  refine Eq.trans (li_aload_n d99_2 (by rfl)) ?_
  refine Eq.trans (li_getr d99_3 fa_2_20 h0 rfl rfl rfl (by decide)) ?_
  refine Eq.trans (li_astore (ls' := [some (.inr (.inr (some a0))), some (.inl x1), some (.inl x2), some (.inl (0 : Int32)), some (.inr (.inr (some (a0 + 3)))), none, none, none]) d99_6 (by decide) (by rfl)) ?_
  refine Eq.trans (li_aload d99_8 (by rfl)) ?_
  refine Eq.trans (li_alen d99_10 (sf_of h0 2 (by decide) (by decide)) (by decide) (by rfl)) ?_
  refine Eq.trans (li_istore (ls' := [some (.inr (.inr (some a0))), some (.inl x1), some (.inl x2), some (.inl (0 : Int32)), some (.inr (.inr (some (a0 + 3)))), some (.inl (20 : Int32)), none, none]) d99_11 (by decide) (by rfl)) ?_
  refine Eq.trans (li_iconst d99_13 ic_0) ?_
  refine Eq.trans (li_istore (ls' := [some (.inr (.inr (some a0))), some (.inl x1), some (.inl x2), some (.inl (0 : Int32)), some (.inr (.inr (some (a0 + 3)))), some (.inl (20 : Int32)), some (.inl (0 : Int32)), none]) d99_14 (by decide) (by rfl)) ?_
  rfl
theorem E99_16 (d : Nat) (a0 : Nat) (x1 : Int32) (x2 : Int32) (x3 : Int32) (x6 : Int32) (o7 : Option ts_V) (h0 : ts_sh a0 = (0, 2)) (m : lt_m) : L99_16 d a0 x1 x2 x3 x6 o7 m = if (20 : Int32) ≤ x6 then (some (some (.inl x3), m)) else (lt_gd (0 ≤ x6 ∧ (x6).toNatClampNeg < 20) (if ¬ (m.1 ((a0 + 3) + 5 + 3 * (x6).toNatClampNeg) 7) = x2 then (L99_16 d a0 x1 x2 (x3 + (0 : Int32)) (x6 + (1 : Int32)) (some (.inr (.inr (some ((a0 + 3) + 5 + 3 * (x6).toNatClampNeg))))) m) else (if ¬ (m.1 ((a0 + 3) + 5 + 3 * (x6).toNatClampNeg) 1) = x1 then (L99_16 d a0 x1 x2 (x3 + (0 : Int32)) (x6 + (1 : Int32)) (some (.inr (.inr (some ((a0 + 3) + 5 + 3 * (x6).toNatClampNeg))))) m) else (L99_16 d a0 x1 x2 (x3 + (m.1 ((a0 + 3) + 5 + 3 * (x6).toNatClampNeg) 10)) (x6 + (1 : Int32)) (some (.inr (.inr (some ((a0 + 3) + 5 + 3 * (x6).toNatClampNeg))))) m)))) := by
  show lt_run d Y99 16 [some (.inr (.inr (some a0))), some (.inl x1), some (.inl x2), some (.inl x3), some (.inr (.inr (some (a0 + 3)))), some (.inl (20 : Int32)), some (.inl x6), o7] [] m = _
  refine Eq.trans (li_iload d99_16 (by rfl)) ?_
  refine Eq.trans (li_iload d99_18 (by rfl)) ?_
  refine Eq.trans (li_icmp_ge (t := 66) d99_20 (by rfl)) ?_
  refine lt_ite (fun c1 => ?_) (fun c1 => ?_)
  · refine Eq.trans (li_iload_n d99_66 (by rfl)) ?_
    exact li_iret d99_67 rfl
  · refine Eq.trans (li_aload d99_23 (by rfl)) ?_
    refine Eq.trans (li_iload d99_25 (by rfl)) ?_
    refine Eq.trans (li_aald4 d99_27 (sf_of h0 2 (by decide) (by decide))) ?_
    refine lt_gd_c (fun g1 => ?_)
    refine Eq.trans (li_astore (ls' := [some (.inr (.inr (some a0))), some (.inl x1), some (.inl x2), some (.inl x3), some (.inr (.inr (some (a0 + 3)))), some (.inl (20 : Int32)), some (.inl x6), some (.inr (.inr (some ((a0 + 3) + 5 + 3 * (x6).toNatClampNeg))))]) d99_28 (by decide) (by rfl)) ?_
    refine Eq.trans (li_iload_n d99_30 (by rfl)) ?_
    refine Eq.trans (li_aload d99_31 (by rfl)) ?_
    refine Eq.trans (li_geti d99_33 fa_2_44 (sm_4 (sf_of h0 2 (by decide) (by decide)) g1.2) rfl) ?_
    refine Eq.trans (li_iload_n d99_36 (by rfl)) ?_
    refine Eq.trans (li_icmp_ne (t := 57) d99_37 (by rfl)) ?_
    refine lt_ite (fun c2 => ?_) (fun c2 => ?_)
    · refine Eq.trans (li_iconst d99_57 ic_0) ?_
      refine Eq.trans (li_iadd d99_58) ?_
      refine Eq.trans (li_istore_n (ls' := [some (.inr (.inr (some a0))), some (.inl x1), some (.inl x2), some (.inl (x3 + (0 : Int32))), some (.inr (.inr (some (a0 + 3)))), some (.inl (20 : Int32)), some (.inl x6), some (.inr (.inr (some ((a0 + 3) + 5 + 3 * (x6).toNatClampNeg))))]) d99_59 (by decide) (by rfl)) ?_
      refine Eq.trans (li_iinc (ls' := [some (.inr (.inr (some a0))), some (.inl x1), some (.inl x2), some (.inl (x3 + (0 : Int32))), some (.inr (.inr (some (a0 + 3)))), some (.inl (20 : Int32)), some (.inl (x6 + (1 : Int32))), some (.inr (.inr (some ((a0 + 3) + 5 + 3 * (x6).toNatClampNeg))))]) d99_60 (by rfl) (by decide) ic_1 (by rfl)) ?_
      refine Eq.trans (li_goto (t := 16) d99_63 (by rfl)) ?_
      rfl
    · refine Eq.trans (li_aload d99_40 (by rfl)) ?_
      refine Eq.trans (li_geti d99_42 fa_2_91 (sm_4 (sf_of h0 2 (by decide) (by decide)) g1.2) rfl) ?_
      refine Eq.trans (li_iload_n d99_45 (by rfl)) ?_
      refine Eq.trans (li_icmp_ne (t := 57) d99_46 (by rfl)) ?_
      refine lt_ite (fun c3 => ?_) (fun c3 => ?_)
      · refine Eq.trans (li_iconst d99_57 ic_0) ?_
        refine Eq.trans (li_iadd d99_58) ?_
        refine Eq.trans (li_istore_n (ls' := [some (.inr (.inr (some a0))), some (.inl x1), some (.inl x2), some (.inl (x3 + (0 : Int32))), some (.inr (.inr (some (a0 + 3)))), some (.inl (20 : Int32)), some (.inl x6), some (.inr (.inr (some ((a0 + 3) + 5 + 3 * (x6).toNatClampNeg))))]) d99_59 (by decide) (by rfl)) ?_
        refine Eq.trans (li_iinc (ls' := [some (.inr (.inr (some a0))), some (.inl x1), some (.inl x2), some (.inl (x3 + (0 : Int32))), some (.inr (.inr (some (a0 + 3)))), some (.inl (20 : Int32)), some (.inl (x6 + (1 : Int32))), some (.inr (.inr (some ((a0 + 3) + 5 + 3 * (x6).toNatClampNeg))))]) d99_60 (by rfl) (by decide) ic_1 (by rfl)) ?_
        refine Eq.trans (li_goto (t := 16) d99_63 (by rfl)) ?_
        rfl
      · refine Eq.trans (li_aload d99_49 (by rfl)) ?_
        refine Eq.trans (li_geti d99_51 fa_2_94 (sm_4 (sf_of h0 2 (by decide) (by decide)) g1.2) rfl) ?_
        refine Eq.trans (li_goto (t := 58) d99_54 (by rfl)) ?_
        refine Eq.trans (li_iadd d99_58) ?_
        refine Eq.trans (li_istore_n (ls' := [some (.inr (.inr (some a0))), some (.inl x1), some (.inl x2), some (.inl (x3 + (m.1 ((a0 + 3) + 5 + 3 * (x6).toNatClampNeg) 10))), some (.inr (.inr (some (a0 + 3)))), some (.inl (20 : Int32)), some (.inl x6), some (.inr (.inr (some ((a0 + 3) + 5 + 3 * (x6).toNatClampNeg))))]) d99_59 (by decide) (by rfl)) ?_
        refine Eq.trans (li_iinc (ls' := [some (.inr (.inr (some a0))), some (.inl x1), some (.inl x2), some (.inl (x3 + (m.1 ((a0 + 3) + 5 + 3 * (x6).toNatClampNeg) 10))), some (.inr (.inr (some (a0 + 3)))), some (.inl (20 : Int32)), some (.inl (x6 + (1 : Int32))), some (.inr (.inr (some ((a0 + 3) + 5 + 3 * (x6).toNatClampNeg))))]) d99_60 (by rfl) (by decide) ic_1 (by rfl)) ?_
        refine Eq.trans (li_goto (t := 16) d99_63 (by rfl)) ?_
        rfl
/-! TransitSeals.starts(III)I -/
theorem d100_0 : decode Y100.2.1 0 = .ok (.aload_n 0, 1) := by decide +kernel
theorem d100_1 : decode Y100.2.1 1 = .ok (.getfield 26, 3) := by decide +kernel
theorem d100_4 : decode Y100.2.1 4 = .ok (.aload_n 0, 1) := by decide +kernel
theorem d100_5 : decode Y100.2.1 5 = .ok (.getfield 10, 3) := by decide +kernel
theorem d100_8 : decode Y100.2.1 8 = .ok (.aload_n 0, 1) := by decide +kernel
theorem d100_9 : decode Y100.2.1 9 = .ok (.getfield 61, 3) := by decide +kernel
theorem d100_12 : decode Y100.2.1 12 = .ok (.invokevirtual 201, 3) := by decide +kernel
theorem d100_15 : decode Y100.2.1 15 = .ok (.aload_n 0, 1) := by decide +kernel
theorem d100_16 : decode Y100.2.1 16 = .ok (.getfield 10, 3) := by decide +kernel
theorem d100_19 : decode Y100.2.1 19 = .ok (.invokevirtual 89, 3) := by decide +kernel
theorem d100_22 : decode Y100.2.1 22 = .ok (.ifCond .eq 11, 3) := by decide +kernel
theorem d100_25 : decode Y100.2.1 25 = .ok (.aload_n 0, 1) := by decide +kernel
theorem d100_26 : decode Y100.2.1 26 = .ok (.getfield 10, 3) := by decide +kernel
theorem d100_29 : decode Y100.2.1 29 = .ok (.invokevirtual 93, 3) := by decide +kernel
theorem d100_32 : decode Y100.2.1 32 = .ok (.ireturn, 1) := by decide +kernel
theorem d100_33 : decode Y100.2.1 33 = .ok (.aload_n 0, 1) := by decide +kernel
theorem d100_34 : decode Y100.2.1 34 = .ok (.getfield 47, 3) := by decide +kernel
theorem d100_37 : decode Y100.2.1 37 = .ok (.iload_n 1, 1) := by decide +kernel
theorem d100_38 : decode Y100.2.1 38 = .ok (.invokevirtual 175, 3) := by decide +kernel
theorem d100_41 : decode Y100.2.1 41 = .ok (.ifCond .eq 26, 3) := by decide +kernel
theorem d100_44 : decode Y100.2.1 44 = .ok (.aload_n 0, 1) := by decide +kernel
theorem d100_45 : decode Y100.2.1 45 = .ok (.getfield 61, 3) := by decide +kernel
theorem d100_48 : decode Y100.2.1 48 = .ok (.iload_n 2, 1) := by decide +kernel
theorem d100_49 : decode Y100.2.1 49 = .ok (.invokevirtual 204, 3) := by decide +kernel
theorem d100_52 : decode Y100.2.1 52 = .ok (.ifCond .eq 15, 3) := by decide +kernel
theorem d100_55 : decode Y100.2.1 55 = .ok (.iload_n 3, 1) := by decide +kernel
theorem d100_56 : decode Y100.2.1 56 = .ok (.iconst 1, 1) := by decide +kernel
theorem d100_57 : decode Y100.2.1 57 = .ok (.if_icmp .lt 10, 3) := by decide +kernel
theorem d100_60 : decode Y100.2.1 60 = .ok (.iload_n 3, 1) := by decide +kernel
theorem d100_61 : decode Y100.2.1 61 = .ok (.sipush 999, 3) := by decide +kernel
theorem d100_64 : decode Y100.2.1 64 = .ok (.if_icmp .le 5, 3) := by decide +kernel
theorem d100_67 : decode Y100.2.1 67 = .ok (.iconst (-1), 1) := by decide +kernel
theorem d100_68 : decode Y100.2.1 68 = .ok (.ireturn, 1) := by decide +kernel
theorem d100_69 : decode Y100.2.1 69 = .ok (.aload_n 0, 1) := by decide +kernel
theorem d100_70 : decode Y100.2.1 70 = .ok (.getfield 47, 3) := by decide +kernel
theorem d100_73 : decode Y100.2.1 73 = .ok (.invokevirtual 207, 3) := by decide +kernel
theorem d100_76 : decode Y100.2.1 76 = .ok (.astore 4, 2) := by decide +kernel
theorem d100_78 : decode Y100.2.1 78 = .ok (.aload 4, 2) := by decide +kernel
theorem d100_80 : decode Y100.2.1 80 = .ok (.ifnonnull 6, 3) := by decide +kernel
theorem d100_83 : decode Y100.2.1 83 = .ok (.bipush (-2), 2) := by decide +kernel
theorem d100_85 : decode Y100.2.1 85 = .ok (.ireturn, 1) := by decide +kernel
theorem d100_86 : decode Y100.2.1 86 = .ok (.iload_n 3, 1) := by decide +kernel
theorem d100_87 : decode Y100.2.1 87 = .ok (.aload_n 0, 1) := by decide +kernel
theorem d100_88 : decode Y100.2.1 88 = .ok (.getfield 61, 3) := by decide +kernel
theorem d100_91 : decode Y100.2.1 91 = .ok (.iload_n 2, 1) := by decide +kernel
theorem d100_92 : decode Y100.2.1 92 = .ok (.invokevirtual 211, 3) := by decide +kernel
theorem d100_95 : decode Y100.2.1 95 = .ok (.imul, 1) := by decide +kernel
theorem d100_96 : decode Y100.2.1 96 = .ok (.istore 5, 2) := by decide +kernel
theorem d100_98 : decode Y100.2.1 98 = .ok (.iload 5, 2) := by decide +kernel
theorem d100_100 : decode Y100.2.1 100 = .ok (.aload_n 0, 1) := by decide +kernel
theorem d100_101 : decode Y100.2.1 101 = .ok (.getfield 47, 3) := by decide +kernel
theorem d100_104 : decode Y100.2.1 104 = .ok (.iload_n 1, 1) := by decide +kernel
theorem d100_105 : decode Y100.2.1 105 = .ok (.invokevirtual 188, 3) := by decide +kernel
theorem d100_108 : decode Y100.2.1 108 = .ok (.invokestatic 214, 3) := by decide +kernel
theorem d100_111 : decode Y100.2.1 111 = .ok (.istore 6, 2) := by decide +kernel
theorem d100_113 : decode Y100.2.1 113 = .ok (.iload 6, 2) := by decide +kernel
theorem d100_115 : decode Y100.2.1 115 = .ok (.aload_n 0, 1) := by decide +kernel
theorem d100_116 : decode Y100.2.1 116 = .ok (.getfield 47, 3) := by decide +kernel
theorem d100_119 : decode Y100.2.1 119 = .ok (.iload_n 1, 1) := by decide +kernel
theorem d100_120 : decode Y100.2.1 120 = .ok (.invokevirtual 191, 3) := by decide +kernel
theorem d100_123 : decode Y100.2.1 123 = .ok (.if_icmp .le 6, 3) := by decide +kernel
theorem d100_126 : decode Y100.2.1 126 = .ok (.bipush (-3), 2) := by decide +kernel
theorem d100_128 : decode Y100.2.1 128 = .ok (.ireturn, 1) := by decide +kernel
theorem d100_129 : decode Y100.2.1 129 = .ok (.aload_n 0, 1) := by decide +kernel
theorem d100_130 : decode Y100.2.1 130 = .ok (.getfield 54, 3) := by decide +kernel
theorem d100_133 : decode Y100.2.1 133 = .ok (.aload_n 0, 1) := by decide +kernel
theorem d100_134 : decode Y100.2.1 134 = .ok (.getfield 47, 3) := by decide +kernel
theorem d100_137 : decode Y100.2.1 137 = .ok (.invokevirtual 168, 3) := by decide +kernel
theorem d100_140 : decode Y100.2.1 140 = .ok (.aload 4, 2) := by decide +kernel
theorem d100_142 : decode Y100.2.1 142 = .ok (.iload_n 1, 1) := by decide +kernel
theorem d100_143 : decode Y100.2.1 143 = .ok (.iload_n 2, 1) := by decide +kernel
theorem d100_144 : decode Y100.2.1 144 = .ok (.iload_n 3, 1) := by decide +kernel
theorem d100_145 : decode Y100.2.1 145 = .ok (.iload 5, 2) := by decide +kernel
theorem d100_147 : decode Y100.2.1 147 = .ok (.iload 6, 2) := by decide +kernel
theorem d100_149 : decode Y100.2.1 149 = .ok (.invokevirtual 217, 3) := by decide +kernel
theorem d100_152 : decode Y100.2.1 152 = .ok (.aload 4, 2) := by decide +kernel
theorem d100_154 : decode Y100.2.1 154 = .ok (.aload_n 0, 1) := by decide +kernel
theorem d100_155 : decode Y100.2.1 155 = .ok (.getfield 26, 3) := by decide +kernel
theorem d100_158 : decode Y100.2.1 158 = .ok (.aload_n 0, 1) := by decide +kernel
theorem d100_159 : decode Y100.2.1 159 = .ok (.getfield 47, 3) := by decide +kernel
theorem d100_162 : decode Y100.2.1 162 = .ok (.getfield 223, 3) := by decide +kernel
theorem d100_165 : decode Y100.2.1 165 = .ok (.invokevirtual 226, 3) := by decide +kernel
theorem d100_168 : decode Y100.2.1 168 = .ok (.aload_n 0, 1) := by decide +kernel
theorem d100_169 : decode Y100.2.1 169 = .ok (.getfield 47, 3) := by decide +kernel
theorem d100_172 : decode Y100.2.1 172 = .ok (.dup, 1) := by decide +kernel
theorem d100_173 : decode Y100.2.1 173 = .ok (.getfield 230, 3) := by decide +kernel
theorem d100_176 : decode Y100.2.1 176 = .ok (.iconst 1, 1) := by decide +kernel
theorem d100_177 : decode Y100.2.1 177 = .ok (.iadd, 1) := by decide +kernel
theorem d100_178 : decode Y100.2.1 178 = .ok (.putfield 230, 3) := by decide +kernel
theorem d100_181 : decode Y100.2.1 181 = .ok (.aload_n 0, 1) := by decide +kernel
theorem d100_182 : decode Y100.2.1 182 = .ok (.getfield 47, 3) := by decide +kernel
theorem d100_185 : decode Y100.2.1 185 = .ok (.iconst 0, 1) := by decide +kernel
theorem d100_186 : decode Y100.2.1 186 = .ok (.aload 4, 2) := by decide +kernel
theorem d100_188 : decode Y100.2.1 188 = .ok (.invokevirtual 233, 3) := by decide +kernel
theorem d100_191 : decode Y100.2.1 191 = .ok (.aload 4, 2) := by decide +kernel
theorem d100_193 : decode Y100.2.1 193 = .ok (.getfield 237, 3) := by decide +kernel
theorem d100_196 : decode Y100.2.1 196 = .ok (.ireturn, 1) := by decide +kernel
theorem E100 (d : Nat) (a0 : Nat) (x1 : Int32) (x2 : Int32) (x3 : Int32) (h0 : ts_sh a0 = (0, 11)) (m : lt_m) : lt_ev (d + 1) 100 [.inr (.inr (some a0)), .inl x1, .inl x2, .inl x3] m = lt_cV (lt_ev d 101 [.inr (.inr (some (a0 + 6))), .inr (.inr (some (a0 + 1))), .inr (.inr (some (m.2.2.1)))] m) (fun m1 => (lt_cI (lt_ev d 38 [.inr (.inr (some (a0 + 1)))] m1) (fun v1 m2 => (if v1 = 0 then (lt_cI (lt_ev d 90 [.inr (.inr (some (a0 + 13))), .inl x1] m2) (fun v2 m3 => (if v2 = 0 then (some (some (.inl (-1 : Int32)), m3)) else (lt_gd (ts_sh (m3.2.2.1) = (0, 5)) (lt_cI (lt_ev d 103 [.inr (.inr (some (m3.2.2.1))), .inl x2] m3) (fun v3 m4 => (if v3 = 0 then (some (some (.inl (-1 : Int32)), m4)) else (if x3 < (1 : Int32) then (some (some (.inl (-1 : Int32)), m4)) else (if x3 ≤ (999 : Int32) then (lt_cR (lt_ev d 104 [.inr (.inr (some (a0 + 13)))] m4) (fun v4 m5 => (lt_nl v4 (some (some (.inl (-2 : Int32)), m5)) (fun q1 => (lt_gd (ts_sh (m5.2.2.1) = (0, 5)) (lt_cI (lt_ev d 25 [.inr (.inr (some (m5.2.2.1))), .inl x2] m5) (fun v5 m6 => (lt_cI (lt_ev d 95 [.inr (.inr (some (a0 + 13))), .inl x1] m6) (fun v6 m7 => (lt_cI (lt_ev d 106 [.inl (x3 * v5), .inl v6] m7) (fun v7 m8 => (lt_cI (lt_ev d 96 [.inr (.inr (some (a0 + 13))), .inl x1] m8) (fun v8 m9 => (if v7 ≤ v8 then (lt_cV (lt_ev d 81 [.inr (.inr (some (a0 + 81))), .inr (.inr (some (a0 + 13)))] m9) (fun m10 => (lt_gd (ts_sh q1 = (0, 4)) (lt_cV (lt_ev d 108 [.inr (.inr (some q1)), .inl x1, .inl x2, .inl x3, .inl (x3 * v5), .inl v7] m10) (fun m11 => (lt_cV (lt_ev d 109 [.inr (.inr (some q1)), .inr (.inr (some (a0 + 6))), .inl (m11.1 (a0 + 13) 4)] m11) (fun m12 => (lt_cV (lt_ev d 111 [.inr (.inr (some (a0 + 13))), .inl (0 : Int32), .inr (.inr (some q1))] (lm_i m12 (a0 + 13) 6 ((m12.1 (a0 + 13) 6) + (1 : Int32)))) (fun m13 => (some (some (.inl (m13.1 q1 0)), m13))))))))))) else (some (some (.inl (-3 : Int32)), m9)))))))))))))))) else (some (some (.inl (-1 : Int32)), m4))))))))))) else (lt_cI (lt_ev d 52 [.inr (.inr (some (a0 + 1)))] m2) (fun v9 m14 => (some (some (.inl v9), m14)))))))) := by
  refine Eq.trans (lt_enter2 (ls := [some (.inr (.inr (some a0))), some (.inl x1), some (.inl x2), some (.inl x3), none, none, none]) hY100 (Nat.le_of_ble_eq_true rfl) (by rfl)) ?_
  refine Eq.trans (li_aload_n d100_0 (by rfl)) ?_
  refine Eq.trans (li_getr d100_1 fa_11_26 h0 rfl rfl rfl (by decide)) ?_
  refine Eq.trans (li_aload_n d100_4 (by rfl)) ?_
  refine Eq.trans (li_getr d100_5 fa_11_10 h0 rfl rfl rfl (by decide)) ?_
  refine Eq.trans (li_aload_n d100_8 (by rfl)) ?_
  refine Eq.trans (li_getnet d100_9 fa_11_61 h0) ?_
  refine Eq.trans (li_ivV d100_12 ca_11_201 kd_101 kl_101 (by rfl) (by rfl) (sf_of h0 2 (by decide) (by decide)) (Nat.le_of_ble_eq_true rfl) (Nat.le_of_ble_eq_true rfl)) ?_
  refine lt_cV_c (fun m1 => ?_)
  refine Eq.trans (li_aload_n d100_15 (by rfl)) ?_
  refine Eq.trans (li_getr d100_16 fa_11_10 h0 rfl rfl rfl (by decide)) ?_
  refine Eq.trans (li_ivI d100_19 ca_11_89 kd_38 kl_38 (by rfl) (by rfl) (sf_of h0 0 (by decide) (by decide)) (Nat.le_of_ble_eq_true rfl) (Nat.le_of_ble_eq_true rfl)) ?_
  refine lt_cI_c (fun v1 m2 => ?_)
  refine Eq.trans (li_if_eq (t := 33) d100_22 (by rfl)) ?_
  refine lt_ite (fun c1 => ?_) (fun c1 => ?_)
  · refine Eq.trans (li_aload_n d100_33 (by rfl)) ?_
    refine Eq.trans (li_getr d100_34 fa_11_47 h0 rfl rfl rfl (by decide)) ?_
    refine Eq.trans (li_iload_n d100_37 (by rfl)) ?_
    refine Eq.trans (li_ivI d100_38 ca_11_175 kd_90 kl_90 (by rfl) (by rfl) (sf_of h0 5 (by decide) (by decide)) (Nat.le_of_ble_eq_true rfl) (Nat.le_of_ble_eq_true rfl)) ?_
    refine lt_cI_c (fun v2 m3 => ?_)
    refine Eq.trans (li_if_eq (t := 67) d100_41 (by rfl)) ?_
    refine lt_ite (fun c2 => ?_) (fun c2 => ?_)
    · refine Eq.trans (li_iconst d100_67 ic_n1) ?_
      exact li_iret d100_68 rfl
    · refine Eq.trans (li_aload_n d100_44 (by rfl)) ?_
      refine Eq.trans (li_getnet d100_45 fa_11_61 h0) ?_
      refine Eq.trans (li_iload_n d100_48 (by rfl)) ?_
      refine Eq.trans (li_ginv d100_49 ca_11_204 kl_103 (by rfl)) ?_
      refine lt_gd_c (fun g1 => ?_)
      refine Eq.trans (li_ivI d100_49 ca_11_204 kd_103 kl_103 (by rfl) (by rfl) g1 (Nat.le_of_ble_eq_true rfl) (Nat.le_of_ble_eq_true rfl)) ?_
      refine lt_cI_c (fun v3 m4 => ?_)
      refine Eq.trans (li_if_eq (t := 67) d100_52 (by rfl)) ?_
      refine lt_ite (fun c3 => ?_) (fun c3 => ?_)
      · refine Eq.trans (li_iconst d100_67 ic_n1) ?_
        exact li_iret d100_68 rfl
      · refine Eq.trans (li_iload_n d100_55 (by rfl)) ?_
        refine Eq.trans (li_iconst d100_56 ic_1) ?_
        refine Eq.trans (li_icmp_lt (t := 67) d100_57 (by rfl)) ?_
        refine lt_ite (fun c4 => ?_) (fun c4 => ?_)
        · refine Eq.trans (li_iconst d100_67 ic_n1) ?_
          exact li_iret d100_68 rfl
        · refine Eq.trans (li_iload_n d100_60 (by rfl)) ?_
          refine Eq.trans (li_sipush d100_61 si_999) ?_
          refine Eq.trans (li_icmp_le (t := 69) d100_64 (by rfl)) ?_
          refine lt_ite (fun c5 => ?_) (fun c5 => ?_)
          · refine Eq.trans (li_aload_n d100_69 (by rfl)) ?_
            refine Eq.trans (li_getr d100_70 fa_11_47 h0 rfl rfl rfl (by decide)) ?_
            refine Eq.trans (li_ivR d100_73 ca_11_207 kd_104 kl_104 (by rfl) (by rfl) (sf_of h0 5 (by decide) (by decide)) (Nat.le_of_ble_eq_true rfl) (Nat.le_of_ble_eq_true rfl)) ?_
            refine lt_cR_c (fun v4 m5 => ?_)
            refine Eq.trans (li_astore (ls' := [some (.inr (.inr (some a0))), some (.inl x1), some (.inl x2), some (.inl x3), some (.inr (.inr v4)), none, none]) d100_76 (by decide) (by rfl)) ?_
            refine Eq.trans (li_aload d100_78 (by rfl)) ?_
            refine lt_nl_x (F := fun oz => lt_run d Y100 80 [some (.inr (.inr (some a0))), some (.inl x1), some (.inl x2), some (.inl x3), some (.inr (.inr oz)), none, none] [.inr (.inr oz)] m5) ?_ (fun q1 => ?_)
            · refine Eq.trans (li_ifnonnull_n d100_80) ?_
              refine Eq.trans (li_bipush d100_83 bi_n2) ?_
              exact li_iret d100_85 rfl
            · refine Eq.trans (li_ifnonnull_s (t := 86) d100_80 (by rfl)) ?_
              refine Eq.trans (li_iload_n d100_86 (by rfl)) ?_
              refine Eq.trans (li_aload_n d100_87 (by rfl)) ?_
              refine Eq.trans (li_getnet d100_88 fa_11_61 h0) ?_
              refine Eq.trans (li_iload_n d100_91 (by rfl)) ?_
              refine Eq.trans (li_ginv d100_92 ca_11_211 kl_25 (by rfl)) ?_
              refine lt_gd_c (fun g2 => ?_)
              refine Eq.trans (li_ivI d100_92 ca_11_211 kd_25 kl_25 (by rfl) (by rfl) g2 (Nat.le_of_ble_eq_true rfl) (Nat.le_of_ble_eq_true rfl)) ?_
              refine lt_cI_c (fun v5 m6 => ?_)
              refine Eq.trans (li_imul d100_95) ?_
              refine Eq.trans (li_istore (ls' := [some (.inr (.inr (some a0))), some (.inl x1), some (.inl x2), some (.inl x3), some (.inr (.inr (some q1))), some (.inl (x3 * v5)), none]) d100_96 (by decide) (by rfl)) ?_
              refine Eq.trans (li_iload d100_98 (by rfl)) ?_
              refine Eq.trans (li_aload_n d100_100 (by rfl)) ?_
              refine Eq.trans (li_getr d100_101 fa_11_47 h0 rfl rfl rfl (by decide)) ?_
              refine Eq.trans (li_iload_n d100_104 (by rfl)) ?_
              refine Eq.trans (li_ivI d100_105 ca_11_188 kd_95 kl_95 (by rfl) (by rfl) (sf_of h0 5 (by decide) (by decide)) (Nat.le_of_ble_eq_true rfl) (Nat.le_of_ble_eq_true rfl)) ?_
              refine lt_cI_c (fun v6 m7 => ?_)
              refine Eq.trans (li_isI d100_108 bi_11_214 ca_11_214 kd_106 (by rfl) (by rfl) (Nat.le_of_ble_eq_true rfl) (Nat.le_of_ble_eq_true rfl)) ?_
              refine lt_cI_c (fun v7 m8 => ?_)
              refine Eq.trans (li_istore (ls' := [some (.inr (.inr (some a0))), some (.inl x1), some (.inl x2), some (.inl x3), some (.inr (.inr (some q1))), some (.inl (x3 * v5)), some (.inl v7)]) d100_111 (by decide) (by rfl)) ?_
              refine Eq.trans (li_iload d100_113 (by rfl)) ?_
              refine Eq.trans (li_aload_n d100_115 (by rfl)) ?_
              refine Eq.trans (li_getr d100_116 fa_11_47 h0 rfl rfl rfl (by decide)) ?_
              refine Eq.trans (li_iload_n d100_119 (by rfl)) ?_
              refine Eq.trans (li_ivI d100_120 ca_11_191 kd_96 kl_96 (by rfl) (by rfl) (sf_of h0 5 (by decide) (by decide)) (Nat.le_of_ble_eq_true rfl) (Nat.le_of_ble_eq_true rfl)) ?_
              refine lt_cI_c (fun v8 m9 => ?_)
              refine Eq.trans (li_icmp_le (t := 129) d100_123 (by rfl)) ?_
              refine lt_ite (fun c6 => ?_) (fun c6 => ?_)
              · refine Eq.trans (li_aload_n d100_129 (by rfl)) ?_
                refine Eq.trans (li_getr d100_130 fa_11_54 h0 rfl rfl rfl (by decide)) ?_
                refine Eq.trans (li_aload_n d100_133 (by rfl)) ?_
                refine Eq.trans (li_getr d100_134 fa_11_47 h0 rfl rfl rfl (by decide)) ?_
                refine Eq.trans (li_ivV d100_137 ca_11_168 kd_81 kl_81 (by rfl) (by rfl) (sf_of h0 6 (by decide) (by decide)) (Nat.le_of_ble_eq_true rfl) (Nat.le_of_ble_eq_true rfl)) ?_
                refine lt_cV_c (fun m10 => ?_)
                refine Eq.trans (li_aload d100_140 (by rfl)) ?_
                refine Eq.trans (li_iload_n d100_142 (by rfl)) ?_
                refine Eq.trans (li_iload_n d100_143 (by rfl)) ?_
                refine Eq.trans (li_iload_n d100_144 (by rfl)) ?_
                refine Eq.trans (li_iload d100_145 (by rfl)) ?_
                refine Eq.trans (li_iload d100_147 (by rfl)) ?_
                refine Eq.trans (li_ginv d100_149 ca_11_217 kl_108 (by rfl)) ?_
                refine lt_gd_c (fun g3 => ?_)
                refine Eq.trans (li_ivV d100_149 ca_11_217 kd_108 kl_108 (by rfl) (by rfl) g3 (Nat.le_of_ble_eq_true rfl) (Nat.le_of_ble_eq_true rfl)) ?_
                refine lt_cV_c (fun m11 => ?_)
                refine Eq.trans (li_aload d100_152 (by rfl)) ?_
                refine Eq.trans (li_aload_n d100_154 (by rfl)) ?_
                refine Eq.trans (li_getr d100_155 fa_11_26 h0 rfl rfl rfl (by decide)) ?_
                refine Eq.trans (li_aload_n d100_158 (by rfl)) ?_
                refine Eq.trans (li_getr d100_159 fa_11_47 h0 rfl rfl rfl (by decide)) ?_
                refine Eq.trans (li_geti d100_162 fa_11_223 (sf_of h0 5 (by decide) (by decide)) rfl) ?_
                refine Eq.trans (li_ivV d100_165 ca_11_226 kd_109 kl_109 (by rfl) (by rfl) g3 (Nat.le_of_ble_eq_true rfl) (Nat.le_of_ble_eq_true rfl)) ?_
                refine lt_cV_c (fun m12 => ?_)
                refine Eq.trans (li_aload_n d100_168 (by rfl)) ?_
                refine Eq.trans (li_getr d100_169 fa_11_47 h0 rfl rfl rfl (by decide)) ?_
                refine Eq.trans (li_dup d100_172 rfl) ?_
                refine Eq.trans (li_geti d100_173 fa_11_230 (sf_of h0 5 (by decide) (by decide)) rfl) ?_
                refine Eq.trans (li_iconst d100_176 ic_1) ?_
                refine Eq.trans (li_iadd d100_177) ?_
                refine Eq.trans (li_puti d100_178 fa_11_230 (sf_of h0 5 (by decide) (by decide)) rfl rfl) ?_
                refine Eq.trans (li_aload_n d100_181 (by rfl)) ?_
                refine Eq.trans (li_getr d100_182 fa_11_47 h0 rfl rfl rfl (by decide)) ?_
                refine Eq.trans (li_iconst d100_185 ic_0) ?_
                refine Eq.trans (li_aload d100_186 (by rfl)) ?_
                refine Eq.trans (li_ivV d100_188 ca_11_233 kd_111 kl_111 (by rfl) (by rfl) (sf_of h0 5 (by decide) (by decide)) (Nat.le_of_ble_eq_true rfl) (Nat.le_of_ble_eq_true rfl)) ?_
                refine lt_cV_c (fun m13 => ?_)
                refine Eq.trans (li_aload d100_191 (by rfl)) ?_
                refine Eq.trans (li_geti d100_193 fa_11_237 g3 rfl) ?_
                exact li_iret d100_196 rfl
              · refine Eq.trans (li_bipush d100_126 bi_n3) ?_
                exact li_iret d100_128 rfl
          · refine Eq.trans (li_iconst d100_67 ic_n1) ?_
            exact li_iret d100_68 rfl
  · refine Eq.trans (li_aload_n d100_25 (by rfl)) ?_
    refine Eq.trans (li_getr d100_26 fa_11_10 h0 rfl rfl rfl (by decide)) ?_
    refine Eq.trans (li_ivI d100_29 ca_11_93 kd_52 kl_52 (by rfl) (by rfl) (sf_of h0 0 (by decide) (by decide)) (Nat.le_of_ble_eq_true rfl) (Nat.le_of_ble_eq_true rfl)) ?_
    refine lt_cI_c (fun v9 m14 => ?_)
    exact li_iret d100_32 rfl
/-! TransitSeals$Route.readFrom(LTransitSeals$Reader;LTransitSeals$Net;)V -/
theorem d101_0 : decode Y101.2.1 0 = .ok (.aload_n 1, 1) := by decide +kernel
theorem d101_1 : decode Y101.2.1 1 = .ok (.invokevirtual 26, 3) := by decide +kernel
theorem d101_4 : decode Y101.2.1 4 = .ok (.aload_n 0, 1) := by decide +kernel
theorem d101_5 : decode Y101.2.1 5 = .ok (.iconst 0, 1) := by decide +kernel
theorem d101_6 : decode Y101.2.1 6 = .ok (.putfield 15, 3) := by decide +kernel
theorem d101_9 : decode Y101.2.1 9 = .ok (.aload_n 0, 1) := by decide +kernel
theorem d101_10 : decode Y101.2.1 10 = .ok (.iconst 0, 1) := by decide +kernel
theorem d101_11 : decode Y101.2.1 11 = .ok (.putfield 23, 3) := by decide +kernel
theorem d101_14 : decode Y101.2.1 14 = .ok (.iconst 0, 1) := by decide +kernel
theorem d101_15 : decode Y101.2.1 15 = .ok (.istore_n 3, 1) := by decide +kernel
theorem d101_16 : decode Y101.2.1 16 = .ok (.iconst 1, 1) := by decide +kernel
theorem d101_17 : decode Y101.2.1 17 = .ok (.istore 4, 2) := by decide +kernel
theorem d101_19 : decode Y101.2.1 19 = .ok (.iload 4, 2) := by decide +kernel
theorem d101_21 : decode Y101.2.1 21 = .ok (.ifCond .eq 137, 3) := by decide +kernel
theorem d101_24 : decode Y101.2.1 24 = .ok (.aload_n 0, 1) := by decide +kernel
theorem d101_25 : decode Y101.2.1 25 = .ok (.getfield 15, 3) := by decide +kernel
theorem d101_28 : decode Y101.2.1 28 = .ok (.bipush 8, 2) := by decide +kernel
theorem d101_30 : decode Y101.2.1 30 = .ok (.if_icmp .ge 128, 3) := by decide +kernel
theorem d101_33 : decode Y101.2.1 33 = .ok (.aload_n 1, 1) := by decide +kernel
theorem d101_34 : decode Y101.2.1 34 = .ok (.iconst 0, 1) := by decide +kernel
theorem d101_35 : decode Y101.2.1 35 = .ok (.aload_n 2, 1) := by decide +kernel
theorem d101_36 : decode Y101.2.1 36 = .ok (.getfield 31, 3) := by decide +kernel
theorem d101_39 : decode Y101.2.1 39 = .ok (.iconst 1, 1) := by decide +kernel
theorem d101_40 : decode Y101.2.1 40 = .ok (.isub, 1) := by decide +kernel
theorem d101_41 : decode Y101.2.1 41 = .ok (.invokevirtual 35, 3) := by decide +kernel
theorem d101_44 : decode Y101.2.1 44 = .ok (.istore 5, 2) := by decide +kernel
theorem d101_46 : decode Y101.2.1 46 = .ok (.aload_n 2, 1) := by decide +kernel
theorem d101_47 : decode Y101.2.1 47 = .ok (.aload_n 0, 1) := by decide +kernel
theorem d101_48 : decode Y101.2.1 48 = .ok (.aload_n 0, 1) := by decide +kernel
theorem d101_49 : decode Y101.2.1 49 = .ok (.getfield 15, 3) := by decide +kernel
theorem d101_52 : decode Y101.2.1 52 = .ok (.iconst 1, 1) := by decide +kernel
theorem d101_53 : decode Y101.2.1 53 = .ok (.isub, 1) := by decide +kernel
theorem d101_54 : decode Y101.2.1 54 = .ok (.invokevirtual 39, 3) := by decide +kernel
theorem d101_57 : decode Y101.2.1 57 = .ok (.iload 5, 2) := by decide +kernel
theorem d101_59 : decode Y101.2.1 59 = .ok (.invokevirtual 43, 3) := by decide +kernel
theorem d101_62 : decode Y101.2.1 62 = .ok (.istore 6, 2) := by decide +kernel
theorem d101_64 : decode Y101.2.1 64 = .ok (.iload_n 3, 1) := by decide +kernel
theorem d101_65 : decode Y101.2.1 65 = .ok (.iload 5, 2) := by decide +kernel
theorem d101_67 : decode Y101.2.1 67 = .ok (.ishr, 1) := by decide +kernel
theorem d101_68 : decode Y101.2.1 68 = .ok (.iconst 1, 1) := by decide +kernel
theorem d101_69 : decode Y101.2.1 69 = .ok (.iand, 1) := by decide +kernel
theorem d101_70 : decode Y101.2.1 70 = .ok (.ifCond .ne 15, 3) := by decide +kernel
theorem d101_73 : decode Y101.2.1 73 = .ok (.aload_n 0, 1) := by decide +kernel
theorem d101_74 : decode Y101.2.1 74 = .ok (.getfield 15, 3) := by decide +kernel
theorem d101_77 : decode Y101.2.1 77 = .ok (.ifCond .le 12, 3) := by decide +kernel
theorem d101_80 : decode Y101.2.1 80 = .ok (.iload 6, 2) := by decide +kernel
theorem d101_82 : decode Y101.2.1 82 = .ok (.ifCond .ne 7, 3) := by decide +kernel
theorem d101_85 : decode Y101.2.1 85 = .ok (.aload_n 1, 1) := by decide +kernel
theorem d101_86 : decode Y101.2.1 86 = .ok (.invokevirtual 46, 3) := by decide +kernel
theorem d101_89 : decode Y101.2.1 89 = .ok (.aload_n 0, 1) := by decide +kernel
theorem d101_90 : decode Y101.2.1 90 = .ok (.getfield 9, 3) := by decide +kernel
theorem d101_93 : decode Y101.2.1 93 = .ok (.aload_n 0, 1) := by decide +kernel
theorem d101_94 : decode Y101.2.1 94 = .ok (.getfield 15, 3) := by decide +kernel
theorem d101_97 : decode Y101.2.1 97 = .ok (.iload 5, 2) := by decide +kernel
theorem d101_99 : decode Y101.2.1 99 = .ok (.invokestatic 49, 3) := by decide +kernel
theorem d101_102 : decode Y101.2.1 102 = .ok (.iload_n 3, 1) := by decide +kernel
theorem d101_103 : decode Y101.2.1 103 = .ok (.iconst 1, 1) := by decide +kernel
theorem d101_104 : decode Y101.2.1 104 = .ok (.iload 5, 2) := by decide +kernel
theorem d101_106 : decode Y101.2.1 106 = .ok (.ishl, 1) := by decide +kernel
theorem d101_107 : decode Y101.2.1 107 = .ok (.ior, 1) := by decide +kernel
theorem d101_108 : decode Y101.2.1 108 = .ok (.istore_n 3, 1) := by decide +kernel
theorem d101_109 : decode Y101.2.1 109 = .ok (.aload_n 0, 1) := by decide +kernel
theorem d101_110 : decode Y101.2.1 110 = .ok (.dup, 1) := by decide +kernel
theorem d101_111 : decode Y101.2.1 111 = .ok (.getfield 23, 3) := by decide +kernel
theorem d101_114 : decode Y101.2.1 114 = .ok (.iload 6, 2) := by decide +kernel
theorem d101_116 : decode Y101.2.1 116 = .ok (.iadd, 1) := by decide +kernel
theorem d101_117 : decode Y101.2.1 117 = .ok (.putfield 23, 3) := by decide +kernel
theorem d101_120 : decode Y101.2.1 120 = .ok (.aload_n 0, 1) := by decide +kernel
theorem d101_121 : decode Y101.2.1 121 = .ok (.dup, 1) := by decide +kernel
theorem d101_122 : decode Y101.2.1 122 = .ok (.getfield 15, 3) := by decide +kernel
theorem d101_125 : decode Y101.2.1 125 = .ok (.iconst 1, 1) := by decide +kernel
theorem d101_126 : decode Y101.2.1 126 = .ok (.iadd, 1) := by decide +kernel
theorem d101_127 : decode Y101.2.1 127 = .ok (.putfield 15, 3) := by decide +kernel
theorem d101_130 : decode Y101.2.1 130 = .ok (.aload_n 0, 1) := by decide +kernel
theorem d101_131 : decode Y101.2.1 131 = .ok (.getfield 15, 3) := by decide +kernel
theorem d101_134 : decode Y101.2.1 134 = .ok (.bipush 8, 2) := by decide +kernel
theorem d101_136 : decode Y101.2.1 136 = .ok (.if_icmp .ge 16, 3) := by decide +kernel
theorem d101_139 : decode Y101.2.1 139 = .ok (.aload_n 1, 1) := by decide +kernel
theorem d101_140 : decode Y101.2.1 140 = .ok (.bipush 45, 2) := by decide +kernel
theorem d101_142 : decode Y101.2.1 142 = .ok (.invokevirtual 53, 3) := by decide +kernel
theorem d101_145 : decode Y101.2.1 145 = .ok (.ifCond .eq 7, 3) := by decide +kernel
theorem d101_148 : decode Y101.2.1 148 = .ok (.iconst 1, 1) := by decide +kernel
theorem d101_149 : decode Y101.2.1 149 = .ok (.goto 4, 3) := by decide +kernel
theorem d101_152 : decode Y101.2.1 152 = .ok (.iconst 0, 1) := by decide +kernel
theorem d101_153 : decode Y101.2.1 153 = .ok (.istore 4, 2) := by decide +kernel
theorem d101_155 : decode Y101.2.1 155 = .ok (.goto (-136), 3) := by decide +kernel
theorem d101_158 : decode Y101.2.1 158 = .ok (.aload_n 0, 1) := by decide +kernel
theorem d101_159 : decode Y101.2.1 159 = .ok (.getfield 15, 3) := by decide +kernel
theorem d101_162 : decode Y101.2.1 162 = .ok (.iconst 2, 1) := by decide +kernel
theorem d101_163 : decode Y101.2.1 163 = .ok (.if_icmp .ge 7, 3) := by decide +kernel
theorem d101_166 : decode Y101.2.1 166 = .ok (.aload_n 1, 1) := by decide +kernel
theorem d101_167 : decode Y101.2.1 167 = .ok (.invokevirtual 57, 3) := by decide +kernel
theorem d101_170 : decode Y101.2.1 170 = .ok (.aload_n 1, 1) := by decide +kernel
theorem d101_171 : decode Y101.2.1 171 = .ok (.invokevirtual 60, 3) := by decide +kernel
theorem d101_174 : decode Y101.2.1 174 = .ok (.return_, 1) := by decide +kernel
noncomputable def L101_19 (d : Nat) (a0 : Nat) (a1 : Nat) (a2 : Nat) (x3 : Int32) (x4 : Int32) (o5 : Option ts_V) (o6 : Option ts_V) (m : lt_m) : Option lt_r := lt_run d Y101 19 [some (.inr (.inr (some a0))), some (.inr (.inr (some a1))), some (.inr (.inr (some a2))), some (.inl x3), some (.inl x4), o5, o6] [] m
noncomputable def L101_89 (d : Nat) (a0 : Nat) (a1 : Nat) (a2 : Nat) (x3 : Int32) (x4 : Int32) (x5 : Int32) (x6 : Int32) (m : lt_m) : Option lt_r := lt_run d Y101 89 [some (.inr (.inr (some a0))), some (.inr (.inr (some a1))), some (.inr (.inr (some a2))), some (.inl x3), some (.inl x4), some (.inl x5), some (.inl x6)] [] m
noncomputable def L101_158 (d : Nat) (a0 : Nat) (a1 : Nat) (a2 : Nat) (x3 : Int32) (x4 : Int32) (o5 : Option ts_V) (o6 : Option ts_V) (m : lt_m) : Option lt_r := lt_run d Y101 158 [some (.inr (.inr (some a0))), some (.inr (.inr (some a1))), some (.inr (.inr (some a2))), some (.inl x3), some (.inl x4), o5, o6] [] m
theorem E101 (d : Nat) (a0 : Nat) (a1 : Nat) (a2 : Nat) (h0 : ts_sh a0 = (0, 7)) (h1 : ts_sh a1 = (0, 6)) (h2 : ts_sh a2 = (0, 5)) (m : lt_m) : lt_ev (d + 1) 101 [.inr (.inr (some a0)), .inr (.inr (some a1)), .inr (.inr (some a2))] m = lt_cV (lt_ev d 31 [.inr (.inr (some a1))] m) (fun m1 => (L101_19 d a0 a1 a2 (0 : Int32) (1 : Int32) none none (lm_i (lm_i m1 a0 1 (0 : Int32)) a0 2 (0 : Int32)))) := by
  refine Eq.trans (lt_enter2 (ls := [some (.inr (.inr (some a0))), some (.inr (.inr (some a1))), some (.inr (.inr (some a2))), none, none, none, none]) hY101 (Nat.le_of_ble_eq_true rfl) (by rfl)) ?_
  refine Eq.trans (li_aload_n d101_0 (by rfl)) ?_
  refine Eq.trans (li_ivV d101_1 ca_7_26 kd_31 kl_31 (by rfl) (by rfl) h1 (Nat.le_of_ble_eq_true rfl) (Nat.le_of_ble_eq_true rfl)) ?_
  refine lt_cV_c (fun m1 => ?_)
  refine Eq.trans (li_aload_n d101_4 (by rfl)) ?_
  refine Eq.trans (li_iconst d101_5 ic_0) ?_
  refine Eq.trans (li_puti d101_6 fa_7_15 h0 rfl rfl) ?_
  refine Eq.trans (li_aload_n d101_9 (by rfl)) ?_
  refine Eq.trans (li_iconst d101_10 ic_0) ?_
  refine Eq.trans (li_puti d101_11 fa_7_23 h0 rfl rfl) ?_
  refine Eq.trans (li_iconst d101_14 ic_0) ?_
  refine Eq.trans (li_istore_n (ls' := [some (.inr (.inr (some a0))), some (.inr (.inr (some a1))), some (.inr (.inr (some a2))), some (.inl (0 : Int32)), none, none, none]) d101_15 (by decide) (by rfl)) ?_
  refine Eq.trans (li_iconst d101_16 ic_1) ?_
  refine Eq.trans (li_istore (ls' := [some (.inr (.inr (some a0))), some (.inr (.inr (some a1))), some (.inr (.inr (some a2))), some (.inl (0 : Int32)), some (.inl (1 : Int32)), none, none]) d101_17 (by decide) (by rfl)) ?_
  rfl
theorem E101_19 (d : Nat) (a0 : Nat) (a1 : Nat) (a2 : Nat) (x3 : Int32) (x4 : Int32) (o5 : Option ts_V) (o6 : Option ts_V) (h0 : ts_sh a0 = (0, 7)) (h1 : ts_sh a1 = (0, 6)) (h2 : ts_sh a2 = (0, 5)) (m : lt_m) : L101_19 d a0 a1 a2 x3 x4 o5 o6 m = if x4 = 0 then (L101_158 d a0 a1 a2 x3 x4 (o5) (o6) m) else (if (8 : Int32) ≤ (m.1 a0 1) then (L101_158 d a0 a1 a2 x3 x4 (o5) (o6) m) else (lt_cI (lt_ev d 37 [.inr (.inr (some a1)), .inl (0 : Int32), .inl ((m.1 a2 6) - (1 : Int32))] m) (fun v1 m1 => (lt_cI (lt_ev d 102 [.inr (.inr (some a0)), .inl ((m1.1 a0 1) - (1 : Int32))] m1) (fun v2 m2 => (lt_cI (lt_ev d 13 [.inr (.inr (some a2)), .inl v2, .inl v1] m2) (fun v3 m3 => (if ¬ ((x3 >>> (v1 &&& 31)) &&& (1 : Int32)) = 0 then (lt_cV (lt_ev d 41 [.inr (.inr (some a1))] m3) (fun m4 => (L101_89 d a0 a1 a2 x3 x4 v1 v3 m4))) else (if (m3.1 a0 1) ≤ 0 then (L101_89 d a0 a1 a2 x3 x4 v1 v3 m3) else (if ¬ v3 = 0 then (L101_89 d a0 a1 a2 x3 x4 v1 v3 m3) else (lt_cV (lt_ev d 41 [.inr (.inr (some a1))] m3) (fun m5 => (L101_89 d a0 a1 a2 x3 x4 v1 v3 m5))))))))))))) := by
  show lt_run d Y101 19 [some (.inr (.inr (some a0))), some (.inr (.inr (some a1))), some (.inr (.inr (some a2))), some (.inl x3), some (.inl x4), o5, o6] [] m = _
  refine Eq.trans (li_iload d101_19 (by rfl)) ?_
  refine Eq.trans (li_if_eq (t := 158) d101_21 (by rfl)) ?_
  refine lt_ite (fun c1 => ?_) (fun c1 => ?_)
  · rfl
  · refine Eq.trans (li_aload_n d101_24 (by rfl)) ?_
    refine Eq.trans (li_geti d101_25 fa_7_15 h0 rfl) ?_
    refine Eq.trans (li_bipush d101_28 bi_8) ?_
    refine Eq.trans (li_icmp_ge (t := 158) d101_30 (by rfl)) ?_
    refine lt_ite (fun c2 => ?_) (fun c2 => ?_)
    · rfl
    · refine Eq.trans (li_aload_n d101_33 (by rfl)) ?_
      refine Eq.trans (li_iconst d101_34 ic_0) ?_
      refine Eq.trans (li_aload_n d101_35 (by rfl)) ?_
      refine Eq.trans (li_geti d101_36 fa_7_31 h2 rfl) ?_
      refine Eq.trans (li_iconst d101_39 ic_1) ?_
      refine Eq.trans (li_isub d101_40) ?_
      refine Eq.trans (li_ivI d101_41 ca_7_35 kd_37 kl_37 (by rfl) (by rfl) h1 (Nat.le_of_ble_eq_true rfl) (Nat.le_of_ble_eq_true rfl)) ?_
      refine lt_cI_c (fun v1 m1 => ?_)
      refine Eq.trans (li_istore (ls' := [some (.inr (.inr (some a0))), some (.inr (.inr (some a1))), some (.inr (.inr (some a2))), some (.inl x3), some (.inl x4), some (.inl v1), o6]) d101_44 (by decide) (by rfl)) ?_
      refine Eq.trans (li_aload_n d101_46 (by rfl)) ?_
      refine Eq.trans (li_aload_n d101_47 (by rfl)) ?_
      refine Eq.trans (li_aload_n d101_48 (by rfl)) ?_
      refine Eq.trans (li_geti d101_49 fa_7_15 h0 rfl) ?_
      refine Eq.trans (li_iconst d101_52 ic_1) ?_
      refine Eq.trans (li_isub d101_53) ?_
      refine Eq.trans (li_ivI d101_54 ca_7_39 kd_102 kl_102 (by rfl) (by rfl) h0 (Nat.le_of_ble_eq_true rfl) (Nat.le_of_ble_eq_true rfl)) ?_
      refine lt_cI_c (fun v2 m2 => ?_)
      refine Eq.trans (li_iload d101_57 (by rfl)) ?_
      refine Eq.trans (li_ivI d101_59 ca_7_43 kd_13 kl_13 (by rfl) (by rfl) h2 (Nat.le_of_ble_eq_true rfl) (Nat.le_of_ble_eq_true rfl)) ?_
      refine lt_cI_c (fun v3 m3 => ?_)
      refine Eq.trans (li_istore (ls' := [some (.inr (.inr (some a0))), some (.inr (.inr (some a1))), some (.inr (.inr (some a2))), some (.inl x3), some (.inl x4), some (.inl v1), some (.inl v3)]) d101_62 (by decide) (by rfl)) ?_
      refine Eq.trans (li_iload_n d101_64 (by rfl)) ?_
      refine Eq.trans (li_iload d101_65 (by rfl)) ?_
      refine Eq.trans (li_ishr d101_67) ?_
      refine Eq.trans (li_iconst d101_68 ic_1) ?_
      refine Eq.trans (li_iand d101_69) ?_
      refine Eq.trans (li_if_ne (t := 85) d101_70 (by rfl)) ?_
      refine lt_ite (fun c3 => ?_) (fun c3 => ?_)
      · refine Eq.trans (li_aload_n d101_85 (by rfl)) ?_
        refine Eq.trans (li_ivV d101_86 ca_7_46 kd_41 kl_41 (by rfl) (by rfl) h1 (Nat.le_of_ble_eq_true rfl) (Nat.le_of_ble_eq_true rfl)) ?_
        refine lt_cV_c (fun m4 => ?_)
        rfl
      · refine Eq.trans (li_aload_n d101_73 (by rfl)) ?_
        refine Eq.trans (li_geti d101_74 fa_7_15 h0 rfl) ?_
        refine Eq.trans (li_if_le (t := 89) d101_77 (by rfl)) ?_
        refine lt_ite (fun c4 => ?_) (fun c4 => ?_)
        · rfl
        · refine Eq.trans (li_iload d101_80 (by rfl)) ?_
          refine Eq.trans (li_if_ne (t := 89) d101_82 (by rfl)) ?_
          refine lt_ite (fun c5 => ?_) (fun c5 => ?_)
          · rfl
          · refine Eq.trans (li_aload_n d101_85 (by rfl)) ?_
            refine Eq.trans (li_ivV d101_86 ca_7_46 kd_41 kl_41 (by rfl) (by rfl) h1 (Nat.le_of_ble_eq_true rfl) (Nat.le_of_ble_eq_true rfl)) ?_
            refine lt_cV_c (fun m5 => ?_)
            rfl
theorem E101_89 (d : Nat) (a0 : Nat) (a1 : Nat) (a2 : Nat) (x3 : Int32) (x4 : Int32) (x5 : Int32) (x6 : Int32) (h0 : ts_sh a0 = (0, 7)) (h1 : ts_sh a1 = (0, 6)) (m : lt_m) : L101_89 d a0 a1 a2 x3 x4 x5 x6 m = lt_cV (lt_ev d 17 [.inr (.inr (some (a0 + 1))), .inl (m.1 a0 1), .inl x5] m) (fun m1 => (if (8 : Int32) ≤ ((lm_i (lm_i m1 a0 2 ((m1.1 a0 2) + x6)) a0 1 (((lm_i m1 a0 2 ((m1.1 a0 2) + x6)).1 a0 1) + (1 : Int32))).1 a0 1) then (L101_19 d a0 a1 a2 (x3 ||| ((1 : Int32) <<< (x5 &&& 31))) (0 : Int32) (some (.inl x5)) (some (.inl x6)) (lm_i (lm_i m1 a0 2 ((m1.1 a0 2) + x6)) a0 1 (((lm_i m1 a0 2 ((m1.1 a0 2) + x6)).1 a0 1) + (1 : Int32)))) else (lt_cI (lt_ev d 43 [.inr (.inr (some a1)), .inl (45 : Int32)] (lm_i (lm_i m1 a0 2 ((m1.1 a0 2) + x6)) a0 1 (((lm_i m1 a0 2 ((m1.1 a0 2) + x6)).1 a0 1) + (1 : Int32)))) (fun v1 m2 => (if v1 = 0 then (L101_19 d a0 a1 a2 (x3 ||| ((1 : Int32) <<< (x5 &&& 31))) (0 : Int32) (some (.inl x5)) (some (.inl x6)) m2) else (L101_19 d a0 a1 a2 (x3 ||| ((1 : Int32) <<< (x5 &&& 31))) (1 : Int32) (some (.inl x5)) (some (.inl x6)) m2)))))) := by
  show lt_run d Y101 89 [some (.inr (.inr (some a0))), some (.inr (.inr (some a1))), some (.inr (.inr (some a2))), some (.inl x3), some (.inl x4), some (.inl x5), some (.inl x6)] [] m = _
  refine Eq.trans (li_aload_n d101_89 (by rfl)) ?_
  refine Eq.trans (li_getr d101_90 fa_7_9 h0 rfl rfl rfl (by decide)) ?_
  refine Eq.trans (li_aload_n d101_93 (by rfl)) ?_
  refine Eq.trans (li_geti d101_94 fa_7_15 h0 rfl) ?_
  refine Eq.trans (li_iload d101_97 (by rfl)) ?_
  refine Eq.trans (li_isV d101_99 bi_7_49 ca_7_49 kd_17 (by rfl) (by rfl) (Nat.le_of_ble_eq_true rfl) (Nat.le_of_ble_eq_true rfl)) ?_
  refine lt_cV_c (fun m1 => ?_)
  refine Eq.trans (li_iload_n d101_102 (by rfl)) ?_
  refine Eq.trans (li_iconst d101_103 ic_1) ?_
  refine Eq.trans (li_iload d101_104 (by rfl)) ?_
  refine Eq.trans (li_ishl d101_106) ?_
  refine Eq.trans (li_ior d101_107) ?_
  refine Eq.trans (li_istore_n (ls' := [some (.inr (.inr (some a0))), some (.inr (.inr (some a1))), some (.inr (.inr (some a2))), some (.inl (x3 ||| ((1 : Int32) <<< (x5 &&& 31)))), some (.inl x4), some (.inl x5), some (.inl x6)]) d101_108 (by decide) (by rfl)) ?_
  refine Eq.trans (li_aload_n d101_109 (by rfl)) ?_
  refine Eq.trans (li_dup d101_110 rfl) ?_
  refine Eq.trans (li_geti d101_111 fa_7_23 h0 rfl) ?_
  refine Eq.trans (li_iload d101_114 (by rfl)) ?_
  refine Eq.trans (li_iadd d101_116) ?_
  refine Eq.trans (li_puti d101_117 fa_7_23 h0 rfl rfl) ?_
  refine Eq.trans (li_aload_n d101_120 (by rfl)) ?_
  refine Eq.trans (li_dup d101_121 rfl) ?_
  refine Eq.trans (li_geti d101_122 fa_7_15 h0 rfl) ?_
  refine Eq.trans (li_iconst d101_125 ic_1) ?_
  refine Eq.trans (li_iadd d101_126) ?_
  refine Eq.trans (li_puti d101_127 fa_7_15 h0 rfl rfl) ?_
  refine Eq.trans (li_aload_n d101_130 (by rfl)) ?_
  refine Eq.trans (li_geti d101_131 fa_7_15 h0 rfl) ?_
  refine Eq.trans (li_bipush d101_134 bi_8) ?_
  refine Eq.trans (li_icmp_ge (t := 152) d101_136 (by rfl)) ?_
  refine lt_ite (fun c1 => ?_) (fun c1 => ?_)
  · refine Eq.trans (li_iconst d101_152 ic_0) ?_
    refine Eq.trans (li_istore (ls' := [some (.inr (.inr (some a0))), some (.inr (.inr (some a1))), some (.inr (.inr (some a2))), some (.inl (x3 ||| ((1 : Int32) <<< (x5 &&& 31)))), some (.inl (0 : Int32)), some (.inl x5), some (.inl x6)]) d101_153 (by decide) (by rfl)) ?_
    refine Eq.trans (li_goto (t := 19) d101_155 (by rfl)) ?_
    rfl
  · refine Eq.trans (li_aload_n d101_139 (by rfl)) ?_
    refine Eq.trans (li_bipush d101_140 bi_45) ?_
    refine Eq.trans (li_ivI d101_142 ca_7_53 kd_43 kl_43 (by rfl) (by rfl) h1 (Nat.le_of_ble_eq_true rfl) (Nat.le_of_ble_eq_true rfl)) ?_
    refine lt_cI_c (fun v1 m2 => ?_)
    refine Eq.trans (li_if_eq (t := 152) d101_145 (by rfl)) ?_
    refine lt_ite (fun c2 => ?_) (fun c2 => ?_)
    · refine Eq.trans (li_iconst d101_152 ic_0) ?_
      refine Eq.trans (li_istore (ls' := [some (.inr (.inr (some a0))), some (.inr (.inr (some a1))), some (.inr (.inr (some a2))), some (.inl (x3 ||| ((1 : Int32) <<< (x5 &&& 31)))), some (.inl (0 : Int32)), some (.inl x5), some (.inl x6)]) d101_153 (by decide) (by rfl)) ?_
      refine Eq.trans (li_goto (t := 19) d101_155 (by rfl)) ?_
      rfl
    · refine Eq.trans (li_iconst d101_148 ic_1) ?_
      refine Eq.trans (li_goto (t := 153) d101_149 (by rfl)) ?_
      refine Eq.trans (li_istore (ls' := [some (.inr (.inr (some a0))), some (.inr (.inr (some a1))), some (.inr (.inr (some a2))), some (.inl (x3 ||| ((1 : Int32) <<< (x5 &&& 31)))), some (.inl (1 : Int32)), some (.inl x5), some (.inl x6)]) d101_153 (by decide) (by rfl)) ?_
      refine Eq.trans (li_goto (t := 19) d101_155 (by rfl)) ?_
      rfl
theorem E101_158 (d : Nat) (a0 : Nat) (a1 : Nat) (a2 : Nat) (x3 : Int32) (x4 : Int32) (o5 : Option ts_V) (o6 : Option ts_V) (h0 : ts_sh a0 = (0, 7)) (h1 : ts_sh a1 = (0, 6)) (m : lt_m) : L101_158 d a0 a1 a2 x3 x4 o5 o6 m = if (2 : Int32) ≤ (m.1 a0 1) then (lt_cV (lt_ev d 51 [.inr (.inr (some a1))] m) (fun m1 => (some (none, m1)))) else (lt_cV (lt_ev d 39 [.inr (.inr (some a1))] m) (fun m2 => (lt_cV (lt_ev d 51 [.inr (.inr (some a1))] m2) (fun m3 => (some (none, m3)))))) := by
  show lt_run d Y101 158 [some (.inr (.inr (some a0))), some (.inr (.inr (some a1))), some (.inr (.inr (some a2))), some (.inl x3), some (.inl x4), o5, o6] [] m = _
  refine Eq.trans (li_aload_n d101_158 (by rfl)) ?_
  refine Eq.trans (li_geti d101_159 fa_7_15 h0 rfl) ?_
  refine Eq.trans (li_iconst d101_162 ic_2) ?_
  refine Eq.trans (li_icmp_ge (t := 170) d101_163 (by rfl)) ?_
  refine lt_ite (fun c1 => ?_) (fun c1 => ?_)
  · refine Eq.trans (li_aload_n d101_170 (by rfl)) ?_
    refine Eq.trans (li_ivV d101_171 ca_7_60 kd_51 kl_51 (by rfl) (by rfl) h1 (Nat.le_of_ble_eq_true rfl) (Nat.le_of_ble_eq_true rfl)) ?_
    refine lt_cV_c (fun m1 => ?_)
    exact li_vret d101_174 rfl
  · refine Eq.trans (li_aload_n d101_166 (by rfl)) ?_
    refine Eq.trans (li_ivV d101_167 ca_7_57 kd_39 kl_39 (by rfl) (by rfl) h1 (Nat.le_of_ble_eq_true rfl) (Nat.le_of_ble_eq_true rfl)) ?_
    refine lt_cV_c (fun m2 => ?_)
    refine Eq.trans (li_aload_n d101_170 (by rfl)) ?_
    refine Eq.trans (li_ivV d101_171 ca_7_60 kd_51 kl_51 (by rfl) (by rfl) h1 (Nat.le_of_ble_eq_true rfl) (Nat.le_of_ble_eq_true rfl)) ?_
    refine lt_cV_c (fun m3 => ?_)
    exact li_vret d101_174 rfl
/-! TransitSeals$Route.officeAt(I)I -/
theorem d102_0 : decode Y102.2.1 0 = .ok (.iload_n 1, 1) := by decide +kernel
theorem d102_1 : decode Y102.2.1 1 = .ok (.ifCond .lt 22, 3) := by decide +kernel
theorem d102_4 : decode Y102.2.1 4 = .ok (.iload_n 1, 1) := by decide +kernel
theorem d102_5 : decode Y102.2.1 5 = .ok (.aload_n 0, 1) := by decide +kernel
theorem d102_6 : decode Y102.2.1 6 = .ok (.getfield 15, 3) := by decide +kernel
theorem d102_9 : decode Y102.2.1 9 = .ok (.if_icmp .ge 14, 3) := by decide +kernel
theorem d102_12 : decode Y102.2.1 12 = .ok (.aload_n 0, 1) := by decide +kernel
theorem d102_13 : decode Y102.2.1 13 = .ok (.getfield 9, 3) := by decide +kernel
theorem d102_16 : decode Y102.2.1 16 = .ok (.iload_n 1, 1) := by decide +kernel
theorem d102_17 : decode Y102.2.1 17 = .ok (.invokestatic 19, 3) := by decide +kernel
theorem d102_20 : decode Y102.2.1 20 = .ok (.goto 4, 3) := by decide +kernel
theorem d102_23 : decode Y102.2.1 23 = .ok (.iconst (-1), 1) := by decide +kernel
theorem d102_24 : decode Y102.2.1 24 = .ok (.ireturn, 1) := by decide +kernel
theorem E102 (d : Nat) (a0 : Nat) (x1 : Int32) (h0 : ts_sh a0 = (0, 7)) (m : lt_m) : lt_ev (d + 1) 102 [.inr (.inr (some a0)), .inl x1] m = if x1 < 0 then (some (some (.inl (-1 : Int32)), m)) else (if (m.1 a0 1) ≤ x1 then (some (some (.inl (-1 : Int32)), m)) else (lt_cI (lt_ev d 16 [.inr (.inr (some (a0 + 1))), .inl x1] m) (fun v1 m1 => (some (some (.inl v1), m1))))) := by
  refine Eq.trans (lt_enter2 (ls := [some (.inr (.inr (some a0))), some (.inl x1)]) hY102 (Nat.le_of_ble_eq_true rfl) (by rfl)) ?_
  refine Eq.trans (li_iload_n d102_0 (by rfl)) ?_
  refine Eq.trans (li_if_lt (t := 23) d102_1 (by rfl)) ?_
  refine lt_ite (fun c1 => ?_) (fun c1 => ?_)
  · refine Eq.trans (li_iconst d102_23 ic_n1) ?_
    exact li_iret d102_24 rfl
  · refine Eq.trans (li_iload_n d102_4 (by rfl)) ?_
    refine Eq.trans (li_aload_n d102_5 (by rfl)) ?_
    refine Eq.trans (li_geti d102_6 fa_7_15 h0 rfl) ?_
    refine Eq.trans (li_icmp_ge (t := 23) d102_9 (by rfl)) ?_
    refine lt_ite (fun c2 => ?_) (fun c2 => ?_)
    · refine Eq.trans (li_iconst d102_23 ic_n1) ?_
      exact li_iret d102_24 rfl
    · refine Eq.trans (li_aload_n d102_12 (by rfl)) ?_
      refine Eq.trans (li_getr d102_13 fa_7_9 h0 rfl rfl rfl (by decide)) ?_
      refine Eq.trans (li_iload_n d102_16 (by rfl)) ?_
      refine Eq.trans (li_isI d102_17 bi_7_19 ca_7_19 kd_16 (by rfl) (by rfl) (Nat.le_of_ble_eq_true rfl) (Nat.le_of_ble_eq_true rfl)) ?_
      refine lt_cI_c (fun v1 m1 => ?_)
      refine Eq.trans (li_goto (t := 24) d102_20 (by rfl)) ?_
      exact li_iret d102_24 rfl
/-! TransitSeals$Net.hasGoods(I)Z -/
theorem d103_0 : decode Y103.2.1 0 = .ok (.iload_n 1, 1) := by decide +kernel
theorem d103_1 : decode Y103.2.1 1 = .ok (.ifCond .lt 15, 3) := by decide +kernel
theorem d103_4 : decode Y103.2.1 4 = .ok (.iload_n 1, 1) := by decide +kernel
theorem d103_5 : decode Y103.2.1 5 = .ok (.aload_n 0, 1) := by decide +kernel
theorem d103_6 : decode Y103.2.1 6 = .ok (.getfield 44, 3) := by decide +kernel
theorem d103_9 : decode Y103.2.1 9 = .ok (.if_icmp .ge 7, 3) := by decide +kernel
theorem d103_12 : decode Y103.2.1 12 = .ok (.iconst 1, 1) := by decide +kernel
theorem d103_13 : decode Y103.2.1 13 = .ok (.goto 4, 3) := by decide +kernel
theorem d103_16 : decode Y103.2.1 16 = .ok (.iconst 0, 1) := by decide +kernel
theorem d103_17 : decode Y103.2.1 17 = .ok (.ireturn, 1) := by decide +kernel
theorem E103 (d : Nat) (a0 : Nat) (x1 : Int32) (h0 : ts_sh a0 = (0, 5)) (m : lt_m) : lt_ev (d + 1) 103 [.inr (.inr (some a0)), .inl x1] m = if x1 < 0 then (some (some (.inl (0 : Int32)), m)) else (if (m.1 a0 8) ≤ x1 then (some (some (.inl (0 : Int32)), m)) else (some (some (.inl (1 : Int32)), m))) := by
  refine Eq.trans (lt_enter2 (ls := [some (.inr (.inr (some a0))), some (.inl x1)]) hY103 (Nat.le_of_ble_eq_true rfl) (by rfl)) ?_
  refine Eq.trans (li_iload_n d103_0 (by rfl)) ?_
  refine Eq.trans (li_if_lt (t := 16) d103_1 (by rfl)) ?_
  refine lt_ite (fun c1 => ?_) (fun c1 => ?_)
  · refine Eq.trans (li_iconst d103_16 ic_0) ?_
    exact li_zret d103_17 rfl (by decide)
  · refine Eq.trans (li_iload_n d103_4 (by rfl)) ?_
    refine Eq.trans (li_aload_n d103_5 (by rfl)) ?_
    refine Eq.trans (li_geti d103_6 fa_5_44 h0 rfl) ?_
    refine Eq.trans (li_icmp_ge (t := 16) d103_9 (by rfl)) ?_
    refine lt_ite (fun c2 => ?_) (fun c2 => ?_)
    · refine Eq.trans (li_iconst d103_16 ic_0) ?_
      exact li_zret d103_17 rfl (by decide)
    · refine Eq.trans (li_iconst d103_12 ic_1) ?_
      refine Eq.trans (li_goto (t := 17) d103_13 (by rfl)) ?_
      exact li_zret d103_17 rfl (by decide)
/-! TransitSeals$Ledger.nextToStart()LTransitSeals$Movement; -/
theorem d104_0 : decode Y104.2.1 0 = .ok (.aload_n 0, 1) := by decide +kernel
theorem d104_1 : decode Y104.2.1 1 = .ok (.aload_n 0, 1) := by decide +kernel
theorem d104_2 : decode Y104.2.1 2 = .ok (.getfield 41, 3) := by decide +kernel
theorem d104_5 : decode Y104.2.1 5 = .ok (.invokevirtual 114, 3) := by decide +kernel
theorem d104_8 : decode Y104.2.1 8 = .ok (.areturn, 1) := by decide +kernel
theorem E104 (d : Nat) (a0 : Nat) (h0 : ts_sh a0 = (0, 2)) (m : lt_m) : lt_ev (d + 1) 104 [.inr (.inr (some a0))] m = lt_cR (lt_ev d 105 [.inr (.inr (some a0)), .inl (m.1 a0 6)] m) (fun v1 m1 => (some (some (.inr (.inr v1)), m1))) := by
  refine Eq.trans (lt_enter2 (ls := [some (.inr (.inr (some a0)))]) hY104 (Nat.le_of_ble_eq_true rfl) (by rfl)) ?_
  refine Eq.trans (li_aload_n d104_0 (by rfl)) ?_
  refine Eq.trans (li_aload_n d104_1 (by rfl)) ?_
  refine Eq.trans (li_geti d104_2 fa_2_41 h0 rfl) ?_
  refine Eq.trans (li_ivR d104_5 ca_2_114 kd_105 kl_105 (by rfl) (by rfl) h0 (Nat.le_of_ble_eq_true rfl) (Nat.le_of_ble_eq_true rfl)) ?_
  refine lt_cR_c (fun v1 m1 => ?_)
  exact li_aret d104_8 rfl
/-! TransitSeals$Ledger.movementAt(I)LTransitSeals$Movement; -/
theorem d105_0 : decode Y105.2.1 0 = .ok (.iload_n 1, 1) := by decide +kernel
theorem d105_1 : decode Y105.2.1 1 = .ok (.ifCond .lt 21, 3) := by decide +kernel
theorem d105_4 : decode Y105.2.1 4 = .ok (.iload_n 1, 1) := by decide +kernel
theorem d105_5 : decode Y105.2.1 5 = .ok (.aload_n 0, 1) := by decide +kernel
theorem d105_6 : decode Y105.2.1 6 = .ok (.getfield 20, 3) := by decide +kernel
theorem d105_9 : decode Y105.2.1 9 = .ok (.arraylength, 1) := by decide +kernel
theorem d105_10 : decode Y105.2.1 10 = .ok (.if_icmp .ge 12, 3) := by decide +kernel
theorem d105_13 : decode Y105.2.1 13 = .ok (.aload_n 0, 1) := by decide +kernel
theorem d105_14 : decode Y105.2.1 14 = .ok (.getfield 20, 3) := by decide +kernel
theorem d105_17 : decode Y105.2.1 17 = .ok (.iload_n 1, 1) := by decide +kernel
theorem d105_18 : decode Y105.2.1 18 = .ok (.aaload, 1) := by decide +kernel
theorem d105_19 : decode Y105.2.1 19 = .ok (.goto 4, 3) := by decide +kernel
theorem d105_22 : decode Y105.2.1 22 = .ok (.aconst_null, 1) := by decide +kernel
theorem d105_23 : decode Y105.2.1 23 = .ok (.areturn, 1) := by decide +kernel
theorem E105 (d : Nat) (a0 : Nat) (x1 : Int32) (h0 : ts_sh a0 = (0, 2)) (m : lt_m) : lt_ev (d + 1) 105 [.inr (.inr (some a0)), .inl x1] m = if x1 < 0 then (some (some (.inr (.inr none)), m)) else (if (20 : Int32) ≤ x1 then (some (some (.inr (.inr none)), m)) else (lt_gd (0 ≤ x1 ∧ (x1).toNatClampNeg < 20) (some (some (.inr (.inr (some ((a0 + 3) + 5 + 3 * (x1).toNatClampNeg)))), m)))) := by
  refine Eq.trans (lt_enter2 (ls := [some (.inr (.inr (some a0))), some (.inl x1)]) hY105 (Nat.le_of_ble_eq_true rfl) (by rfl)) ?_
  refine Eq.trans (li_iload_n d105_0 (by rfl)) ?_
  refine Eq.trans (li_if_lt (t := 22) d105_1 (by rfl)) ?_
  refine lt_ite (fun c1 => ?_) (fun c1 => ?_)
  · refine Eq.trans (li_null d105_22) ?_
    exact li_aret d105_23 rfl
  · refine Eq.trans (li_iload_n d105_4 (by rfl)) ?_
    refine Eq.trans (li_aload_n d105_5 (by rfl)) ?_
    refine Eq.trans (li_getr d105_6 fa_2_20 h0 rfl rfl rfl (by decide)) ?_
    refine Eq.trans (li_alen d105_9 (sf_of h0 2 (by decide) (by decide)) (by decide) (by rfl)) ?_
    refine Eq.trans (li_icmp_ge (t := 22) d105_10 (by rfl)) ?_
    refine lt_ite (fun c2 => ?_) (fun c2 => ?_)
    · refine Eq.trans (li_null d105_22) ?_
      exact li_aret d105_23 rfl
    · refine Eq.trans (li_aload_n d105_13 (by rfl)) ?_
      refine Eq.trans (li_getr d105_14 fa_2_20 h0 rfl rfl rfl (by decide)) ?_
      refine Eq.trans (li_iload_n d105_17 (by rfl)) ?_
      refine Eq.trans (li_aald4 d105_18 (sf_of h0 2 (by decide) (by decide))) ?_
      refine lt_gd_c (fun g1 => ?_)
      refine Eq.trans (li_goto (t := 23) d105_19 (by rfl)) ?_
      exact li_aret d105_23 rfl
/-! TransitSeals.share(II)I -/
theorem d106_0 : decode Y106.2.1 0 = .ok (.iload_n 1, 1) := by decide +kernel
theorem d106_1 : decode Y106.2.1 1 = .ok (.invokestatic 335, 3) := by decide +kernel
theorem d106_4 : decode Y106.2.1 4 = .ok (.istore_n 2, 1) := by decide +kernel
theorem d106_5 : decode Y106.2.1 5 = .ok (.iload_n 2, 1) := by decide +kernel
theorem d106_6 : decode Y106.2.1 6 = .ok (.ifCond .ne 7, 3) := by decide +kernel
theorem d106_9 : decode Y106.2.1 9 = .ok (.iconst 0, 1) := by decide +kernel
theorem d106_10 : decode Y106.2.1 10 = .ok (.goto 10, 3) := by decide +kernel
theorem d106_13 : decode Y106.2.1 13 = .ok (.iload_n 0, 1) := by decide +kernel
theorem d106_14 : decode Y106.2.1 14 = .ok (.iload_n 2, 1) := by decide +kernel
theorem d106_15 : decode Y106.2.1 15 = .ok (.iadd, 1) := by decide +kernel
theorem d106_16 : decode Y106.2.1 16 = .ok (.iconst 1, 1) := by decide +kernel
theorem d106_17 : decode Y106.2.1 17 = .ok (.isub, 1) := by decide +kernel
theorem d106_18 : decode Y106.2.1 18 = .ok (.iload_n 2, 1) := by decide +kernel
theorem d106_19 : decode Y106.2.1 19 = .ok (.idiv, 1) := by decide +kernel
theorem d106_20 : decode Y106.2.1 20 = .ok (.ireturn, 1) := by decide +kernel
theorem E106 (d : Nat) (x0 : Int32) (x1 : Int32)  (m : lt_m) : lt_ev (d + 1) 106 [.inl x0, .inl x1] m = lt_cI (lt_ev d 107 [.inl x1] m) (fun v1 m1 => (if ¬ v1 = 0 then (lt_gd (¬ v1 = 0) (some (some (.inl (((x0 + v1) - (1 : Int32)) / v1)), m1))) else (some (some (.inl (0 : Int32)), m1)))) := by
  refine Eq.trans (lt_enter2 (ls := [some (.inl x0), some (.inl x1), none]) hY106 (Nat.le_of_ble_eq_true rfl) (by rfl)) ?_
  refine Eq.trans (li_iload_n d106_0 (by rfl)) ?_
  refine Eq.trans (li_isI d106_1 bi_11_335 ca_11_335 kd_107 (by rfl) (by rfl) (Nat.le_of_ble_eq_true rfl) (Nat.le_of_ble_eq_true rfl)) ?_
  refine lt_cI_c (fun v1 m1 => ?_)
  refine Eq.trans (li_istore_n (ls' := [some (.inl x0), some (.inl x1), some (.inl v1)]) d106_4 (by decide) (by rfl)) ?_
  refine Eq.trans (li_iload_n d106_5 (by rfl)) ?_
  refine Eq.trans (li_if_ne (t := 13) d106_6 (by rfl)) ?_
  refine lt_ite (fun c1 => ?_) (fun c1 => ?_)
  · refine Eq.trans (li_iload_n d106_13 (by rfl)) ?_
    refine Eq.trans (li_iload_n d106_14 (by rfl)) ?_
    refine Eq.trans (li_iadd d106_15) ?_
    refine Eq.trans (li_iconst d106_16 ic_1) ?_
    refine Eq.trans (li_isub d106_17) ?_
    refine Eq.trans (li_iload_n d106_18 (by rfl)) ?_
    refine Eq.trans (li_idiv d106_19) ?_
    refine lt_gd_c (fun g1 => ?_)
    exact li_iret d106_20 rfl
  · refine Eq.trans (li_iconst d106_9 ic_0) ?_
    refine Eq.trans (li_goto (t := 20) d106_10 (by rfl)) ?_
    exact li_iret d106_20 rfl
/-! TransitSeals.partsOf(I)I -/
theorem d107_0 : decode Y107.2.1 0 = .ok (.iload_n 0, 1) := by decide +kernel
theorem d107_1 : decode Y107.2.1 1 = .ok (.tableswitch 34 0 2 #[27, 29, 31], 27) := by decide +kernel
theorem d107_28 : decode Y107.2.1 28 = .ok (.iconst 1, 1) := by decide +kernel
theorem d107_29 : decode Y107.2.1 29 = .ok (.ireturn, 1) := by decide +kernel
theorem d107_30 : decode Y107.2.1 30 = .ok (.iconst 2, 1) := by decide +kernel
theorem d107_31 : decode Y107.2.1 31 = .ok (.ireturn, 1) := by decide +kernel
theorem d107_32 : decode Y107.2.1 32 = .ok (.bipush 10, 2) := by decide +kernel
theorem d107_34 : decode Y107.2.1 34 = .ok (.ireturn, 1) := by decide +kernel
theorem d107_35 : decode Y107.2.1 35 = .ok (.iconst 0, 1) := by decide +kernel
theorem d107_36 : decode Y107.2.1 36 = .ok (.ireturn, 1) := by decide +kernel
theorem E107 (d : Nat) (x0 : Int32)  (m : lt_m) : lt_ev (d + 1) 107 [.inl x0] m = lt_sw x0 [(some (some (.inl (1 : Int32)), m)), (some (some (.inl (2 : Int32)), m)), (some (some (.inl (10 : Int32)), m))] (some (some (.inl (0 : Int32)), m)) := by
  refine Eq.trans (lt_enter2 (ls := [some (.inl x0)]) hY107 (Nat.le_of_ble_eq_true rfl) (by rfl)) ?_
  refine Eq.trans (li_iload_n d107_0 (by rfl)) ?_
  refine Eq.trans (li_tsw (n := 2) (td := 35) (ts := [28, 30, 32]) d107_1 (by decide) (by decide) (by rfl)) ?_
  refine lt_sw_c ?_ ?_
  · simp only [List.map_cons, List.map_nil]
    refine lt_l2 ?_ (lt_l2 ?_ (lt_l2 ?_ (rfl)))
    · refine Eq.trans (li_iconst d107_28 ic_1) ?_
      exact li_iret d107_29 rfl
    · refine Eq.trans (li_iconst d107_30 ic_2) ?_
      exact li_iret d107_31 rfl
    · refine Eq.trans (li_bipush d107_32 bi_10) ?_
      exact li_iret d107_34 rfl
  · refine Eq.trans (li_iconst d107_35 ic_0) ?_
    exact li_iret d107_36 rfl
/-! TransitSeals$Movement.load(IIIII)V -/
theorem d108_0 : decode Y108.2.1 0 = .ok (.aload_n 0, 1) := by decide +kernel
theorem d108_1 : decode Y108.2.1 1 = .ok (.iload_n 1, 1) := by decide +kernel
theorem d108_2 : decode Y108.2.1 2 = .ok (.putfield 25, 3) := by decide +kernel
theorem d108_5 : decode Y108.2.1 5 = .ok (.aload_n 0, 1) := by decide +kernel
theorem d108_6 : decode Y108.2.1 6 = .ok (.iload_n 2, 1) := by decide +kernel
theorem d108_7 : decode Y108.2.1 7 = .ok (.putfield 52, 3) := by decide +kernel
theorem d108_10 : decode Y108.2.1 10 = .ok (.aload_n 0, 1) := by decide +kernel
theorem d108_11 : decode Y108.2.1 11 = .ok (.iload_n 3, 1) := by decide +kernel
theorem d108_12 : decode Y108.2.1 12 = .ok (.putfield 55, 3) := by decide +kernel
theorem d108_15 : decode Y108.2.1 15 = .ok (.aload_n 0, 1) := by decide +kernel
theorem d108_16 : decode Y108.2.1 16 = .ok (.iload 4, 2) := by decide +kernel
theorem d108_18 : decode Y108.2.1 18 = .ok (.putfield 58, 3) := by decide +kernel
theorem d108_21 : decode Y108.2.1 21 = .ok (.aload_n 0, 1) := by decide +kernel
theorem d108_22 : decode Y108.2.1 22 = .ok (.iload 5, 2) := by decide +kernel
theorem d108_24 : decode Y108.2.1 24 = .ok (.putfield 61, 3) := by decide +kernel
theorem d108_27 : decode Y108.2.1 27 = .ok (.return_, 1) := by decide +kernel
theorem E108 (d : Nat) (a0 : Nat) (x1 : Int32) (x2 : Int32) (x3 : Int32) (x4 : Int32) (x5 : Int32) (h0 : ts_sh a0 = (0, 4)) (m : lt_m) : lt_ev (d + 1) 108 [.inr (.inr (some a0)), .inl x1, .inl x2, .inl x3, .inl x4, .inl x5] m = some (none, (lm_i (lm_i (lm_i (lm_i (lm_i m a0 1 x1) a0 2 x2) a0 3 x3) a0 4 x4) a0 5 x5)) := by
  refine Eq.trans (lt_enter2 (ls := [some (.inr (.inr (some a0))), some (.inl x1), some (.inl x2), some (.inl x3), some (.inl x4), some (.inl x5)]) hY108 (Nat.le_of_ble_eq_true rfl) (by rfl)) ?_
  refine Eq.trans (li_aload_n d108_0 (by rfl)) ?_
  refine Eq.trans (li_iload_n d108_1 (by rfl)) ?_
  refine Eq.trans (li_puti d108_2 fa_4_25 h0 rfl rfl) ?_
  refine Eq.trans (li_aload_n d108_5 (by rfl)) ?_
  refine Eq.trans (li_iload_n d108_6 (by rfl)) ?_
  refine Eq.trans (li_puti d108_7 fa_4_52 h0 rfl rfl) ?_
  refine Eq.trans (li_aload_n d108_10 (by rfl)) ?_
  refine Eq.trans (li_iload_n d108_11 (by rfl)) ?_
  refine Eq.trans (li_puti d108_12 fa_4_55 h0 rfl rfl) ?_
  refine Eq.trans (li_aload_n d108_15 (by rfl)) ?_
  refine Eq.trans (li_iload d108_16 (by rfl)) ?_
  refine Eq.trans (li_puti d108_18 fa_4_58 h0 rfl rfl) ?_
  refine Eq.trans (li_aload_n d108_21 (by rfl)) ?_
  refine Eq.trans (li_iload d108_22 (by rfl)) ?_
  refine Eq.trans (li_puti d108_24 fa_4_61 h0 rfl rfl) ?_
  exact li_vret d108_27 rfl
/-! TransitSeals$Movement.start(LTransitSeals$Route;I)V -/
theorem d109_0 : decode Y109.2.1 0 = .ok (.aload_n 0, 1) := by decide +kernel
theorem d109_1 : decode Y109.2.1 1 = .ok (.iconst 0, 1) := by decide +kernel
theorem d109_2 : decode Y109.2.1 2 = .ok (.putfield 9, 3) := by decide +kernel
theorem d109_5 : decode Y109.2.1 5 = .ok (.aload_n 0, 1) := by decide +kernel
theorem d109_6 : decode Y109.2.1 6 = .ok (.aload_n 1, 1) := by decide +kernel
theorem d109_7 : decode Y109.2.1 7 = .ok (.getfield 64, 3) := by decide +kernel
theorem d109_10 : decode Y109.2.1 10 = .ok (.putfield 28, 3) := by decide +kernel
theorem d109_13 : decode Y109.2.1 13 = .ok (.iconst 0, 1) := by decide +kernel
theorem d109_14 : decode Y109.2.1 14 = .ok (.istore_n 3, 1) := by decide +kernel
theorem d109_15 : decode Y109.2.1 15 = .ok (.iload_n 3, 1) := by decide +kernel
theorem d109_16 : decode Y109.2.1 16 = .ok (.aload_n 0, 1) := by decide +kernel
theorem d109_17 : decode Y109.2.1 17 = .ok (.getfield 28, 3) := by decide +kernel
theorem d109_20 : decode Y109.2.1 20 = .ok (.if_icmp .ge 22, 3) := by decide +kernel
theorem d109_23 : decode Y109.2.1 23 = .ok (.aload_n 0, 1) := by decide +kernel
theorem d109_24 : decode Y109.2.1 24 = .ok (.getfield 15, 3) := by decide +kernel
theorem d109_27 : decode Y109.2.1 27 = .ok (.iload_n 3, 1) := by decide +kernel
theorem d109_28 : decode Y109.2.1 28 = .ok (.aload_n 1, 1) := by decide +kernel
theorem d109_29 : decode Y109.2.1 29 = .ok (.iload_n 3, 1) := by decide +kernel
theorem d109_30 : decode Y109.2.1 30 = .ok (.invokevirtual 67, 3) := by decide +kernel
theorem d109_33 : decode Y109.2.1 33 = .ok (.invokestatic 68, 3) := by decide +kernel
theorem d109_36 : decode Y109.2.1 36 = .ok (.iinc 3 1, 3) := by decide +kernel
theorem d109_39 : decode Y109.2.1 39 = .ok (.goto (-24), 3) := by decide +kernel
theorem d109_42 : decode Y109.2.1 42 = .ok (.aload_n 0, 1) := by decide +kernel
theorem d109_43 : decode Y109.2.1 43 = .ok (.aload_n 1, 1) := by decide +kernel
theorem d109_44 : decode Y109.2.1 44 = .ok (.iload_n 2, 1) := by decide +kernel
theorem d109_45 : decode Y109.2.1 45 = .ok (.invokevirtual 72, 3) := by decide +kernel
theorem d109_48 : decode Y109.2.1 48 = .ok (.putfield 48, 3) := by decide +kernel
theorem d109_51 : decode Y109.2.1 51 = .ok (.aload_n 0, 1) := by decide +kernel
theorem d109_52 : decode Y109.2.1 52 = .ok (.iconst 0, 1) := by decide +kernel
theorem d109_53 : decode Y109.2.1 53 = .ok (.putfield 75, 3) := by decide +kernel
theorem d109_56 : decode Y109.2.1 56 = .ok (.aload_n 0, 1) := by decide +kernel
theorem d109_57 : decode Y109.2.1 57 = .ok (.iconst 0, 1) := by decide +kernel
theorem d109_58 : decode Y109.2.1 58 = .ok (.putfield 78, 3) := by decide +kernel
theorem d109_61 : decode Y109.2.1 61 = .ok (.aload_n 0, 1) := by decide +kernel
theorem d109_62 : decode Y109.2.1 62 = .ok (.getfield 19, 3) := by decide +kernel
theorem d109_65 : decode Y109.2.1 65 = .ok (.iconst 0, 1) := by decide +kernel
theorem d109_66 : decode Y109.2.1 66 = .ok (.iload_n 2, 1) := by decide +kernel
theorem d109_67 : decode Y109.2.1 67 = .ok (.invokestatic 68, 3) := by decide +kernel
theorem d109_70 : decode Y109.2.1 70 = .ok (.aload_n 0, 1) := by decide +kernel
theorem d109_71 : decode Y109.2.1 71 = .ok (.iconst 1, 1) := by decide +kernel
theorem d109_72 : decode Y109.2.1 72 = .ok (.putfield 35, 3) := by decide +kernel
theorem d109_75 : decode Y109.2.1 75 = .ok (.return_, 1) := by decide +kernel
noncomputable def L109_15 (d : Nat) (a0 : Nat) (a1 : Nat) (x2 : Int32) (x3 : Int32) (m : lt_m) : Option lt_r := lt_run d Y109 15 [some (.inr (.inr (some a0))), some (.inr (.inr (some a1))), some (.inl x2), some (.inl x3)] [] m
theorem E109 (d : Nat) (a0 : Nat) (a1 : Nat) (x2 : Int32) (h0 : ts_sh a0 = (0, 4)) (h1 : ts_sh a1 = (0, 7)) (m : lt_m) : lt_ev (d + 1) 109 [.inr (.inr (some a0)), .inr (.inr (some a1)), .inl x2] m = L109_15 d a0 a1 x2 (0 : Int32) (lm_i (lm_i m a0 7 (0 : Int32)) a0 8 ((lm_i m a0 7 (0 : Int32)).1 a1 1)) := by
  refine Eq.trans (lt_enter2 (ls := [some (.inr (.inr (some a0))), some (.inr (.inr (some a1))), some (.inl x2), none]) hY109 (Nat.le_of_ble_eq_true rfl) (by rfl)) ?_
  refine Eq.trans (li_aload_n d109_0 (by rfl)) ?_
  refine Eq.trans (li_iconst d109_1 ic_0) ?_
  refine Eq.trans (li_puti d109_2 fa_4_9 h0 rfl rfl) ?_
  refine Eq.trans (li_aload_n d109_5 (by rfl)) ?_
  refine Eq.trans (li_aload_n d109_6 (by rfl)) ?_
  refine Eq.trans (li_geti d109_7 fa_4_64 h1 rfl) ?_
  refine Eq.trans (li_puti d109_10 fa_4_28 h0 rfl rfl) ?_
  refine Eq.trans (li_iconst d109_13 ic_0) ?_
  refine Eq.trans (li_istore_n (ls' := [some (.inr (.inr (some a0))), some (.inr (.inr (some a1))), some (.inl x2), some (.inl (0 : Int32))]) d109_14 (by decide) (by rfl)) ?_
  rfl
theorem E109_15 (d : Nat) (a0 : Nat) (a1 : Nat) (x2 : Int32) (x3 : Int32) (h0 : ts_sh a0 = (0, 4)) (h1 : ts_sh a1 = (0, 7)) (m : lt_m) : L109_15 d a0 a1 x2 x3 m = if (m.1 a0 8) ≤ x3 then (lt_cI (lt_ev d 110 [.inr (.inr (some a1)), .inl x2] m) (fun v1 m1 => (lt_cV (lt_ev d 17 [.inr (.inr (some (a0 + 2))), .inl (0 : Int32), .inl x2] (lm_i (lm_i (lm_i m1 a0 6 v1) a0 10 (0 : Int32)) a0 11 (0 : Int32))) (fun m2 => (some (none, (lm_i m2 a0 9 (1 : Int32)))))))) else (lt_cI (lt_ev d 102 [.inr (.inr (some a1)), .inl x3] m) (fun v2 m3 => (lt_cV (lt_ev d 17 [.inr (.inr (some (a0 + 1))), .inl x3, .inl v2] m3) (fun m4 => (L109_15 d a0 a1 x2 (x3 + (1 : Int32)) m4))))) := by
  show lt_run d Y109 15 [some (.inr (.inr (some a0))), some (.inr (.inr (some a1))), some (.inl x2), some (.inl x3)] [] m = _
  refine Eq.trans (li_iload_n d109_15 (by rfl)) ?_
  refine Eq.trans (li_aload_n d109_16 (by rfl)) ?_
  refine Eq.trans (li_geti d109_17 fa_4_28 h0 rfl) ?_
  refine Eq.trans (li_icmp_ge (t := 42) d109_20 (by rfl)) ?_
  refine lt_ite (fun c1 => ?_) (fun c1 => ?_)
  · refine Eq.trans (li_aload_n d109_42 (by rfl)) ?_
    refine Eq.trans (li_aload_n d109_43 (by rfl)) ?_
    refine Eq.trans (li_iload_n d109_44 (by rfl)) ?_
    refine Eq.trans (li_ivI d109_45 ca_4_72 kd_110 kl_110 (by rfl) (by rfl) h1 (Nat.le_of_ble_eq_true rfl) (Nat.le_of_ble_eq_true rfl)) ?_
    refine lt_cI_c (fun v1 m1 => ?_)
    refine Eq.trans (li_puti d109_48 fa_4_48 h0 rfl rfl) ?_
    refine Eq.trans (li_aload_n d109_51 (by rfl)) ?_
    refine Eq.trans (li_iconst d109_52 ic_0) ?_
    refine Eq.trans (li_puti d109_53 fa_4_75 h0 rfl rfl) ?_
    refine Eq.trans (li_aload_n d109_56 (by rfl)) ?_
    refine Eq.trans (li_iconst d109_57 ic_0) ?_
    refine Eq.trans (li_putz d109_58 fa_4_78 h0 rfl rfl) ?_
    refine Eq.trans (lt_gd_t (by decide)) ?_
    refine Eq.trans (li_aload_n d109_61 (by rfl)) ?_
    refine Eq.trans (li_getr d109_62 fa_4_19 h0 rfl rfl rfl (by decide)) ?_
    refine Eq.trans (li_iconst d109_65 ic_0) ?_
    refine Eq.trans (li_iload_n d109_66 (by rfl)) ?_
    refine Eq.trans (li_isV d109_67 bi_4_68 ca_4_68 kd_17 (by rfl) (by rfl) (Nat.le_of_ble_eq_true rfl) (Nat.le_of_ble_eq_true rfl)) ?_
    refine lt_cV_c (fun m2 => ?_)
    refine Eq.trans (li_aload_n d109_70 (by rfl)) ?_
    refine Eq.trans (li_iconst d109_71 ic_1) ?_
    refine Eq.trans (li_puti d109_72 fa_4_35 h0 rfl rfl) ?_
    exact li_vret d109_75 rfl
  · refine Eq.trans (li_aload_n d109_23 (by rfl)) ?_
    refine Eq.trans (li_getr d109_24 fa_4_15 h0 rfl rfl rfl (by decide)) ?_
    refine Eq.trans (li_iload_n d109_27 (by rfl)) ?_
    refine Eq.trans (li_aload_n d109_28 (by rfl)) ?_
    refine Eq.trans (li_iload_n d109_29 (by rfl)) ?_
    refine Eq.trans (li_ivI d109_30 ca_4_67 kd_102 kl_102 (by rfl) (by rfl) h1 (Nat.le_of_ble_eq_true rfl) (Nat.le_of_ble_eq_true rfl)) ?_
    refine lt_cI_c (fun v2 m3 => ?_)
    refine Eq.trans (li_isV d109_33 bi_4_68 ca_4_68 kd_17 (by rfl) (by rfl) (Nat.le_of_ble_eq_true rfl) (Nat.le_of_ble_eq_true rfl)) ?_
    refine lt_cV_c (fun m4 => ?_)
    refine Eq.trans (li_iinc (ls' := [some (.inr (.inr (some a0))), some (.inr (.inr (some a1))), some (.inl x2), some (.inl (x3 + (1 : Int32)))]) d109_36 (by rfl) (by decide) ic_1 (by rfl)) ?_
    refine Eq.trans (li_goto (t := 15) d109_39 (by rfl)) ?_
    rfl
/-! TransitSeals$Route.termFrom(I)I -/
theorem d110_0 : decode Y110.2.1 0 = .ok (.iload_n 1, 1) := by decide +kernel
theorem d110_1 : decode Y110.2.1 1 = .ok (.iconst 2, 1) := by decide +kernel
theorem d110_2 : decode Y110.2.1 2 = .ok (.aload_n 0, 1) := by decide +kernel
theorem d110_3 : decode Y110.2.1 3 = .ok (.getfield 23, 3) := by decide +kernel
theorem d110_6 : decode Y110.2.1 6 = .ok (.imul, 1) := by decide +kernel
theorem d110_7 : decode Y110.2.1 7 = .ok (.iadd, 1) := by decide +kernel
theorem d110_8 : decode Y110.2.1 8 = .ok (.bipush 24, 2) := by decide +kernel
theorem d110_10 : decode Y110.2.1 10 = .ok (.iadd, 1) := by decide +kernel
theorem d110_11 : decode Y110.2.1 11 = .ok (.ireturn, 1) := by decide +kernel
theorem E110 (d : Nat) (a0 : Nat) (x1 : Int32) (h0 : ts_sh a0 = (0, 7)) (m : lt_m) : lt_ev (d + 1) 110 [.inr (.inr (some a0)), .inl x1] m = some (some (.inl ((x1 + ((2 : Int32) * (m.1 a0 2))) + (24 : Int32))), m) := by
  refine Eq.trans (lt_enter2 (ls := [some (.inr (.inr (some a0))), some (.inl x1)]) hY110 (Nat.le_of_ble_eq_true rfl) (by rfl)) ?_
  refine Eq.trans (li_iload_n d110_0 (by rfl)) ?_
  refine Eq.trans (li_iconst d110_1 ic_2) ?_
  refine Eq.trans (li_aload_n d110_2 (by rfl)) ?_
  refine Eq.trans (li_geti d110_3 fa_7_23 h0 rfl) ?_
  refine Eq.trans (li_imul d110_6) ?_
  refine Eq.trans (li_iadd d110_7) ?_
  refine Eq.trans (li_bipush d110_8 bi_24) ?_
  refine Eq.trans (li_iadd d110_10) ?_
  exact li_iret d110_11 rfl
/-! TransitSeals$Ledger.write(ILTransitSeals$Movement;)V -/
theorem d111_0 : decode Y111.2.1 0 = .ok (.aload_n 0, 1) := by decide +kernel
theorem d111_1 : decode Y111.2.1 1 = .ok (.getfield 27, 3) := by decide +kernel
theorem d111_4 : decode Y111.2.1 4 = .ok (.iload_n 1, 1) := by decide +kernel
theorem d111_5 : decode Y111.2.1 5 = .ok (.aload_n 2, 1) := by decide +kernel
theorem d111_6 : decode Y111.2.1 6 = .ok (.getfield 118, 3) := by decide +kernel
theorem d111_9 : decode Y111.2.1 9 = .ok (.aload_n 0, 1) := by decide +kernel
theorem d111_10 : decode Y111.2.1 10 = .ok (.getfield 34, 3) := by decide +kernel
theorem d111_13 : decode Y111.2.1 13 = .ok (.invokevirtual 121, 3) := by decide +kernel
theorem d111_16 : decode Y111.2.1 16 = .ok (.return_, 1) := by decide +kernel
theorem E111 (d : Nat) (a0 : Nat) (x1 : Int32) (a2 : Nat) (h0 : ts_sh a0 = (0, 2)) (h2 : ts_sh a2 = (0, 4)) (m : lt_m) : lt_ev (d + 1) 111 [.inr (.inr (some a0)), .inl x1, .inr (.inr (some a2))] m = lt_cV (lt_ev d 112 [.inr (.inr (some (a0 + 4))), .inl x1, .inl (m.1 a2 0), .inl (m.1 a0 4)] m) (fun m1 => (some (none, m1))) := by
  refine Eq.trans (lt_enter2 (ls := [some (.inr (.inr (some a0))), some (.inl x1), some (.inr (.inr (some a2)))]) hY111 (Nat.le_of_ble_eq_true rfl) (by rfl)) ?_
  refine Eq.trans (li_aload_n d111_0 (by rfl)) ?_
  refine Eq.trans (li_getr d111_1 fa_2_27 h0 rfl rfl rfl (by decide)) ?_
  refine Eq.trans (li_iload_n d111_4 (by rfl)) ?_
  refine Eq.trans (li_aload_n d111_5 (by rfl)) ?_
  refine Eq.trans (li_geti d111_6 fa_2_118 h2 rfl) ?_
  refine Eq.trans (li_aload_n d111_9 (by rfl)) ?_
  refine Eq.trans (li_geti d111_10 fa_2_34 h0 rfl) ?_
  refine Eq.trans (li_ivV d111_13 ca_2_121 kd_112 kl_112 (by rfl) (by rfl) (sf_of h0 3 (by decide) (by decide)) (Nat.le_of_ble_eq_true rfl) (Nat.le_of_ble_eq_true rfl)) ?_
  refine lt_cV_c (fun m1 => ?_)
  exact li_vret d111_16 rfl
/-! TransitSeals$Book.add(III)V -/
theorem d112_0 : decode Y112.2.1 0 = .ok (.aload_n 0, 1) := by decide +kernel
theorem d112_1 : decode Y112.2.1 1 = .ok (.getfield 21, 3) := by decide +kernel
theorem d112_4 : decode Y112.2.1 4 = .ok (.bipush 30, 2) := by decide +kernel
theorem d112_6 : decode Y112.2.1 6 = .ok (.irem, 1) := by decide +kernel
theorem d112_7 : decode Y112.2.1 7 = .ok (.istore 4, 2) := by decide +kernel
theorem d112_9 : decode Y112.2.1 9 = .ok (.aload_n 0, 1) := by decide +kernel
theorem d112_10 : decode Y112.2.1 10 = .ok (.getfield 9, 3) := by decide +kernel
theorem d112_13 : decode Y112.2.1 13 = .ok (.iload 4, 2) := by decide +kernel
theorem d112_15 : decode Y112.2.1 15 = .ok (.iload_n 1, 1) := by decide +kernel
theorem d112_16 : decode Y112.2.1 16 = .ok (.invokestatic 31, 3) := by decide +kernel
theorem d112_19 : decode Y112.2.1 19 = .ok (.aload_n 0, 1) := by decide +kernel
theorem d112_20 : decode Y112.2.1 20 = .ok (.getfield 15, 3) := by decide +kernel
theorem d112_23 : decode Y112.2.1 23 = .ok (.iload 4, 2) := by decide +kernel
theorem d112_25 : decode Y112.2.1 25 = .ok (.iload_n 2, 1) := by decide +kernel
theorem d112_26 : decode Y112.2.1 26 = .ok (.invokestatic 31, 3) := by decide +kernel
theorem d112_29 : decode Y112.2.1 29 = .ok (.aload_n 0, 1) := by decide +kernel
theorem d112_30 : decode Y112.2.1 30 = .ok (.getfield 18, 3) := by decide +kernel
theorem d112_33 : decode Y112.2.1 33 = .ok (.iload 4, 2) := by decide +kernel
theorem d112_35 : decode Y112.2.1 35 = .ok (.iload_n 3, 1) := by decide +kernel
theorem d112_36 : decode Y112.2.1 36 = .ok (.invokestatic 31, 3) := by decide +kernel
theorem d112_39 : decode Y112.2.1 39 = .ok (.aload_n 0, 1) := by decide +kernel
theorem d112_40 : decode Y112.2.1 40 = .ok (.dup, 1) := by decide +kernel
theorem d112_41 : decode Y112.2.1 41 = .ok (.getfield 21, 3) := by decide +kernel
theorem d112_44 : decode Y112.2.1 44 = .ok (.iconst 1, 1) := by decide +kernel
theorem d112_45 : decode Y112.2.1 45 = .ok (.iadd, 1) := by decide +kernel
theorem d112_46 : decode Y112.2.1 46 = .ok (.putfield 21, 3) := by decide +kernel
theorem d112_49 : decode Y112.2.1 49 = .ok (.return_, 1) := by decide +kernel
theorem E112 (d : Nat) (a0 : Nat) (x1 : Int32) (x2 : Int32) (x3 : Int32) (h0 : ts_sh a0 = (0, 0)) (m : lt_m) : lt_ev (d + 1) 112 [.inr (.inr (some a0)), .inl x1, .inl x2, .inl x3] m = lt_cV (lt_ev d 17 [.inr (.inr (some (a0 + 1))), .inl ((m.1 a0 3) - (m.1 a0 3) / (30 : Int32) * (30 : Int32)), .inl x1] m) (fun m1 => (lt_cV (lt_ev d 17 [.inr (.inr (some (a0 + 2))), .inl ((m.1 a0 3) - (m.1 a0 3) / (30 : Int32) * (30 : Int32)), .inl x2] m1) (fun m2 => (lt_cV (lt_ev d 17 [.inr (.inr (some (a0 + 3))), .inl ((m.1 a0 3) - (m.1 a0 3) / (30 : Int32) * (30 : Int32)), .inl x3] m2) (fun m3 => (some (none, (lm_i m3 a0 3 ((m3.1 a0 3) + (1 : Int32)))))))))) := by
  refine Eq.trans (lt_enter2 (ls := [some (.inr (.inr (some a0))), some (.inl x1), some (.inl x2), some (.inl x3), none]) hY112 (Nat.le_of_ble_eq_true rfl) (by rfl)) ?_
  refine Eq.trans (li_aload_n d112_0 (by rfl)) ?_
  refine Eq.trans (li_geti d112_1 fa_0_21 h0 rfl) ?_
  refine Eq.trans (li_bipush d112_4 bi_30) ?_
  refine Eq.trans (li_irem d112_6) ?_
  refine Eq.trans (lt_gd_t (by decide)) ?_
  refine Eq.trans (li_istore (ls' := [some (.inr (.inr (some a0))), some (.inl x1), some (.inl x2), some (.inl x3), some (.inl ((m.1 a0 3) - (m.1 a0 3) / (30 : Int32) * (30 : Int32)))]) d112_7 (by decide) (by rfl)) ?_
  refine Eq.trans (li_aload_n d112_9 (by rfl)) ?_
  refine Eq.trans (li_getr d112_10 fa_0_9 h0 rfl rfl rfl (by decide)) ?_
  refine Eq.trans (li_iload d112_13 (by rfl)) ?_
  refine Eq.trans (li_iload_n d112_15 (by rfl)) ?_
  refine Eq.trans (li_isV d112_16 bi_0_31 ca_0_31 kd_17 (by rfl) (by rfl) (Nat.le_of_ble_eq_true rfl) (Nat.le_of_ble_eq_true rfl)) ?_
  refine lt_cV_c (fun m1 => ?_)
  refine Eq.trans (li_aload_n d112_19 (by rfl)) ?_
  refine Eq.trans (li_getr d112_20 fa_0_15 h0 rfl rfl rfl (by decide)) ?_
  refine Eq.trans (li_iload d112_23 (by rfl)) ?_
  refine Eq.trans (li_iload_n d112_25 (by rfl)) ?_
  refine Eq.trans (li_isV d112_26 bi_0_31 ca_0_31 kd_17 (by rfl) (by rfl) (Nat.le_of_ble_eq_true rfl) (Nat.le_of_ble_eq_true rfl)) ?_
  refine lt_cV_c (fun m2 => ?_)
  refine Eq.trans (li_aload_n d112_29 (by rfl)) ?_
  refine Eq.trans (li_getr d112_30 fa_0_18 h0 rfl rfl rfl (by decide)) ?_
  refine Eq.trans (li_iload d112_33 (by rfl)) ?_
  refine Eq.trans (li_iload_n d112_35 (by rfl)) ?_
  refine Eq.trans (li_isV d112_36 bi_0_31 ca_0_31 kd_17 (by rfl) (by rfl) (Nat.le_of_ble_eq_true rfl) (Nat.le_of_ble_eq_true rfl)) ?_
  refine lt_cV_c (fun m3 => ?_)
  refine Eq.trans (li_aload_n d112_39 (by rfl)) ?_
  refine Eq.trans (li_dup d112_40 rfl) ?_
  refine Eq.trans (li_geti d112_41 fa_0_21 h0 rfl) ?_
  refine Eq.trans (li_iconst d112_44 ic_1) ?_
  refine Eq.trans (li_iadd d112_45) ?_
  refine Eq.trans (li_puti d112_46 fa_0_21 h0 rfl rfl) ?_
  exact li_vret d112_49 rfl
/-! TransitSeals.stamps(II)I -/
theorem d113_0 : decode Y113.2.1 0 = .ok (.aload_n 0, 1) := by decide +kernel
theorem d113_1 : decode Y113.2.1 1 = .ok (.getfield 47, 3) := by decide +kernel
theorem d113_4 : decode Y113.2.1 4 = .ok (.iload_n 1, 1) := by decide +kernel
theorem d113_5 : decode Y113.2.1 5 = .ok (.invokevirtual 240, 3) := by decide +kernel
theorem d113_8 : decode Y113.2.1 8 = .ok (.astore_n 3, 1) := by decide +kernel
theorem d113_9 : decode Y113.2.1 9 = .ok (.aload_n 3, 1) := by decide +kernel
theorem d113_10 : decode Y113.2.1 10 = .ok (.ifnull 14, 3) := by decide +kernel
theorem d113_13 : decode Y113.2.1 13 = .ok (.aload_n 0, 1) := by decide +kernel
theorem d113_14 : decode Y113.2.1 14 = .ok (.getfield 61, 3) := by decide +kernel
theorem d113_17 : decode Y113.2.1 17 = .ok (.iload_n 2, 1) := by decide +kernel
theorem d113_18 : decode Y113.2.1 18 = .ok (.invokevirtual 105, 3) := by decide +kernel
theorem d113_21 : decode Y113.2.1 21 = .ok (.ifCond .ne 5, 3) := by decide +kernel
theorem d113_24 : decode Y113.2.1 24 = .ok (.iconst (-1), 1) := by decide +kernel
theorem d113_25 : decode Y113.2.1 25 = .ok (.ireturn, 1) := by decide +kernel
theorem d113_26 : decode Y113.2.1 26 = .ok (.aload_n 3, 1) := by decide +kernel
theorem d113_27 : decode Y113.2.1 27 = .ok (.invokevirtual 244, 3) := by decide +kernel
theorem d113_30 : decode Y113.2.1 30 = .ok (.ifCond .ne 6, 3) := by decide +kernel
theorem d113_33 : decode Y113.2.1 33 = .ok (.bipush (-2), 2) := by decide +kernel
theorem d113_35 : decode Y113.2.1 35 = .ok (.ireturn, 1) := by decide +kernel
theorem d113_36 : decode Y113.2.1 36 = .ok (.aload_n 3, 1) := by decide +kernel
theorem d113_37 : decode Y113.2.1 37 = .ok (.invokevirtual 247, 3) := by decide +kernel
theorem d113_40 : decode Y113.2.1 40 = .ok (.iload_n 2, 1) := by decide +kernel
theorem d113_41 : decode Y113.2.1 41 = .ok (.if_icmp .eq 6, 3) := by decide +kernel
theorem d113_44 : decode Y113.2.1 44 = .ok (.bipush (-3), 2) := by decide +kernel
theorem d113_46 : decode Y113.2.1 46 = .ok (.ireturn, 1) := by decide +kernel
theorem d113_47 : decode Y113.2.1 47 = .ok (.aload_n 0, 1) := by decide +kernel
theorem d113_48 : decode Y113.2.1 48 = .ok (.getfield 54, 3) := by decide +kernel
theorem d113_51 : decode Y113.2.1 51 = .ok (.aload_n 0, 1) := by decide +kernel
theorem d113_52 : decode Y113.2.1 52 = .ok (.getfield 47, 3) := by decide +kernel
theorem d113_55 : decode Y113.2.1 55 = .ok (.invokevirtual 168, 3) := by decide +kernel
theorem d113_58 : decode Y113.2.1 58 = .ok (.aload_n 3, 1) := by decide +kernel
theorem d113_59 : decode Y113.2.1 59 = .ok (.aload_n 0, 1) := by decide +kernel
theorem d113_60 : decode Y113.2.1 60 = .ok (.getfield 47, 3) := by decide +kernel
theorem d113_63 : decode Y113.2.1 63 = .ok (.getfield 223, 3) := by decide +kernel
theorem d113_66 : decode Y113.2.1 66 = .ok (.invokevirtual 250, 3) := by decide +kernel
theorem d113_69 : decode Y113.2.1 69 = .ok (.aload_n 0, 1) := by decide +kernel
theorem d113_70 : decode Y113.2.1 70 = .ok (.getfield 47, 3) := by decide +kernel
theorem d113_73 : decode Y113.2.1 73 = .ok (.iconst 1, 1) := by decide +kernel
theorem d113_74 : decode Y113.2.1 74 = .ok (.aload_n 3, 1) := by decide +kernel
theorem d113_75 : decode Y113.2.1 75 = .ok (.invokevirtual 233, 3) := by decide +kernel
theorem d113_78 : decode Y113.2.1 78 = .ok (.aload_n 3, 1) := by decide +kernel
theorem d113_79 : decode Y113.2.1 79 = .ok (.getfield 253, 3) := by decide +kernel
theorem d113_82 : decode Y113.2.1 82 = .ok (.aload_n 3, 1) := by decide +kernel
theorem d113_83 : decode Y113.2.1 83 = .ok (.getfield 256, 3) := by decide +kernel
theorem d113_86 : decode Y113.2.1 86 = .ok (.isub, 1) := by decide +kernel
theorem d113_87 : decode Y113.2.1 87 = .ok (.ireturn, 1) := by decide +kernel
theorem E113 (d : Nat) (a0 : Nat) (x1 : Int32) (x2 : Int32) (h0 : ts_sh a0 = (0, 11)) (m : lt_m) : lt_ev (d + 1) 113 [.inr (.inr (some a0)), .inl x1, .inl x2] m = lt_cR (lt_ev d 114 [.inr (.inr (some (a0 + 13))), .inl x1] m) (fun v1 m1 => (lt_nl v1 (some (some (.inl (-1 : Int32)), m1)) (fun q1 => (lt_gd (ts_sh (m1.2.2.1) = (0, 5)) (lt_cI (lt_ev d 14 [.inr (.inr (some (m1.2.2.1))), .inl x2] m1) (fun v2 m2 => (if ¬ v2 = 0 then (lt_gd (ts_sh q1 = (0, 4)) (lt_cI (lt_ev d 62 [.inr (.inr (some q1))] m2) (fun v3 m3 => (if ¬ v3 = 0 then (lt_cI (lt_ev d 115 [.inr (.inr (some q1))] m3) (fun v4 m4 => (if v4 = x2 then (lt_cV (lt_ev d 81 [.inr (.inr (some (a0 + 81))), .inr (.inr (some (a0 + 13)))] m4) (fun m5 => (lt_cV (lt_ev d 116 [.inr (.inr (some q1)), .inl (m5.1 (a0 + 13) 4)] m5) (fun m6 => (lt_cV (lt_ev d 111 [.inr (.inr (some (a0 + 13))), .inl (1 : Int32), .inr (.inr (some q1))] m6) (fun m7 => (some (some (.inl ((m7.1 q1 8) - (m7.1 q1 9))), m7)))))))) else (some (some (.inl (-3 : Int32)), m4))))) else (some (some (.inl (-2 : Int32)), m3)))))) else (some (some (.inl (-1 : Int32)), m2))))))))) := by
  refine Eq.trans (lt_enter2 (ls := [some (.inr (.inr (some a0))), some (.inl x1), some (.inl x2), none]) hY113 (Nat.le_of_ble_eq_true rfl) (by rfl)) ?_
  refine Eq.trans (li_aload_n d113_0 (by rfl)) ?_
  refine Eq.trans (li_getr d113_1 fa_11_47 h0 rfl rfl rfl (by decide)) ?_
  refine Eq.trans (li_iload_n d113_4 (by rfl)) ?_
  refine Eq.trans (li_ivR d113_5 ca_11_240 kd_114 kl_114 (by rfl) (by rfl) (sf_of h0 5 (by decide) (by decide)) (Nat.le_of_ble_eq_true rfl) (Nat.le_of_ble_eq_true rfl)) ?_
  refine lt_cR_c (fun v1 m1 => ?_)
  refine Eq.trans (li_astore_n (ls' := [some (.inr (.inr (some a0))), some (.inl x1), some (.inl x2), some (.inr (.inr v1))]) d113_8 (by decide) (by rfl)) ?_
  refine Eq.trans (li_aload_n d113_9 (by rfl)) ?_
  refine lt_nl_x (F := fun oz => lt_run d Y113 10 [some (.inr (.inr (some a0))), some (.inl x1), some (.inl x2), some (.inr (.inr oz))] [.inr (.inr oz)] m1) ?_ (fun q1 => ?_)
  · refine Eq.trans (li_ifnull_n (t := 24) d113_10 (by rfl)) ?_
    refine Eq.trans (li_iconst d113_24 ic_n1) ?_
    exact li_iret d113_25 rfl
  · refine Eq.trans (li_ifnull_s d113_10) ?_
    refine Eq.trans (li_aload_n d113_13 (by rfl)) ?_
    refine Eq.trans (li_getnet d113_14 fa_11_61 h0) ?_
    refine Eq.trans (li_iload_n d113_17 (by rfl)) ?_
    refine Eq.trans (li_ginv d113_18 ca_11_105 kl_14 (by rfl)) ?_
    refine lt_gd_c (fun g1 => ?_)
    refine Eq.trans (li_ivI d113_18 ca_11_105 kd_14 kl_14 (by rfl) (by rfl) g1 (Nat.le_of_ble_eq_true rfl) (Nat.le_of_ble_eq_true rfl)) ?_
    refine lt_cI_c (fun v2 m2 => ?_)
    refine Eq.trans (li_if_ne (t := 26) d113_21 (by rfl)) ?_
    refine lt_ite (fun c1 => ?_) (fun c1 => ?_)
    · refine Eq.trans (li_aload_n d113_26 (by rfl)) ?_
      refine Eq.trans (li_ginv d113_27 ca_11_244 kl_62 (by rfl)) ?_
      refine lt_gd_c (fun g2 => ?_)
      refine Eq.trans (li_ivI d113_27 ca_11_244 kd_62 kl_62 (by rfl) (by rfl) g2 (Nat.le_of_ble_eq_true rfl) (Nat.le_of_ble_eq_true rfl)) ?_
      refine lt_cI_c (fun v3 m3 => ?_)
      refine Eq.trans (li_if_ne (t := 36) d113_30 (by rfl)) ?_
      refine lt_ite (fun c2 => ?_) (fun c2 => ?_)
      · refine Eq.trans (li_aload_n d113_36 (by rfl)) ?_
        refine Eq.trans (li_ivI d113_37 ca_11_247 kd_115 kl_115 (by rfl) (by rfl) g2 (Nat.le_of_ble_eq_true rfl) (Nat.le_of_ble_eq_true rfl)) ?_
        refine lt_cI_c (fun v4 m4 => ?_)
        refine Eq.trans (li_iload_n d113_40 (by rfl)) ?_
        refine Eq.trans (li_icmp_eq (t := 47) d113_41 (by rfl)) ?_
        refine lt_ite (fun c3 => ?_) (fun c3 => ?_)
        · refine Eq.trans (li_aload_n d113_47 (by rfl)) ?_
          refine Eq.trans (li_getr d113_48 fa_11_54 h0 rfl rfl rfl (by decide)) ?_
          refine Eq.trans (li_aload_n d113_51 (by rfl)) ?_
          refine Eq.trans (li_getr d113_52 fa_11_47 h0 rfl rfl rfl (by decide)) ?_
          refine Eq.trans (li_ivV d113_55 ca_11_168 kd_81 kl_81 (by rfl) (by rfl) (sf_of h0 6 (by decide) (by decide)) (Nat.le_of_ble_eq_true rfl) (Nat.le_of_ble_eq_true rfl)) ?_
          refine lt_cV_c (fun m5 => ?_)
          refine Eq.trans (li_aload_n d113_58 (by rfl)) ?_
          refine Eq.trans (li_aload_n d113_59 (by rfl)) ?_
          refine Eq.trans (li_getr d113_60 fa_11_47 h0 rfl rfl rfl (by decide)) ?_
          refine Eq.trans (li_geti d113_63 fa_11_223 (sf_of h0 5 (by decide) (by decide)) rfl) ?_
          refine Eq.trans (li_ivV d113_66 ca_11_250 kd_116 kl_116 (by rfl) (by rfl) g2 (Nat.le_of_ble_eq_true rfl) (Nat.le_of_ble_eq_true rfl)) ?_
          refine lt_cV_c (fun m6 => ?_)
          refine Eq.trans (li_aload_n d113_69 (by rfl)) ?_
          refine Eq.trans (li_getr d113_70 fa_11_47 h0 rfl rfl rfl (by decide)) ?_
          refine Eq.trans (li_iconst d113_73 ic_1) ?_
          refine Eq.trans (li_aload_n d113_74 (by rfl)) ?_
          refine Eq.trans (li_ivV d113_75 ca_11_233 kd_111 kl_111 (by rfl) (by rfl) (sf_of h0 5 (by decide) (by decide)) (Nat.le_of_ble_eq_true rfl) (Nat.le_of_ble_eq_true rfl)) ?_
          refine lt_cV_c (fun m7 => ?_)
          refine Eq.trans (li_aload_n d113_78 (by rfl)) ?_
          refine Eq.trans (li_geti d113_79 fa_11_253 g2 rfl) ?_
          refine Eq.trans (li_aload_n d113_82 (by rfl)) ?_
          refine Eq.trans (li_geti d113_83 fa_11_256 g2 rfl) ?_
          refine Eq.trans (li_isub d113_86) ?_
          exact li_iret d113_87 rfl
        · refine Eq.trans (li_bipush d113_44 bi_n3) ?_
          exact li_iret d113_46 rfl
      · refine Eq.trans (li_bipush d113_33 bi_n2) ?_
        exact li_iret d113_35 rfl
    · refine Eq.trans (li_iconst d113_24 ic_n1) ?_
      exact li_iret d113_25 rfl
/-! TransitSeals$Ledger.find(I)LTransitSeals$Movement; -/
theorem d114_0 : decode Y114.2.1 0 = .ok (.iload_n 1, 1) := by decide +kernel
theorem d114_1 : decode Y114.2.1 1 = .ok (.aload_n 0, 1) := by decide +kernel
theorem d114_2 : decode Y114.2.1 2 = .ok (.getfield 41, 3) := by decide +kernel
theorem d114_5 : decode Y114.2.1 5 = .ok (.if_icmp .ge 11, 3) := by decide +kernel
theorem d114_8 : decode Y114.2.1 8 = .ok (.aload_n 0, 1) := by decide +kernel
theorem d114_9 : decode Y114.2.1 9 = .ok (.iload_n 1, 1) := by decide +kernel
theorem d114_10 : decode Y114.2.1 10 = .ok (.invokevirtual 114, 3) := by decide +kernel
theorem d114_13 : decode Y114.2.1 13 = .ok (.goto 4, 3) := by decide +kernel
theorem d114_16 : decode Y114.2.1 16 = .ok (.aconst_null, 1) := by decide +kernel
theorem d114_17 : decode Y114.2.1 17 = .ok (.areturn, 1) := by decide +kernel
theorem E114 (d : Nat) (a0 : Nat) (x1 : Int32) (h0 : ts_sh a0 = (0, 2)) (m : lt_m) : lt_ev (d + 1) 114 [.inr (.inr (some a0)), .inl x1] m = if (m.1 a0 6) ≤ x1 then (some (some (.inr (.inr none)), m)) else (lt_cR (lt_ev d 105 [.inr (.inr (some a0)), .inl x1] m) (fun v1 m1 => (some (some (.inr (.inr v1)), m1)))) := by
  refine Eq.trans (lt_enter2 (ls := [some (.inr (.inr (some a0))), some (.inl x1)]) hY114 (Nat.le_of_ble_eq_true rfl) (by rfl)) ?_
  refine Eq.trans (li_iload_n d114_0 (by rfl)) ?_
  refine Eq.trans (li_aload_n d114_1 (by rfl)) ?_
  refine Eq.trans (li_geti d114_2 fa_2_41 h0 rfl) ?_
  refine Eq.trans (li_icmp_ge (t := 16) d114_5 (by rfl)) ?_
  refine lt_ite (fun c1 => ?_) (fun c1 => ?_)
  · refine Eq.trans (li_null d114_16) ?_
    exact li_aret d114_17 rfl
  · refine Eq.trans (li_aload_n d114_8 (by rfl)) ?_
    refine Eq.trans (li_iload_n d114_9 (by rfl)) ?_
    refine Eq.trans (li_ivR d114_10 ca_2_114 kd_105 kl_105 (by rfl) (by rfl) h0 (Nat.le_of_ble_eq_true rfl) (Nat.le_of_ble_eq_true rfl)) ?_
    refine lt_cR_c (fun v1 m1 => ?_)
    refine Eq.trans (li_goto (t := 17) d114_13 (by rfl)) ?_
    exact li_aret d114_17 rfl
/-! TransitSeals$Movement.comesTo()I -/
theorem d115_0 : decode Y115.2.1 0 = .ok (.aload_n 0, 1) := by decide +kernel
theorem d115_1 : decode Y115.2.1 1 = .ok (.aload_n 0, 1) := by decide +kernel
theorem d115_2 : decode Y115.2.1 2 = .ok (.getfield 35, 3) := by decide +kernel
theorem d115_5 : decode Y115.2.1 5 = .ok (.invokevirtual 38, 3) := by decide +kernel
theorem d115_8 : decode Y115.2.1 8 = .ok (.ireturn, 1) := by decide +kernel
theorem E115 (d : Nat) (a0 : Nat) (h0 : ts_sh a0 = (0, 4)) (m : lt_m) : lt_ev (d + 1) 115 [.inr (.inr (some a0))] m = lt_cI (lt_ev d 64 [.inr (.inr (some a0)), .inl (m.1 a0 9)] m) (fun v1 m1 => (some (some (.inl v1), m1))) := by
  refine Eq.trans (lt_enter2 (ls := [some (.inr (.inr (some a0)))]) hY115 (Nat.le_of_ble_eq_true rfl) (by rfl)) ?_
  refine Eq.trans (li_aload_n d115_0 (by rfl)) ?_
  refine Eq.trans (li_aload_n d115_1 (by rfl)) ?_
  refine Eq.trans (li_geti d115_2 fa_4_35 h0 rfl) ?_
  refine Eq.trans (li_ivI d115_5 ca_4_38 kd_64 kl_64 (by rfl) (by rfl) h0 (Nat.le_of_ble_eq_true rfl) (Nat.le_of_ble_eq_true rfl)) ?_
  refine lt_cI_c (fun v1 m1 => ?_)
  exact li_iret d115_8 rfl
/-! TransitSeals$Movement.stamp(I)V -/
theorem d116_0 : decode Y116.2.1 0 = .ok (.aload_n 0, 1) := by decide +kernel
theorem d116_1 : decode Y116.2.1 1 = .ok (.getfield 19, 3) := by decide +kernel
theorem d116_4 : decode Y116.2.1 4 = .ok (.aload_n 0, 1) := by decide +kernel
theorem d116_5 : decode Y116.2.1 5 = .ok (.getfield 35, 3) := by decide +kernel
theorem d116_8 : decode Y116.2.1 8 = .ok (.iload_n 1, 1) := by decide +kernel
theorem d116_9 : decode Y116.2.1 9 = .ok (.invokestatic 68, 3) := by decide +kernel
theorem d116_12 : decode Y116.2.1 12 = .ok (.aload_n 0, 1) := by decide +kernel
theorem d116_13 : decode Y116.2.1 13 = .ok (.dup, 1) := by decide +kernel
theorem d116_14 : decode Y116.2.1 14 = .ok (.getfield 35, 3) := by decide +kernel
theorem d116_17 : decode Y116.2.1 17 = .ok (.iconst 1, 1) := by decide +kernel
theorem d116_18 : decode Y116.2.1 18 = .ok (.iadd, 1) := by decide +kernel
theorem d116_19 : decode Y116.2.1 19 = .ok (.putfield 35, 3) := by decide +kernel
theorem d116_22 : decode Y116.2.1 22 = .ok (.aload_n 0, 1) := by decide +kernel
theorem d116_23 : decode Y116.2.1 23 = .ok (.getfield 35, 3) := by decide +kernel
theorem d116_26 : decode Y116.2.1 26 = .ok (.aload_n 0, 1) := by decide +kernel
theorem d116_27 : decode Y116.2.1 27 = .ok (.getfield 28, 3) := by decide +kernel
theorem d116_30 : decode Y116.2.1 30 = .ok (.if_icmp .lt 8, 3) := by decide +kernel
theorem d116_33 : decode Y116.2.1 33 = .ok (.aload_n 0, 1) := by decide +kernel
theorem d116_34 : decode Y116.2.1 34 = .ok (.iconst 1, 1) := by decide +kernel
theorem d116_35 : decode Y116.2.1 35 = .ok (.putfield 9, 3) := by decide +kernel
theorem d116_38 : decode Y116.2.1 38 = .ok (.return_, 1) := by decide +kernel
theorem E116 (d : Nat) (a0 : Nat) (x1 : Int32) (h0 : ts_sh a0 = (0, 4)) (m : lt_m) : lt_ev (d + 1) 116 [.inr (.inr (some a0)), .inl x1] m = lt_cV (lt_ev d 17 [.inr (.inr (some (a0 + 2))), .inl (m.1 a0 9), .inl x1] m) (fun m1 => (if ((lm_i m1 a0 9 ((m1.1 a0 9) + (1 : Int32))).1 a0 9) < ((lm_i m1 a0 9 ((m1.1 a0 9) + (1 : Int32))).1 a0 8) then (some (none, (lm_i m1 a0 9 ((m1.1 a0 9) + (1 : Int32))))) else (some (none, (lm_i (lm_i m1 a0 9 ((m1.1 a0 9) + (1 : Int32))) a0 7 (1 : Int32)))))) := by
  refine Eq.trans (lt_enter2 (ls := [some (.inr (.inr (some a0))), some (.inl x1)]) hY116 (Nat.le_of_ble_eq_true rfl) (by rfl)) ?_
  refine Eq.trans (li_aload_n d116_0 (by rfl)) ?_
  refine Eq.trans (li_getr d116_1 fa_4_19 h0 rfl rfl rfl (by decide)) ?_
  refine Eq.trans (li_aload_n d116_4 (by rfl)) ?_
  refine Eq.trans (li_geti d116_5 fa_4_35 h0 rfl) ?_
  refine Eq.trans (li_iload_n d116_8 (by rfl)) ?_
  refine Eq.trans (li_isV d116_9 bi_4_68 ca_4_68 kd_17 (by rfl) (by rfl) (Nat.le_of_ble_eq_true rfl) (Nat.le_of_ble_eq_true rfl)) ?_
  refine lt_cV_c (fun m1 => ?_)
  refine Eq.trans (li_aload_n d116_12 (by rfl)) ?_
  refine Eq.trans (li_dup d116_13 rfl) ?_
  refine Eq.trans (li_geti d116_14 fa_4_35 h0 rfl) ?_
  refine Eq.trans (li_iconst d116_17 ic_1) ?_
  refine Eq.trans (li_iadd d116_18) ?_
  refine Eq.trans (li_puti d116_19 fa_4_35 h0 rfl rfl) ?_
  refine Eq.trans (li_aload_n d116_22 (by rfl)) ?_
  refine Eq.trans (li_geti d116_23 fa_4_35 h0 rfl) ?_
  refine Eq.trans (li_aload_n d116_26 (by rfl)) ?_
  refine Eq.trans (li_geti d116_27 fa_4_28 h0 rfl) ?_
  refine Eq.trans (li_icmp_lt (t := 38) d116_30 (by rfl)) ?_
  refine lt_ite (fun c1 => ?_) (fun c1 => ?_)
  · exact li_vret d116_38 rfl
  · refine Eq.trans (li_aload_n d116_33 (by rfl)) ?_
    refine Eq.trans (li_iconst d116_34 ic_1) ?_
    refine Eq.trans (li_puti d116_35 fa_4_9 h0 rfl rfl) ?_
    exact li_vret d116_38 rfl
/-! TransitSeals.breaks(I)I -/
theorem d117_0 : decode Y117.2.1 0 = .ok (.aload_n 0, 1) := by decide +kernel
theorem d117_1 : decode Y117.2.1 1 = .ok (.getfield 47, 3) := by decide +kernel
theorem d117_4 : decode Y117.2.1 4 = .ok (.iload_n 1, 1) := by decide +kernel
theorem d117_5 : decode Y117.2.1 5 = .ok (.invokevirtual 240, 3) := by decide +kernel
theorem d117_8 : decode Y117.2.1 8 = .ok (.astore_n 2, 1) := by decide +kernel
theorem d117_9 : decode Y117.2.1 9 = .ok (.aload_n 2, 1) := by decide +kernel
theorem d117_10 : decode Y117.2.1 10 = .ok (.ifnonnull 5, 3) := by decide +kernel
theorem d117_13 : decode Y117.2.1 13 = .ok (.iconst (-1), 1) := by decide +kernel
theorem d117_14 : decode Y117.2.1 14 = .ok (.ireturn, 1) := by decide +kernel
theorem d117_15 : decode Y117.2.1 15 = .ok (.aload_n 2, 1) := by decide +kernel
theorem d117_16 : decode Y117.2.1 16 = .ok (.invokevirtual 244, 3) := by decide +kernel
theorem d117_19 : decode Y117.2.1 19 = .ok (.ifCond .ne 6, 3) := by decide +kernel
theorem d117_22 : decode Y117.2.1 22 = .ok (.bipush (-2), 2) := by decide +kernel
theorem d117_24 : decode Y117.2.1 24 = .ok (.ireturn, 1) := by decide +kernel
theorem d117_25 : decode Y117.2.1 25 = .ok (.aload_n 2, 1) := by decide +kernel
theorem d117_26 : decode Y117.2.1 26 = .ok (.getfield 259, 3) := by decide +kernel
theorem d117_29 : decode Y117.2.1 29 = .ok (.ifCond .eq 6, 3) := by decide +kernel
theorem d117_32 : decode Y117.2.1 32 = .ok (.bipush (-3), 2) := by decide +kernel
theorem d117_34 : decode Y117.2.1 34 = .ok (.ireturn, 1) := by decide +kernel
theorem d117_35 : decode Y117.2.1 35 = .ok (.aload_n 0, 1) := by decide +kernel
theorem d117_36 : decode Y117.2.1 36 = .ok (.getfield 54, 3) := by decide +kernel
theorem d117_39 : decode Y117.2.1 39 = .ok (.aload_n 0, 1) := by decide +kernel
theorem d117_40 : decode Y117.2.1 40 = .ok (.getfield 47, 3) := by decide +kernel
theorem d117_43 : decode Y117.2.1 43 = .ok (.invokevirtual 168, 3) := by decide +kernel
theorem d117_46 : decode Y117.2.1 46 = .ok (.aload_n 2, 1) := by decide +kernel
theorem d117_47 : decode Y117.2.1 47 = .ok (.iconst 1, 1) := by decide +kernel
theorem d117_48 : decode Y117.2.1 48 = .ok (.putfield 259, 3) := by decide +kernel
theorem d117_51 : decode Y117.2.1 51 = .ok (.aload_n 0, 1) := by decide +kernel
theorem d117_52 : decode Y117.2.1 52 = .ok (.getfield 47, 3) := by decide +kernel
theorem d117_55 : decode Y117.2.1 55 = .ok (.iconst 2, 1) := by decide +kernel
theorem d117_56 : decode Y117.2.1 56 = .ok (.aload_n 2, 1) := by decide +kernel
theorem d117_57 : decode Y117.2.1 57 = .ok (.invokevirtual 233, 3) := by decide +kernel
theorem d117_60 : decode Y117.2.1 60 = .ok (.aload_n 0, 1) := by decide +kernel
theorem d117_61 : decode Y117.2.1 61 = .ok (.getfield 47, 3) := by decide +kernel
theorem d117_64 : decode Y117.2.1 64 = .ok (.invokevirtual 263, 3) := by decide +kernel
theorem d117_67 : decode Y117.2.1 67 = .ok (.ireturn, 1) := by decide +kernel
theorem E117 (d : Nat) (a0 : Nat) (x1 : Int32) (h0 : ts_sh a0 = (0, 11)) (m : lt_m) : lt_ev (d + 1) 117 [.inr (.inr (some a0)), .inl x1] m = lt_cR (lt_ev d 114 [.inr (.inr (some (a0 + 13))), .inl x1] m) (fun v1 m1 => (lt_nl v1 (some (some (.inl (-1 : Int32)), m1)) (fun q1 => (lt_gd (ts_sh q1 = (0, 4)) (lt_cI (lt_ev d 62 [.inr (.inr (some q1))] m1) (fun v2 m2 => (if ¬ v2 = 0 then (if (m2.1 q1 11) = 0 then (lt_cV (lt_ev d 81 [.inr (.inr (some (a0 + 81))), .inr (.inr (some (a0 + 13)))] m2) (fun m3 => (lt_cV (lt_ev d 111 [.inr (.inr (some (a0 + 13))), .inl (2 : Int32), .inr (.inr (some q1))] (lm_i m3 q1 11 (1 : Int32))) (fun m4 => (lt_cI (lt_ev d 118 [.inr (.inr (some (a0 + 13)))] m4) (fun v3 m5 => (some (some (.inl v3), m5)))))))) else (some (some (.inl (-3 : Int32)), m2))) else (some (some (.inl (-2 : Int32)), m2))))))))) := by
  refine Eq.trans (lt_enter2 (ls := [some (.inr (.inr (some a0))), some (.inl x1), none]) hY117 (Nat.le_of_ble_eq_true rfl) (by rfl)) ?_
  refine Eq.trans (li_aload_n d117_0 (by rfl)) ?_
  refine Eq.trans (li_getr d117_1 fa_11_47 h0 rfl rfl rfl (by decide)) ?_
  refine Eq.trans (li_iload_n d117_4 (by rfl)) ?_
  refine Eq.trans (li_ivR d117_5 ca_11_240 kd_114 kl_114 (by rfl) (by rfl) (sf_of h0 5 (by decide) (by decide)) (Nat.le_of_ble_eq_true rfl) (Nat.le_of_ble_eq_true rfl)) ?_
  refine lt_cR_c (fun v1 m1 => ?_)
  refine Eq.trans (li_astore_n (ls' := [some (.inr (.inr (some a0))), some (.inl x1), some (.inr (.inr v1))]) d117_8 (by decide) (by rfl)) ?_
  refine Eq.trans (li_aload_n d117_9 (by rfl)) ?_
  refine lt_nl_x (F := fun oz => lt_run d Y117 10 [some (.inr (.inr (some a0))), some (.inl x1), some (.inr (.inr oz))] [.inr (.inr oz)] m1) ?_ (fun q1 => ?_)
  · refine Eq.trans (li_ifnonnull_n d117_10) ?_
    refine Eq.trans (li_iconst d117_13 ic_n1) ?_
    exact li_iret d117_14 rfl
  · refine Eq.trans (li_ifnonnull_s (t := 15) d117_10 (by rfl)) ?_
    refine Eq.trans (li_aload_n d117_15 (by rfl)) ?_
    refine Eq.trans (li_ginv d117_16 ca_11_244 kl_62 (by rfl)) ?_
    refine lt_gd_c (fun g1 => ?_)
    refine Eq.trans (li_ivI d117_16 ca_11_244 kd_62 kl_62 (by rfl) (by rfl) g1 (Nat.le_of_ble_eq_true rfl) (Nat.le_of_ble_eq_true rfl)) ?_
    refine lt_cI_c (fun v2 m2 => ?_)
    refine Eq.trans (li_if_ne (t := 25) d117_19 (by rfl)) ?_
    refine lt_ite (fun c1 => ?_) (fun c1 => ?_)
    · refine Eq.trans (li_aload_n d117_25 (by rfl)) ?_
      refine Eq.trans (li_geti d117_26 fa_11_259 g1 rfl) ?_
      refine Eq.trans (li_if_eq (t := 35) d117_29 (by rfl)) ?_
      refine lt_ite (fun c2 => ?_) (fun c2 => ?_)
      · refine Eq.trans (li_aload_n d117_35 (by rfl)) ?_
        refine Eq.trans (li_getr d117_36 fa_11_54 h0 rfl rfl rfl (by decide)) ?_
        refine Eq.trans (li_aload_n d117_39 (by rfl)) ?_
        refine Eq.trans (li_getr d117_40 fa_11_47 h0 rfl rfl rfl (by decide)) ?_
        refine Eq.trans (li_ivV d117_43 ca_11_168 kd_81 kl_81 (by rfl) (by rfl) (sf_of h0 6 (by decide) (by decide)) (Nat.le_of_ble_eq_true rfl) (Nat.le_of_ble_eq_true rfl)) ?_
        refine lt_cV_c (fun m3 => ?_)
        refine Eq.trans (li_aload_n d117_46 (by rfl)) ?_
        refine Eq.trans (li_iconst d117_47 ic_1) ?_
        refine Eq.trans (li_putz d117_48 fa_11_259 g1 rfl rfl) ?_
        refine Eq.trans (lt_gd_t (by decide)) ?_
        refine Eq.trans (li_aload_n d117_51 (by rfl)) ?_
        refine Eq.trans (li_getr d117_52 fa_11_47 h0 rfl rfl rfl (by decide)) ?_
        refine Eq.trans (li_iconst d117_55 ic_2) ?_
        refine Eq.trans (li_aload_n d117_56 (by rfl)) ?_
        refine Eq.trans (li_ivV d117_57 ca_11_233 kd_111 kl_111 (by rfl) (by rfl) (sf_of h0 5 (by decide) (by decide)) (Nat.le_of_ble_eq_true rfl) (Nat.le_of_ble_eq_true rfl)) ?_
        refine lt_cV_c (fun m4 => ?_)
        refine Eq.trans (li_aload_n d117_60 (by rfl)) ?_
        refine Eq.trans (li_getr d117_61 fa_11_47 h0 rfl rfl rfl (by decide)) ?_
        refine Eq.trans (li_ivI d117_64 ca_11_263 kd_118 kl_118 (by rfl) (by rfl) (sf_of h0 5 (by decide) (by decide)) (Nat.le_of_ble_eq_true rfl) (Nat.le_of_ble_eq_true rfl)) ?_
        refine lt_cI_c (fun v3 m5 => ?_)
        exact li_iret d117_67 rfl
      · refine Eq.trans (li_bipush d117_32 bi_n3) ?_
        exact li_iret d117_34 rfl
    · refine Eq.trans (li_bipush d117_22 bi_n2) ?_
      exact li_iret d117_24 rfl
/-! TransitSeals$Ledger.brokenSeals()I -/
theorem d118_0 : decode Y118.2.1 0 = .ok (.iconst 0, 1) := by decide +kernel
theorem d118_1 : decode Y118.2.1 1 = .ok (.istore_n 1, 1) := by decide +kernel
theorem d118_2 : decode Y118.2.1 2 = .ok (.aload_n 0, 1) := by decide +kernel
theorem d118_3 : decode Y118.2.1 3 = .ok (.getfield 20, 3) := by decide +kernel
theorem d118_6 : decode Y118.2.1 6 = .ok (.astore_n 2, 1) := by decide +kernel
theorem d118_7 : decode Y118.2.1 7 = .ok (.aload_n 2, 1) := by decide +kernel
theorem d118_8 : decode Y118.2.1 8 = .ok (.arraylength, 1) := by decide +kernel
theorem d118_9 : decode Y118.2.1 9 = .ok (.istore_n 3, 1) := by decide +kernel
theorem d118_10 : decode Y118.2.1 10 = .ok (.iconst 0, 1) := by decide +kernel
theorem d118_11 : decode Y118.2.1 11 = .ok (.istore 4, 2) := by decide +kernel
theorem d118_13 : decode Y118.2.1 13 = .ok (.iload 4, 2) := by decide +kernel
theorem d118_15 : decode Y118.2.1 15 = .ok (.iload_n 3, 1) := by decide +kernel
theorem d118_16 : decode Y118.2.1 16 = .ok (.if_icmp .ge 40, 3) := by decide +kernel
theorem d118_19 : decode Y118.2.1 19 = .ok (.aload_n 2, 1) := by decide +kernel
theorem d118_20 : decode Y118.2.1 20 = .ok (.iload 4, 2) := by decide +kernel
theorem d118_22 : decode Y118.2.1 22 = .ok (.aaload, 1) := by decide +kernel
theorem d118_23 : decode Y118.2.1 23 = .ok (.astore 5, 2) := by decide +kernel
theorem d118_25 : decode Y118.2.1 25 = .ok (.iload_n 1, 1) := by decide +kernel
theorem d118_26 : decode Y118.2.1 26 = .ok (.aload 5, 2) := by decide +kernel
theorem d118_28 : decode Y118.2.1 28 = .ok (.getfield 44, 3) := by decide +kernel
theorem d118_31 : decode Y118.2.1 31 = .ok (.iconst (-1), 1) := by decide +kernel
theorem d118_32 : decode Y118.2.1 32 = .ok (.if_icmp .eq 15, 3) := by decide +kernel
theorem d118_35 : decode Y118.2.1 35 = .ok (.aload 5, 2) := by decide +kernel
theorem d118_37 : decode Y118.2.1 37 = .ok (.getfield 97, 3) := by decide +kernel
theorem d118_40 : decode Y118.2.1 40 = .ok (.ifCond .eq 7, 3) := by decide +kernel
theorem d118_43 : decode Y118.2.1 43 = .ok (.iconst 1, 1) := by decide +kernel
theorem d118_44 : decode Y118.2.1 44 = .ok (.goto 4, 3) := by decide +kernel
theorem d118_47 : decode Y118.2.1 47 = .ok (.iconst 0, 1) := by decide +kernel
theorem d118_48 : decode Y118.2.1 48 = .ok (.iadd, 1) := by decide +kernel
theorem d118_49 : decode Y118.2.1 49 = .ok (.istore_n 1, 1) := by decide +kernel
theorem d118_50 : decode Y118.2.1 50 = .ok (.iinc 4 1, 3) := by decide +kernel
theorem d118_53 : decode Y118.2.1 53 = .ok (.goto (-40), 3) := by decide +kernel
theorem d118_56 : decode Y118.2.1 56 = .ok (.iload_n 1, 1) := by decide +kernel
theorem d118_57 : decode Y118.2.1 57 = .ok (.ireturn, 1) := by decide +kernel
noncomputable def L118_13 (d : Nat) (a0 : Nat) (x1 : Int32) (x4 : Int32) (o5 : Option ts_V) (m : lt_m) : Option lt_r := lt_run d Y118 13 [some (.inr (.inr (some a0))), some (.inl x1), some (.inr (.inr (some (a0 + 3)))), some (.inl (20 : Int32)), some (.inl x4), o5] [] m
theorem E118 (d : Nat) (a0 : Nat) (h0 : ts_sh a0 = (0, 2)) (m : lt_m) : lt_ev (d + 1) 118 [.inr (.inr (some a0))] m = L118_13 d a0 (0 : Int32) (0 : Int32) none m := by
  refine Eq.trans (lt_enter2 (ls := [some (.inr (.inr (some a0))), none, none, none, none, none]) hY118 (Nat.le_of_ble_eq_true rfl) (by rfl)) ?_
  refine Eq.trans (li_iconst d118_0 ic_0) ?_
  refine Eq.trans (li_istore_n (ls' := [some (.inr (.inr (some a0))), some (.inl (0 : Int32)), none, none, none, none]) d118_1 (by decide) (by rfl)) ?_
  refine Eq.trans (li_aload_n d118_2 (by rfl)) ?_
  refine Eq.trans (li_getr d118_3 fa_2_20 h0 rfl rfl rfl (by decide)) ?_
  refine Eq.trans (li_astore_n (ls' := [some (.inr (.inr (some a0))), some (.inl (0 : Int32)), some (.inr (.inr (some (a0 + 3)))), none, none, none]) d118_6 (by decide) (by rfl)) ?_
  refine Eq.trans (li_aload_n d118_7 (by rfl)) ?_
  refine Eq.trans (li_alen d118_8 (sf_of h0 2 (by decide) (by decide)) (by decide) (by rfl)) ?_
  refine Eq.trans (li_istore_n (ls' := [some (.inr (.inr (some a0))), some (.inl (0 : Int32)), some (.inr (.inr (some (a0 + 3)))), some (.inl (20 : Int32)), none, none]) d118_9 (by decide) (by rfl)) ?_
  refine Eq.trans (li_iconst d118_10 ic_0) ?_
  refine Eq.trans (li_istore (ls' := [some (.inr (.inr (some a0))), some (.inl (0 : Int32)), some (.inr (.inr (some (a0 + 3)))), some (.inl (20 : Int32)), some (.inl (0 : Int32)), none]) d118_11 (by decide) (by rfl)) ?_
  rfl
theorem E118_13 (d : Nat) (a0 : Nat) (x1 : Int32) (x4 : Int32) (o5 : Option ts_V) (h0 : ts_sh a0 = (0, 2)) (m : lt_m) : L118_13 d a0 x1 x4 o5 m = if (20 : Int32) ≤ x4 then (some (some (.inl x1), m)) else (lt_gd (0 ≤ x4 ∧ (x4).toNatClampNeg < 20) (if (m.1 ((a0 + 3) + 5 + 3 * (x4).toNatClampNeg) 7) = (-1 : Int32) then (L118_13 d a0 (x1 + (0 : Int32)) (x4 + (1 : Int32)) (some (.inr (.inr (some ((a0 + 3) + 5 + 3 * (x4).toNatClampNeg))))) m) else (if (m.1 ((a0 + 3) + 5 + 3 * (x4).toNatClampNeg) 11) = 0 then (L118_13 d a0 (x1 + (0 : Int32)) (x4 + (1 : Int32)) (some (.inr (.inr (some ((a0 + 3) + 5 + 3 * (x4).toNatClampNeg))))) m) else (L118_13 d a0 (x1 + (1 : Int32)) (x4 + (1 : Int32)) (some (.inr (.inr (some ((a0 + 3) + 5 + 3 * (x4).toNatClampNeg))))) m)))) := by
  show lt_run d Y118 13 [some (.inr (.inr (some a0))), some (.inl x1), some (.inr (.inr (some (a0 + 3)))), some (.inl (20 : Int32)), some (.inl x4), o5] [] m = _
  refine Eq.trans (li_iload d118_13 (by rfl)) ?_
  refine Eq.trans (li_iload_n d118_15 (by rfl)) ?_
  refine Eq.trans (li_icmp_ge (t := 56) d118_16 (by rfl)) ?_
  refine lt_ite (fun c1 => ?_) (fun c1 => ?_)
  · refine Eq.trans (li_iload_n d118_56 (by rfl)) ?_
    exact li_iret d118_57 rfl
  · refine Eq.trans (li_aload_n d118_19 (by rfl)) ?_
    refine Eq.trans (li_iload d118_20 (by rfl)) ?_
    refine Eq.trans (li_aald4 d118_22 (sf_of h0 2 (by decide) (by decide))) ?_
    refine lt_gd_c (fun g1 => ?_)
    refine Eq.trans (li_astore (ls' := [some (.inr (.inr (some a0))), some (.inl x1), some (.inr (.inr (some (a0 + 3)))), some (.inl (20 : Int32)), some (.inl x4), some (.inr (.inr (some ((a0 + 3) + 5 + 3 * (x4).toNatClampNeg))))]) d118_23 (by decide) (by rfl)) ?_
    refine Eq.trans (li_iload_n d118_25 (by rfl)) ?_
    refine Eq.trans (li_aload d118_26 (by rfl)) ?_
    refine Eq.trans (li_geti d118_28 fa_2_44 (sm_4 (sf_of h0 2 (by decide) (by decide)) g1.2) rfl) ?_
    refine Eq.trans (li_iconst d118_31 ic_n1) ?_
    refine Eq.trans (li_icmp_eq (t := 47) d118_32 (by rfl)) ?_
    refine lt_ite (fun c2 => ?_) (fun c2 => ?_)
    · refine Eq.trans (li_iconst d118_47 ic_0) ?_
      refine Eq.trans (li_iadd d118_48) ?_
      refine Eq.trans (li_istore_n (ls' := [some (.inr (.inr (some a0))), some (.inl (x1 + (0 : Int32))), some (.inr (.inr (some (a0 + 3)))), some (.inl (20 : Int32)), some (.inl x4), some (.inr (.inr (some ((a0 + 3) + 5 + 3 * (x4).toNatClampNeg))))]) d118_49 (by decide) (by rfl)) ?_
      refine Eq.trans (li_iinc (ls' := [some (.inr (.inr (some a0))), some (.inl (x1 + (0 : Int32))), some (.inr (.inr (some (a0 + 3)))), some (.inl (20 : Int32)), some (.inl (x4 + (1 : Int32))), some (.inr (.inr (some ((a0 + 3) + 5 + 3 * (x4).toNatClampNeg))))]) d118_50 (by rfl) (by decide) ic_1 (by rfl)) ?_
      refine Eq.trans (li_goto (t := 13) d118_53 (by rfl)) ?_
      rfl
    · refine Eq.trans (li_aload d118_35 (by rfl)) ?_
      refine Eq.trans (li_geti d118_37 fa_2_97 (sm_4 (sf_of h0 2 (by decide) (by decide)) g1.2) rfl) ?_
      refine Eq.trans (li_if_eq (t := 47) d118_40 (by rfl)) ?_
      refine lt_ite (fun c3 => ?_) (fun c3 => ?_)
      · refine Eq.trans (li_iconst d118_47 ic_0) ?_
        refine Eq.trans (li_iadd d118_48) ?_
        refine Eq.trans (li_istore_n (ls' := [some (.inr (.inr (some a0))), some (.inl (x1 + (0 : Int32))), some (.inr (.inr (some (a0 + 3)))), some (.inl (20 : Int32)), some (.inl x4), some (.inr (.inr (some ((a0 + 3) + 5 + 3 * (x4).toNatClampNeg))))]) d118_49 (by decide) (by rfl)) ?_
        refine Eq.trans (li_iinc (ls' := [some (.inr (.inr (some a0))), some (.inl (x1 + (0 : Int32))), some (.inr (.inr (some (a0 + 3)))), some (.inl (20 : Int32)), some (.inl (x4 + (1 : Int32))), some (.inr (.inr (some ((a0 + 3) + 5 + 3 * (x4).toNatClampNeg))))]) d118_50 (by rfl) (by decide) ic_1 (by rfl)) ?_
        refine Eq.trans (li_goto (t := 13) d118_53 (by rfl)) ?_
        rfl
      · refine Eq.trans (li_iconst d118_43 ic_1) ?_
        refine Eq.trans (li_goto (t := 48) d118_44 (by rfl)) ?_
        refine Eq.trans (li_iadd d118_48) ?_
        refine Eq.trans (li_istore_n (ls' := [some (.inr (.inr (some a0))), some (.inl (x1 + (1 : Int32))), some (.inr (.inr (some (a0 + 3)))), some (.inl (20 : Int32)), some (.inl x4), some (.inr (.inr (some ((a0 + 3) + 5 + 3 * (x4).toNatClampNeg))))]) d118_49 (by decide) (by rfl)) ?_
        refine Eq.trans (li_iinc (ls' := [some (.inr (.inr (some a0))), some (.inl (x1 + (1 : Int32))), some (.inr (.inr (some (a0 + 3)))), some (.inl (20 : Int32)), some (.inl (x4 + (1 : Int32))), some (.inr (.inr (some ((a0 + 3) + 5 + 3 * (x4).toNatClampNeg))))]) d118_50 (by rfl) (by decide) ic_1 (by rfl)) ?_
        refine Eq.trans (li_goto (t := 13) d118_53 (by rfl)) ?_
        rfl

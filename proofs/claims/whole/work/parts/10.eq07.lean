/-! ===== equations of methods ===== -/
/-! TransitSealsModel.late()I -/
theorem d250_0 : decode Y250.2.1 0 = .ok (.aload_n 0, 1) := by decide +kernel
theorem d250_1 : decode Y250.2.1 1 = .ok (.iconst 0, 1) := by decide +kernel
theorem d250_2 : decode Y250.2.1 2 = .ok (.putfield 67, 3) := by decide +kernel
theorem d250_5 : decode Y250.2.1 5 = .ok (.iconst 0, 1) := by decide +kernel
theorem d250_6 : decode Y250.2.1 6 = .ok (.istore_n 1, 1) := by decide +kernel
theorem d250_7 : decode Y250.2.1 7 = .ok (.iconst 0, 1) := by decide +kernel
theorem d250_8 : decode Y250.2.1 8 = .ok (.istore_n 2, 1) := by decide +kernel
theorem d250_9 : decode Y250.2.1 9 = .ok (.iload_n 2, 1) := by decide +kernel
theorem d250_10 : decode Y250.2.1 10 = .ok (.aload_n 0, 1) := by decide +kernel
theorem d250_11 : decode Y250.2.1 11 = .ok (.getfield 7, 3) := by decide +kernel
theorem d250_14 : decode Y250.2.1 14 = .ok (.iconst 2, 1) := by decide +kernel
theorem d250_15 : decode Y250.2.1 15 = .ok (.iaload, 1) := by decide +kernel
theorem d250_16 : decode Y250.2.1 16 = .ok (.if_icmp .ge 27, 3) := by decide +kernel
theorem d250_19 : decode Y250.2.1 19 = .ok (.iload_n 1, 1) := by decide +kernel
theorem d250_20 : decode Y250.2.1 20 = .ok (.aload_n 0, 1) := by decide +kernel
theorem d250_21 : decode Y250.2.1 21 = .ok (.iload_n 2, 1) := by decide +kernel
theorem d250_22 : decode Y250.2.1 22 = .ok (.invokevirtual 301, 3) := by decide +kernel
theorem d250_25 : decode Y250.2.1 25 = .ok (.ifCond .eq 9, 3) := by decide +kernel
theorem d250_28 : decode Y250.2.1 28 = .ok (.iconst 1, 1) := by decide +kernel
theorem d250_29 : decode Y250.2.1 29 = .ok (.iload_n 2, 1) := by decide +kernel
theorem d250_30 : decode Y250.2.1 30 = .ok (.ishl, 1) := by decide +kernel
theorem d250_31 : decode Y250.2.1 31 = .ok (.goto 4, 3) := by decide +kernel
theorem d250_34 : decode Y250.2.1 34 = .ok (.iconst 0, 1) := by decide +kernel
theorem d250_35 : decode Y250.2.1 35 = .ok (.ior, 1) := by decide +kernel
theorem d250_36 : decode Y250.2.1 36 = .ok (.istore_n 1, 1) := by decide +kernel
theorem d250_37 : decode Y250.2.1 37 = .ok (.iinc 2 1, 3) := by decide +kernel
theorem d250_40 : decode Y250.2.1 40 = .ok (.goto (-31), 3) := by decide +kernel
theorem d250_43 : decode Y250.2.1 43 = .ok (.aload_n 0, 1) := by decide +kernel
theorem d250_44 : decode Y250.2.1 44 = .ok (.iconst 0, 1) := by decide +kernel
theorem d250_45 : decode Y250.2.1 45 = .ok (.putfield 70, 3) := by decide +kernel
theorem d250_48 : decode Y250.2.1 48 = .ok (.aload_n 0, 1) := by decide +kernel
theorem d250_49 : decode Y250.2.1 49 = .ok (.iload_n 1, 1) := by decide +kernel
theorem d250_50 : decode Y250.2.1 50 = .ok (.invokestatic 213, 3) := by decide +kernel
theorem d250_53 : decode Y250.2.1 53 = .ok (.i2l, 1) := by decide +kernel
theorem d250_54 : decode Y250.2.1 54 = .ok (.invokevirtual 194, 3) := by decide +kernel
theorem d250_57 : decode Y250.2.1 57 = .ok (.iload_n 1, 1) := by decide +kernel
theorem d250_58 : decode Y250.2.1 58 = .ok (.ireturn, 1) := by decide +kernel
noncomputable def L250_9 (d : Nat) (a0 : Nat) (x1 : Int32) (x2 : Int32) (m : lt_m) : Option lt_r := lt_run d Y250 9 [some (.inr (.inr (some a0))), some (.inl x1), some (.inl x2)] [] m
theorem E250 (d : Nat) (a0 : Nat) (h0 : ts_sh a0 = (0, 12)) (m : lt_m) : lt_ev (d + 1) 250 [.inr (.inr (some a0))] m = L250_9 d a0 (0 : Int32) (0 : Int32) (lm_i m a0 15 (0 : Int32)) := by
  refine Eq.trans (lt_enter2 (ls := [some (.inr (.inr (some a0))), none, none]) hY250 (Nat.le_of_ble_eq_true rfl) (by rfl)) ?_
  refine Eq.trans (li_aload_n d250_0 (by rfl)) ?_
  refine Eq.trans (li_iconst d250_1 ic_0) ?_
  refine Eq.trans (li_puti d250_2 fa_12_67 h0 rfl rfl) ?_
  refine Eq.trans (li_iconst d250_5 ic_0) ?_
  refine Eq.trans (li_istore_n (ls' := [some (.inr (.inr (some a0))), some (.inl (0 : Int32)), none]) d250_6 (by decide) (by rfl)) ?_
  refine Eq.trans (li_iconst d250_7 ic_0) ?_
  refine Eq.trans (li_istore_n (ls' := [some (.inr (.inr (some a0))), some (.inl (0 : Int32)), some (.inl (0 : Int32))]) d250_8 (by decide) (by rfl)) ?_
  rfl
theorem E250_9 (d : Nat) (a0 : Nat) (x1 : Int32) (x2 : Int32) (h0 : ts_sh a0 = (0, 12)) (m : lt_m) : L250_9 d a0 x1 x2 m = lt_gd (0 ≤ (2 : Int32) ∧ ((2 : Int32)).toNatClampNeg < 626) (if (m.1 (a0 + 1) ((2 : Int32)).toNatClampNeg) ≤ x2 then (lt_cI (lt_ev d 206 [.inl x1] (lm_i m a0 14 (0 : Int32))) (fun v1 m1 => (lt_cV (lt_ev d 202 [.inr (.inr (some a0)), .inr (.inl ((v1).toInt64))] m1) (fun m2 => (some (some (.inl x1), m2)))))) else (lt_cI (lt_ev d 251 [.inr (.inr (some a0)), .inl x2] m) (fun v2 m3 => (if v2 = 0 then (L250_9 d a0 (x1 ||| (0 : Int32)) (x2 + (1 : Int32)) m3) else (L250_9 d a0 (x1 ||| ((1 : Int32) <<< (x2 &&& 31))) (x2 + (1 : Int32)) m3))))) := by
  show lt_run d Y250 9 [some (.inr (.inr (some a0))), some (.inl x1), some (.inl x2)] [] m = _
  refine Eq.trans (li_iload_n d250_9 (by rfl)) ?_
  refine Eq.trans (li_aload_n d250_10 (by rfl)) ?_
  refine Eq.trans (li_getr d250_11 fa_12_7 h0 rfl rfl rfl (by decide)) ?_
  refine Eq.trans (li_iconst d250_14 ic_2) ?_
  refine Eq.trans (li_iald d250_15 (sf_of h0 0 (by decide) (by decide))) ?_
  refine lt_gd_c (fun g1 => ?_)
  refine Eq.trans (li_icmp_ge (t := 43) d250_16 (by rfl)) ?_
  refine lt_ite (fun c1 => ?_) (fun c1 => ?_)
  · refine Eq.trans (li_aload_n d250_43 (by rfl)) ?_
    refine Eq.trans (li_iconst d250_44 ic_0) ?_
    refine Eq.trans (li_puti d250_45 fa_12_70 h0 rfl rfl) ?_
    refine Eq.trans (li_aload_n d250_48 (by rfl)) ?_
    refine Eq.trans (li_iload_n d250_49 (by rfl)) ?_
    refine Eq.trans (li_isI d250_50 bi_12_213 ca_12_213 kd_206 (by rfl) (by rfl) (Nat.le_of_ble_eq_true rfl) (Nat.le_of_ble_eq_true rfl)) ?_
    refine lt_cI_c (fun v1 m1 => ?_)
    refine Eq.trans (li_i2l d250_53) ?_
    refine Eq.trans (li_ivV d250_54 ca_12_194 kd_202 kl_202 (by rfl) (by rfl) h0 (Nat.le_of_ble_eq_true rfl) (Nat.le_of_ble_eq_true rfl)) ?_
    refine lt_cV_c (fun m2 => ?_)
    refine Eq.trans (li_iload_n d250_57 (by rfl)) ?_
    exact li_iret d250_58 rfl
  · refine Eq.trans (li_iload_n d250_19 (by rfl)) ?_
    refine Eq.trans (li_aload_n d250_20 (by rfl)) ?_
    refine Eq.trans (li_iload_n d250_21 (by rfl)) ?_
    refine Eq.trans (li_ivI d250_22 ca_12_301 kd_251 kl_251 (by rfl) (by rfl) h0 (Nat.le_of_ble_eq_true rfl) (Nat.le_of_ble_eq_true rfl)) ?_
    refine lt_cI_c (fun v2 m3 => ?_)
    refine Eq.trans (li_if_eq (t := 34) d250_25 (by rfl)) ?_
    refine lt_ite (fun c2 => ?_) (fun c2 => ?_)
    · refine Eq.trans (li_iconst d250_34 ic_0) ?_
      refine Eq.trans (li_ior d250_35) ?_
      refine Eq.trans (li_istore_n (ls' := [some (.inr (.inr (some a0))), some (.inl (x1 ||| (0 : Int32))), some (.inl x2)]) d250_36 (by decide) (by rfl)) ?_
      refine Eq.trans (li_iinc (ls' := [some (.inr (.inr (some a0))), some (.inl (x1 ||| (0 : Int32))), some (.inl (x2 + (1 : Int32)))]) d250_37 (by rfl) (by decide) ic_1 (by rfl)) ?_
      refine Eq.trans (li_goto (t := 9) d250_40 (by rfl)) ?_
      rfl
    · refine Eq.trans (li_iconst d250_28 ic_1) ?_
      refine Eq.trans (li_iload_n d250_29 (by rfl)) ?_
      refine Eq.trans (li_ishl d250_30) ?_
      refine Eq.trans (li_goto (t := 35) d250_31 (by rfl)) ?_
      refine Eq.trans (li_ior d250_35) ?_
      refine Eq.trans (li_istore_n (ls' := [some (.inr (.inr (some a0))), some (.inl (x1 ||| ((1 : Int32) <<< (x2 &&& 31)))), some (.inl x2)]) d250_36 (by decide) (by rfl)) ?_
      refine Eq.trans (li_iinc (ls' := [some (.inr (.inr (some a0))), some (.inl (x1 ||| ((1 : Int32) <<< (x2 &&& 31)))), some (.inl (x2 + (1 : Int32)))]) d250_37 (by rfl) (by decide) ic_1 (by rfl)) ?_
      refine Eq.trans (li_goto (t := 9) d250_40 (by rfl)) ?_
      rfl
/-! TransitSealsModel.isLate(I)Z -/
theorem d251_0 : decode Y251.2.1 0 = .ok (.aload_n 0, 1) := by decide +kernel
theorem d251_1 : decode Y251.2.1 1 = .ok (.iload_n 1, 1) := by decide +kernel
theorem d251_2 : decode Y251.2.1 2 = .ok (.invokevirtual 87, 3) := by decide +kernel
theorem d251_5 : decode Y251.2.1 5 = .ok (.ifCond .ne 21, 3) := by decide +kernel
theorem d251_8 : decode Y251.2.1 8 = .ok (.aload_n 0, 1) := by decide +kernel
theorem d251_9 : decode Y251.2.1 9 = .ok (.iload_n 1, 1) := by decide +kernel
theorem d251_10 : decode Y251.2.1 10 = .ok (.invokevirtual 298, 3) := by decide +kernel
theorem d251_13 : decode Y251.2.1 13 = .ok (.aload_n 0, 1) := by decide +kernel
theorem d251_14 : decode Y251.2.1 14 = .ok (.iload_n 1, 1) := by decide +kernel
theorem d251_15 : decode Y251.2.1 15 = .ok (.iconst 5, 1) := by decide +kernel
theorem d251_16 : decode Y251.2.1 16 = .ok (.invokevirtual 83, 3) := by decide +kernel
theorem d251_19 : decode Y251.2.1 19 = .ok (.if_icmp .le 7, 3) := by decide +kernel
theorem d251_22 : decode Y251.2.1 22 = .ok (.iconst 1, 1) := by decide +kernel
theorem d251_23 : decode Y251.2.1 23 = .ok (.goto 4, 3) := by decide +kernel
theorem d251_26 : decode Y251.2.1 26 = .ok (.iconst 0, 1) := by decide +kernel
theorem d251_27 : decode Y251.2.1 27 = .ok (.ireturn, 1) := by decide +kernel
theorem E251 (d : Nat) (a0 : Nat) (x1 : Int32) (h0 : ts_sh a0 = (0, 12)) (m : lt_m) : lt_ev (d + 1) 251 [.inr (.inr (some a0)), .inl x1] m = lt_cI (lt_ev d 197 [.inr (.inr (some a0)), .inl x1] m) (fun v1 m1 => (if ¬ v1 = 0 then (some (some (.inl (0 : Int32)), m1)) else (lt_cI (lt_ev d 252 [.inr (.inr (some a0)), .inl x1] m1) (fun v2 m2 => (lt_cI (lt_ev d 198 [.inr (.inr (some a0)), .inl x1, .inl (5 : Int32)] m2) (fun v3 m3 => (if v2 ≤ v3 then (some (some (.inl (0 : Int32)), m3)) else (some (some (.inl (1 : Int32)), m3))))))))) := by
  refine Eq.trans (lt_enter2 (ls := [some (.inr (.inr (some a0))), some (.inl x1)]) hY251 (Nat.le_of_ble_eq_true rfl) (by rfl)) ?_
  refine Eq.trans (li_aload_n d251_0 (by rfl)) ?_
  refine Eq.trans (li_iload_n d251_1 (by rfl)) ?_
  refine Eq.trans (li_ivI d251_2 ca_12_87 kd_197 kl_197 (by rfl) (by rfl) h0 (Nat.le_of_ble_eq_true rfl) (Nat.le_of_ble_eq_true rfl)) ?_
  refine lt_cI_c (fun v1 m1 => ?_)
  refine Eq.trans (li_if_ne (t := 26) d251_5 (by rfl)) ?_
  refine lt_ite (fun c1 => ?_) (fun c1 => ?_)
  · refine Eq.trans (li_iconst d251_26 ic_0) ?_
    exact li_zret d251_27 rfl (by decide)
  · refine Eq.trans (li_aload_n d251_8 (by rfl)) ?_
    refine Eq.trans (li_iload_n d251_9 (by rfl)) ?_
    refine Eq.trans (li_ivI d251_10 ca_12_298 kd_252 kl_252 (by rfl) (by rfl) h0 (Nat.le_of_ble_eq_true rfl) (Nat.le_of_ble_eq_true rfl)) ?_
    refine lt_cI_c (fun v2 m2 => ?_)
    refine Eq.trans (li_aload_n d251_13 (by rfl)) ?_
    refine Eq.trans (li_iload_n d251_14 (by rfl)) ?_
    refine Eq.trans (li_iconst d251_15 ic_5) ?_
    refine Eq.trans (li_ivI d251_16 ca_12_83 kd_198 kl_198 (by rfl) (by rfl) h0 (Nat.le_of_ble_eq_true rfl) (Nat.le_of_ble_eq_true rfl)) ?_
    refine lt_cI_c (fun v3 m3 => ?_)
    refine Eq.trans (li_icmp_le (t := 26) d251_19 (by rfl)) ?_
    refine lt_ite (fun c2 => ?_) (fun c2 => ?_)
    · refine Eq.trans (li_iconst d251_26 ic_0) ?_
      exact li_zret d251_27 rfl (by decide)
    · refine Eq.trans (li_iconst d251_22 ic_1) ?_
      refine Eq.trans (li_goto (t := 27) d251_23 (by rfl)) ?_
      exact li_zret d251_27 rfl (by decide)
/-! TransitSealsModel.endOf(I)I -/
theorem d252_0 : decode Y252.2.1 0 = .ok (.aload_n 0, 1) := by decide +kernel
theorem d252_1 : decode Y252.2.1 1 = .ok (.iload_n 1, 1) := by decide +kernel
theorem d252_2 : decode Y252.2.1 2 = .ok (.bipush 18, 2) := by decide +kernel
theorem d252_4 : decode Y252.2.1 4 = .ok (.aload_n 0, 1) := by decide +kernel
theorem d252_5 : decode Y252.2.1 5 = .ok (.iload_n 1, 1) := by decide +kernel
theorem d252_6 : decode Y252.2.1 6 = .ok (.bipush 6, 2) := by decide +kernel
theorem d252_8 : decode Y252.2.1 8 = .ok (.invokevirtual 83, 3) := by decide +kernel
theorem d252_11 : decode Y252.2.1 11 = .ok (.iadd, 1) := by decide +kernel
theorem d252_12 : decode Y252.2.1 12 = .ok (.iconst 1, 1) := by decide +kernel
theorem d252_13 : decode Y252.2.1 13 = .ok (.isub, 1) := by decide +kernel
theorem d252_14 : decode Y252.2.1 14 = .ok (.invokevirtual 83, 3) := by decide +kernel
theorem d252_17 : decode Y252.2.1 17 = .ok (.aload_n 0, 1) := by decide +kernel
theorem d252_18 : decode Y252.2.1 18 = .ok (.iload_n 1, 1) := by decide +kernel
theorem d252_19 : decode Y252.2.1 19 = .ok (.invokevirtual 293, 3) := by decide +kernel
theorem d252_22 : decode Y252.2.1 22 = .ok (.iadd, 1) := by decide +kernel
theorem d252_23 : decode Y252.2.1 23 = .ok (.ireturn, 1) := by decide +kernel
theorem E252 (d : Nat) (a0 : Nat) (x1 : Int32) (h0 : ts_sh a0 = (0, 12)) (m : lt_m) : lt_ev (d + 1) 252 [.inr (.inr (some a0)), .inl x1] m = lt_cI (lt_ev d 198 [.inr (.inr (some a0)), .inl x1, .inl (6 : Int32)] m) (fun v1 m1 => (lt_cI (lt_ev d 198 [.inr (.inr (some a0)), .inl x1, .inl (((18 : Int32) + v1) - (1 : Int32))] m1) (fun v2 m2 => (lt_cI (lt_ev d 245 [.inr (.inr (some a0)), .inl x1] m2) (fun v3 m3 => (some (some (.inl (v2 + v3)), m3))))))) := by
  refine Eq.trans (lt_enter2 (ls := [some (.inr (.inr (some a0))), some (.inl x1)]) hY252 (Nat.le_of_ble_eq_true rfl) (by rfl)) ?_
  refine Eq.trans (li_aload_n d252_0 (by rfl)) ?_
  refine Eq.trans (li_iload_n d252_1 (by rfl)) ?_
  refine Eq.trans (li_bipush d252_2 bi_18) ?_
  refine Eq.trans (li_aload_n d252_4 (by rfl)) ?_
  refine Eq.trans (li_iload_n d252_5 (by rfl)) ?_
  refine Eq.trans (li_bipush d252_6 bi_6) ?_
  refine Eq.trans (li_ivI d252_8 ca_12_83 kd_198 kl_198 (by rfl) (by rfl) h0 (Nat.le_of_ble_eq_true rfl) (Nat.le_of_ble_eq_true rfl)) ?_
  refine lt_cI_c (fun v1 m1 => ?_)
  refine Eq.trans (li_iadd d252_11) ?_
  refine Eq.trans (li_iconst d252_12 ic_1) ?_
  refine Eq.trans (li_isub d252_13) ?_
  refine Eq.trans (li_ivI d252_14 ca_12_83 kd_198 kl_198 (by rfl) (by rfl) h0 (Nat.le_of_ble_eq_true rfl) (Nat.le_of_ble_eq_true rfl)) ?_
  refine lt_cI_c (fun v2 m2 => ?_)
  refine Eq.trans (li_aload_n d252_17 (by rfl)) ?_
  refine Eq.trans (li_iload_n d252_18 (by rfl)) ?_
  refine Eq.trans (li_ivI d252_19 ca_12_293 kd_245 kl_245 (by rfl) (by rfl) h0 (Nat.le_of_ble_eq_true rfl) (Nat.le_of_ble_eq_true rfl)) ?_
  refine lt_cI_c (fun v3 m3 => ?_)
  refine Eq.trans (li_iadd d252_22) ?_
  exact li_iret d252_23 rfl
/-! TransitSealsModel.busiest()I -/
theorem d253_0 : decode Y253.2.1 0 = .ok (.aload_n 0, 1) := by decide +kernel
theorem d253_1 : decode Y253.2.1 1 = .ok (.iconst 0, 1) := by decide +kernel
theorem d253_2 : decode Y253.2.1 2 = .ok (.putfield 67, 3) := by decide +kernel
theorem d253_5 : decode Y253.2.1 5 = .ok (.bipush (-2), 2) := by decide +kernel
theorem d253_7 : decode Y253.2.1 7 = .ok (.istore_n 1, 1) := by decide +kernel
theorem d253_8 : decode Y253.2.1 8 = .ok (.iconst 0, 1) := by decide +kernel
theorem d253_9 : decode Y253.2.1 9 = .ok (.istore_n 2, 1) := by decide +kernel
theorem d253_10 : decode Y253.2.1 10 = .ok (.iconst 0, 1) := by decide +kernel
theorem d253_11 : decode Y253.2.1 11 = .ok (.istore_n 3, 1) := by decide +kernel
theorem d253_12 : decode Y253.2.1 12 = .ok (.iload_n 3, 1) := by decide +kernel
theorem d253_13 : decode Y253.2.1 13 = .ok (.aload_n 0, 1) := by decide +kernel
theorem d253_14 : decode Y253.2.1 14 = .ok (.getfield 28, 3) := by decide +kernel
theorem d253_17 : decode Y253.2.1 17 = .ok (.if_icmp .ge 118, 3) := by decide +kernel
theorem d253_20 : decode Y253.2.1 20 = .ok (.iconst 0, 1) := by decide +kernel
theorem d253_21 : decode Y253.2.1 21 = .ok (.istore 4, 2) := by decide +kernel
theorem d253_23 : decode Y253.2.1 23 = .ok (.iconst 0, 1) := by decide +kernel
theorem d253_24 : decode Y253.2.1 24 = .ok (.istore 5, 2) := by decide +kernel
theorem d253_26 : decode Y253.2.1 26 = .ok (.iload 5, 2) := by decide +kernel
theorem d253_28 : decode Y253.2.1 28 = .ok (.aload_n 0, 1) := by decide +kernel
theorem d253_29 : decode Y253.2.1 29 = .ok (.getfield 7, 3) := by decide +kernel
theorem d253_32 : decode Y253.2.1 32 = .ok (.iconst 2, 1) := by decide +kernel
theorem d253_33 : decode Y253.2.1 33 = .ok (.iaload, 1) := by decide +kernel
theorem d253_34 : decode Y253.2.1 34 = .ok (.if_icmp .ge 75, 3) := by decide +kernel
theorem d253_37 : decode Y253.2.1 37 = .ok (.aload_n 0, 1) := by decide +kernel
theorem d253_38 : decode Y253.2.1 38 = .ok (.iload 5, 2) := by decide +kernel
theorem d253_40 : decode Y253.2.1 40 = .ok (.bipush 6, 2) := by decide +kernel
theorem d253_42 : decode Y253.2.1 42 = .ok (.invokevirtual 83, 3) := by decide +kernel
theorem d253_45 : decode Y253.2.1 45 = .ok (.istore 6, 2) := by decide +kernel
theorem d253_47 : decode Y253.2.1 47 = .ok (.iload 6, 2) := by decide +kernel
theorem d253_49 : decode Y253.2.1 49 = .ok (.aload_n 0, 1) := by decide +kernel
theorem d253_50 : decode Y253.2.1 50 = .ok (.iload 5, 2) := by decide +kernel
theorem d253_52 : decode Y253.2.1 52 = .ok (.bipush 9, 2) := by decide +kernel
theorem d253_54 : decode Y253.2.1 54 = .ok (.invokevirtual 83, 3) := by decide +kernel
theorem d253_57 : decode Y253.2.1 57 = .ok (.if_icmp .ge 46, 3) := by decide +kernel
theorem d253_60 : decode Y253.2.1 60 = .ok (.aload_n 0, 1) := by decide +kernel
theorem d253_61 : decode Y253.2.1 61 = .ok (.iload 5, 2) := by decide +kernel
theorem d253_63 : decode Y253.2.1 63 = .ok (.invokevirtual 179, 3) := by decide +kernel
theorem d253_66 : decode Y253.2.1 66 = .ok (.ifCond .eq 37, 3) := by decide +kernel
theorem d253_69 : decode Y253.2.1 69 = .ok (.iload 4, 2) := by decide +kernel
theorem d253_71 : decode Y253.2.1 71 = .ok (.aload_n 0, 1) := by decide +kernel
theorem d253_72 : decode Y253.2.1 72 = .ok (.iload 5, 2) := by decide +kernel
theorem d253_74 : decode Y253.2.1 74 = .ok (.bipush 10, 2) := by decide +kernel
theorem d253_76 : decode Y253.2.1 76 = .ok (.iload 6, 2) := by decide +kernel
theorem d253_78 : decode Y253.2.1 78 = .ok (.iadd, 1) := by decide +kernel
theorem d253_79 : decode Y253.2.1 79 = .ok (.invokevirtual 83, 3) := by decide +kernel
theorem d253_82 : decode Y253.2.1 82 = .ok (.iload_n 3, 1) := by decide +kernel
theorem d253_83 : decode Y253.2.1 83 = .ok (.if_icmp .ne 10, 3) := by decide +kernel
theorem d253_86 : decode Y253.2.1 86 = .ok (.iconst 1, 1) := by decide +kernel
theorem d253_87 : decode Y253.2.1 87 = .ok (.iload 5, 2) := by decide +kernel
theorem d253_89 : decode Y253.2.1 89 = .ok (.ishl, 1) := by decide +kernel
theorem d253_90 : decode Y253.2.1 90 = .ok (.goto 4, 3) := by decide +kernel
theorem d253_93 : decode Y253.2.1 93 = .ok (.iconst 0, 1) := by decide +kernel
theorem d253_94 : decode Y253.2.1 94 = .ok (.ior, 1) := by decide +kernel
theorem d253_95 : decode Y253.2.1 95 = .ok (.istore 4, 2) := by decide +kernel
theorem d253_97 : decode Y253.2.1 97 = .ok (.iinc 6 1, 3) := by decide +kernel
theorem d253_100 : decode Y253.2.1 100 = .ok (.goto (-53), 3) := by decide +kernel
theorem d253_103 : decode Y253.2.1 103 = .ok (.iinc 5 1, 3) := by decide +kernel
theorem d253_106 : decode Y253.2.1 106 = .ok (.goto (-80), 3) := by decide +kernel
theorem d253_109 : decode Y253.2.1 109 = .ok (.iload 4, 2) := by decide +kernel
theorem d253_111 : decode Y253.2.1 111 = .ok (.invokestatic 213, 3) := by decide +kernel
theorem d253_114 : decode Y253.2.1 114 = .ok (.iload_n 2, 1) := by decide +kernel
theorem d253_115 : decode Y253.2.1 115 = .ok (.invokestatic 213, 3) := by decide +kernel
theorem d253_118 : decode Y253.2.1 118 = .ok (.if_icmp .gt 6, 3) := by decide +kernel
theorem d253_121 : decode Y253.2.1 121 = .ok (.goto 8, 3) := by decide +kernel
theorem d253_124 : decode Y253.2.1 124 = .ok (.iload_n 3, 1) := by decide +kernel
theorem d253_125 : decode Y253.2.1 125 = .ok (.istore_n 1, 1) := by decide +kernel
theorem d253_126 : decode Y253.2.1 126 = .ok (.iload 4, 2) := by decide +kernel
theorem d253_128 : decode Y253.2.1 128 = .ok (.istore_n 2, 1) := by decide +kernel
theorem d253_129 : decode Y253.2.1 129 = .ok (.iinc 3 1, 3) := by decide +kernel
theorem d253_132 : decode Y253.2.1 132 = .ok (.goto (-120), 3) := by decide +kernel
theorem d253_135 : decode Y253.2.1 135 = .ok (.iload_n 1, 1) := by decide +kernel
theorem d253_136 : decode Y253.2.1 136 = .ok (.bipush (-2), 2) := by decide +kernel
theorem d253_138 : decode Y253.2.1 138 = .ok (.if_icmp .ne 6, 3) := by decide +kernel
theorem d253_141 : decode Y253.2.1 141 = .ok (.bipush (-2), 2) := by decide +kernel
theorem d253_143 : decode Y253.2.1 143 = .ok (.ireturn, 1) := by decide +kernel
theorem d253_144 : decode Y253.2.1 144 = .ok (.aload_n 0, 1) := by decide +kernel
theorem d253_145 : decode Y253.2.1 145 = .ok (.iconst 0, 1) := by decide +kernel
theorem d253_146 : decode Y253.2.1 146 = .ok (.putfield 70, 3) := by decide +kernel
theorem d253_149 : decode Y253.2.1 149 = .ok (.aload_n 0, 1) := by decide +kernel
theorem d253_150 : decode Y253.2.1 150 = .ok (.iload_n 2, 1) := by decide +kernel
theorem d253_151 : decode Y253.2.1 151 = .ok (.i2l, 1) := by decide +kernel
theorem d253_152 : decode Y253.2.1 152 = .ok (.invokevirtual 194, 3) := by decide +kernel
theorem d253_155 : decode Y253.2.1 155 = .ok (.iload_n 1, 1) := by decide +kernel
theorem d253_156 : decode Y253.2.1 156 = .ok (.ireturn, 1) := by decide +kernel
noncomputable def L253_12 (d : Nat) (a0 : Nat) (x1 : Int32) (x2 : Int32) (x3 : Int32) (o4 : Option ts_V) (o5 : Option ts_V) (o6 : Option ts_V) (m : lt_m) : Option lt_r := lt_run d Y253 12 [some (.inr (.inr (some a0))), some (.inl x1), some (.inl x2), some (.inl x3), o4, o5, o6] [] m
noncomputable def L253_26 (d : Nat) (a0 : Nat) (x1 : Int32) (x2 : Int32) (x3 : Int32) (x4 : Int32) (x5 : Int32) (o6 : Option ts_V) (m : lt_m) : Option lt_r := lt_run d Y253 26 [some (.inr (.inr (some a0))), some (.inl x1), some (.inl x2), some (.inl x3), some (.inl x4), some (.inl x5), o6] [] m
noncomputable def L253_47 (d : Nat) (a0 : Nat) (x1 : Int32) (x2 : Int32) (x3 : Int32) (x4 : Int32) (x5 : Int32) (x6 : Int32) (m : lt_m) : Option lt_r := lt_run d Y253 47 [some (.inr (.inr (some a0))), some (.inl x1), some (.inl x2), some (.inl x3), some (.inl x4), some (.inl x5), some (.inl x6)] [] m
theorem E253 (d : Nat) (a0 : Nat) (h0 : ts_sh a0 = (0, 12)) (m : lt_m) : lt_ev (d + 1) 253 [.inr (.inr (some a0))] m = L253_12 d a0 (-2 : Int32) (0 : Int32) (0 : Int32) none none none (lm_i m a0 15 (0 : Int32)) := by
  refine Eq.trans (lt_enter2 (ls := [some (.inr (.inr (some a0))), none, none, none, none, none, none]) hY253 (Nat.le_of_ble_eq_true rfl) (by rfl)) ?_
  refine Eq.trans (li_aload_n d253_0 (by rfl)) ?_
  refine Eq.trans (li_iconst d253_1 ic_0) ?_
  refine Eq.trans (li_puti d253_2 fa_12_67 h0 rfl rfl) ?_
  refine Eq.trans (li_bipush d253_5 bi_n2) ?_
  refine Eq.trans (li_istore_n (ls' := [some (.inr (.inr (some a0))), some (.inl (-2 : Int32)), none, none, none, none, none]) d253_7 (by decide) (by rfl)) ?_
  refine Eq.trans (li_iconst d253_8 ic_0) ?_
  refine Eq.trans (li_istore_n (ls' := [some (.inr (.inr (some a0))), some (.inl (-2 : Int32)), some (.inl (0 : Int32)), none, none, none, none]) d253_9 (by decide) (by rfl)) ?_
  refine Eq.trans (li_iconst d253_10 ic_0) ?_
  refine Eq.trans (li_istore_n (ls' := [some (.inr (.inr (some a0))), some (.inl (-2 : Int32)), some (.inl (0 : Int32)), some (.inl (0 : Int32)), none, none, none]) d253_11 (by decide) (by rfl)) ?_
  rfl
theorem E253_12 (d : Nat) (a0 : Nat) (x1 : Int32) (x2 : Int32) (x3 : Int32) (o4 : Option ts_V) (o5 : Option ts_V) (o6 : Option ts_V) (h0 : ts_sh a0 = (0, 12)) (m : lt_m) : L253_12 d a0 x1 x2 x3 o4 o5 o6 m = if (m.1 a0 8) ≤ x3 then (if ¬ x1 = (-2 : Int32) then (lt_cV (lt_ev d 202 [.inr (.inr (some a0)), .inr (.inl ((x2).toInt64))] (lm_i m a0 14 (0 : Int32))) (fun m1 => (some (some (.inl x1), m1)))) else (some (some (.inl (-2 : Int32)), m))) else (L253_26 d a0 x1 x2 x3 (0 : Int32) (0 : Int32) (o6) m) := by
  show lt_run d Y253 12 [some (.inr (.inr (some a0))), some (.inl x1), some (.inl x2), some (.inl x3), o4, o5, o6] [] m = _
  refine Eq.trans (li_iload_n d253_12 (by rfl)) ?_
  refine Eq.trans (li_aload_n d253_13 (by rfl)) ?_
  refine Eq.trans (li_geti d253_14 fa_12_28 h0 rfl) ?_
  refine Eq.trans (li_icmp_ge (t := 135) d253_17 (by rfl)) ?_
  refine lt_ite (fun c1 => ?_) (fun c1 => ?_)
  · refine Eq.trans (li_iload_n d253_135 (by rfl)) ?_
    refine Eq.trans (li_bipush d253_136 bi_n2) ?_
    refine Eq.trans (li_icmp_ne (t := 144) d253_138 (by rfl)) ?_
    refine lt_ite (fun c2 => ?_) (fun c2 => ?_)
    · refine Eq.trans (li_aload_n d253_144 (by rfl)) ?_
      refine Eq.trans (li_iconst d253_145 ic_0) ?_
      refine Eq.trans (li_puti d253_146 fa_12_70 h0 rfl rfl) ?_
      refine Eq.trans (li_aload_n d253_149 (by rfl)) ?_
      refine Eq.trans (li_iload_n d253_150 (by rfl)) ?_
      refine Eq.trans (li_i2l d253_151) ?_
      refine Eq.trans (li_ivV d253_152 ca_12_194 kd_202 kl_202 (by rfl) (by rfl) h0 (Nat.le_of_ble_eq_true rfl) (Nat.le_of_ble_eq_true rfl)) ?_
      refine lt_cV_c (fun m1 => ?_)
      refine Eq.trans (li_iload_n d253_155 (by rfl)) ?_
      exact li_iret d253_156 rfl
    · refine Eq.trans (li_bipush d253_141 bi_n2) ?_
      exact li_iret d253_143 rfl
  · refine Eq.trans (li_iconst d253_20 ic_0) ?_
    refine Eq.trans (li_istore (ls' := [some (.inr (.inr (some a0))), some (.inl x1), some (.inl x2), some (.inl x3), some (.inl (0 : Int32)), o5, o6]) d253_21 (by decide) (by rfl)) ?_
    refine Eq.trans (li_iconst d253_23 ic_0) ?_
    refine Eq.trans (li_istore (ls' := [some (.inr (.inr (some a0))), some (.inl x1), some (.inl x2), some (.inl x3), some (.inl (0 : Int32)), some (.inl (0 : Int32)), o6]) d253_24 (by decide) (by rfl)) ?_
    rfl
theorem E253_26 (d : Nat) (a0 : Nat) (x1 : Int32) (x2 : Int32) (x3 : Int32) (x4 : Int32) (x5 : Int32) (o6 : Option ts_V) (h0 : ts_sh a0 = (0, 12)) (m : lt_m) : L253_26 d a0 x1 x2 x3 x4 x5 o6 m = lt_gd (0 ≤ (2 : Int32) ∧ ((2 : Int32)).toNatClampNeg < 626) (if (m.1 (a0 + 1) ((2 : Int32)).toNatClampNeg) ≤ x5 then (lt_cI (lt_ev d 206 [.inl x4] m) (fun v1 m1 => (lt_cI (lt_ev d 206 [.inl x2] m1) (fun v2 m2 => (if v2 < v1 then (L253_12 d a0 x3 x4 (x3 + (1 : Int32)) (some (.inl x4)) (some (.inl x5)) (o6) m2) else (L253_12 d a0 x1 x2 (x3 + (1 : Int32)) (some (.inl x4)) (some (.inl x5)) (o6) m2)))))) else (lt_cI (lt_ev d 198 [.inr (.inr (some a0)), .inl x5, .inl (6 : Int32)] m) (fun v3 m3 => (L253_47 d a0 x1 x2 x3 x4 x5 v3 m3)))) := by
  show lt_run d Y253 26 [some (.inr (.inr (some a0))), some (.inl x1), some (.inl x2), some (.inl x3), some (.inl x4), some (.inl x5), o6] [] m = _
  refine Eq.trans (li_iload d253_26 (by rfl)) ?_
  refine Eq.trans (li_aload_n d253_28 (by rfl)) ?_
  refine Eq.trans (li_getr d253_29 fa_12_7 h0 rfl rfl rfl (by decide)) ?_
  refine Eq.trans (li_iconst d253_32 ic_2) ?_
  refine Eq.trans (li_iald d253_33 (sf_of h0 0 (by decide) (by decide))) ?_
  refine lt_gd_c (fun g1 => ?_)
  refine Eq.trans (li_icmp_ge (t := 109) d253_34 (by rfl)) ?_
  refine lt_ite (fun c1 => ?_) (fun c1 => ?_)
  · refine Eq.trans (li_iload d253_109 (by rfl)) ?_
    refine Eq.trans (li_isI d253_111 bi_12_213 ca_12_213 kd_206 (by rfl) (by rfl) (Nat.le_of_ble_eq_true rfl) (Nat.le_of_ble_eq_true rfl)) ?_
    refine lt_cI_c (fun v1 m1 => ?_)
    refine Eq.trans (li_iload_n d253_114 (by rfl)) ?_
    refine Eq.trans (li_isI d253_115 bi_12_213 ca_12_213 kd_206 (by rfl) (by rfl) (Nat.le_of_ble_eq_true rfl) (Nat.le_of_ble_eq_true rfl)) ?_
    refine lt_cI_c (fun v2 m2 => ?_)
    refine Eq.trans (li_icmp_gt (t := 124) d253_118 (by rfl)) ?_
    refine lt_ite (fun c2 => ?_) (fun c2 => ?_)
    · refine Eq.trans (li_iload_n d253_124 (by rfl)) ?_
      refine Eq.trans (li_istore_n (ls' := [some (.inr (.inr (some a0))), some (.inl x3), some (.inl x2), some (.inl x3), some (.inl x4), some (.inl x5), o6]) d253_125 (by decide) (by rfl)) ?_
      refine Eq.trans (li_iload d253_126 (by rfl)) ?_
      refine Eq.trans (li_istore_n (ls' := [some (.inr (.inr (some a0))), some (.inl x3), some (.inl x4), some (.inl x3), some (.inl x4), some (.inl x5), o6]) d253_128 (by decide) (by rfl)) ?_
      refine Eq.trans (li_iinc (ls' := [some (.inr (.inr (some a0))), some (.inl x3), some (.inl x4), some (.inl (x3 + (1 : Int32))), some (.inl x4), some (.inl x5), o6]) d253_129 (by rfl) (by decide) ic_1 (by rfl)) ?_
      refine Eq.trans (li_goto (t := 12) d253_132 (by rfl)) ?_
      rfl
    · refine Eq.trans (li_goto (t := 129) d253_121 (by rfl)) ?_
      refine Eq.trans (li_iinc (ls' := [some (.inr (.inr (some a0))), some (.inl x1), some (.inl x2), some (.inl (x3 + (1 : Int32))), some (.inl x4), some (.inl x5), o6]) d253_129 (by rfl) (by decide) ic_1 (by rfl)) ?_
      refine Eq.trans (li_goto (t := 12) d253_132 (by rfl)) ?_
      rfl
  · refine Eq.trans (li_aload_n d253_37 (by rfl)) ?_
    refine Eq.trans (li_iload d253_38 (by rfl)) ?_
    refine Eq.trans (li_bipush d253_40 bi_6) ?_
    refine Eq.trans (li_ivI d253_42 ca_12_83 kd_198 kl_198 (by rfl) (by rfl) h0 (Nat.le_of_ble_eq_true rfl) (Nat.le_of_ble_eq_true rfl)) ?_
    refine lt_cI_c (fun v3 m3 => ?_)
    refine Eq.trans (li_istore (ls' := [some (.inr (.inr (some a0))), some (.inl x1), some (.inl x2), some (.inl x3), some (.inl x4), some (.inl x5), some (.inl v3)]) d253_45 (by decide) (by rfl)) ?_
    rfl
theorem E253_47 (d : Nat) (a0 : Nat) (x1 : Int32) (x2 : Int32) (x3 : Int32) (x4 : Int32) (x5 : Int32) (x6 : Int32) (h0 : ts_sh a0 = (0, 12)) (m : lt_m) : L253_47 d a0 x1 x2 x3 x4 x5 x6 m = lt_cI (lt_ev d 198 [.inr (.inr (some a0)), .inl x5, .inl (9 : Int32)] m) (fun v1 m1 => (if v1 ≤ x6 then (L253_26 d a0 x1 x2 x3 x4 (x5 + (1 : Int32)) (some (.inl x6)) m1) else (lt_cI (lt_ev d 196 [.inr (.inr (some a0)), .inl x5] m1) (fun v2 m2 => (if v2 = 0 then (L253_26 d a0 x1 x2 x3 x4 (x5 + (1 : Int32)) (some (.inl x6)) m2) else (lt_cI (lt_ev d 198 [.inr (.inr (some a0)), .inl x5, .inl ((10 : Int32) + x6)] m2) (fun v3 m3 => (if ¬ v3 = x3 then (L253_47 d a0 x1 x2 x3 (x4 ||| (0 : Int32)) x5 (x6 + (1 : Int32)) m3) else (L253_47 d a0 x1 x2 x3 (x4 ||| ((1 : Int32) <<< (x5 &&& 31))) x5 (x6 + (1 : Int32)) m3))))))))) := by
  show lt_run d Y253 47 [some (.inr (.inr (some a0))), some (.inl x1), some (.inl x2), some (.inl x3), some (.inl x4), some (.inl x5), some (.inl x6)] [] m = _
  refine Eq.trans (li_iload d253_47 (by rfl)) ?_
  refine Eq.trans (li_aload_n d253_49 (by rfl)) ?_
  refine Eq.trans (li_iload d253_50 (by rfl)) ?_
  refine Eq.trans (li_bipush d253_52 bi_9) ?_
  refine Eq.trans (li_ivI d253_54 ca_12_83 kd_198 kl_198 (by rfl) (by rfl) h0 (Nat.le_of_ble_eq_true rfl) (Nat.le_of_ble_eq_true rfl)) ?_
  refine lt_cI_c (fun v1 m1 => ?_)
  refine Eq.trans (li_icmp_ge (t := 103) d253_57 (by rfl)) ?_
  refine lt_ite (fun c1 => ?_) (fun c1 => ?_)
  · refine Eq.trans (li_iinc (ls' := [some (.inr (.inr (some a0))), some (.inl x1), some (.inl x2), some (.inl x3), some (.inl x4), some (.inl (x5 + (1 : Int32))), some (.inl x6)]) d253_103 (by rfl) (by decide) ic_1 (by rfl)) ?_
    refine Eq.trans (li_goto (t := 26) d253_106 (by rfl)) ?_
    rfl
  · refine Eq.trans (li_aload_n d253_60 (by rfl)) ?_
    refine Eq.trans (li_iload d253_61 (by rfl)) ?_
    refine Eq.trans (li_ivI d253_63 ca_12_179 kd_196 kl_196 (by rfl) (by rfl) h0 (Nat.le_of_ble_eq_true rfl) (Nat.le_of_ble_eq_true rfl)) ?_
    refine lt_cI_c (fun v2 m2 => ?_)
    refine Eq.trans (li_if_eq (t := 103) d253_66 (by rfl)) ?_
    refine lt_ite (fun c2 => ?_) (fun c2 => ?_)
    · refine Eq.trans (li_iinc (ls' := [some (.inr (.inr (some a0))), some (.inl x1), some (.inl x2), some (.inl x3), some (.inl x4), some (.inl (x5 + (1 : Int32))), some (.inl x6)]) d253_103 (by rfl) (by decide) ic_1 (by rfl)) ?_
      refine Eq.trans (li_goto (t := 26) d253_106 (by rfl)) ?_
      rfl
    · refine Eq.trans (li_iload d253_69 (by rfl)) ?_
      refine Eq.trans (li_aload_n d253_71 (by rfl)) ?_
      refine Eq.trans (li_iload d253_72 (by rfl)) ?_
      refine Eq.trans (li_bipush d253_74 bi_10) ?_
      refine Eq.trans (li_iload d253_76 (by rfl)) ?_
      refine Eq.trans (li_iadd d253_78) ?_
      refine Eq.trans (li_ivI d253_79 ca_12_83 kd_198 kl_198 (by rfl) (by rfl) h0 (Nat.le_of_ble_eq_true rfl) (Nat.le_of_ble_eq_true rfl)) ?_
      refine lt_cI_c (fun v3 m3 => ?_)
      refine Eq.trans (li_iload_n d253_82 (by rfl)) ?_
      refine Eq.trans (li_icmp_ne (t := 93) d253_83 (by rfl)) ?_
      refine lt_ite (fun c3 => ?_) (fun c3 => ?_)
      · refine Eq.trans (li_iconst d253_93 ic_0) ?_
        refine Eq.trans (li_ior d253_94) ?_
        refine Eq.trans (li_istore (ls' := [some (.inr (.inr (some a0))), some (.inl x1), some (.inl x2), some (.inl x3), some (.inl (x4 ||| (0 : Int32))), some (.inl x5), some (.inl x6)]) d253_95 (by decide) (by rfl)) ?_
        refine Eq.trans (li_iinc (ls' := [some (.inr (.inr (some a0))), some (.inl x1), some (.inl x2), some (.inl x3), some (.inl (x4 ||| (0 : Int32))), some (.inl x5), some (.inl (x6 + (1 : Int32)))]) d253_97 (by rfl) (by decide) ic_1 (by rfl)) ?_
        refine Eq.trans (li_goto (t := 47) d253_100 (by rfl)) ?_
        rfl
      · refine Eq.trans (li_iconst d253_86 ic_1) ?_
        refine Eq.trans (li_iload d253_87 (by rfl)) ?_
        refine Eq.trans (li_ishl d253_89) ?_
        refine Eq.trans (li_goto (t := 94) d253_90 (by rfl)) ?_
        refine Eq.trans (li_ior d253_94) ?_
        refine Eq.trans (li_istore (ls' := [some (.inr (.inr (some a0))), some (.inl x1), some (.inl x2), some (.inl x3), some (.inl (x4 ||| ((1 : Int32) <<< (x5 &&& 31)))), some (.inl x5), some (.inl x6)]) d253_95 (by decide) (by rfl)) ?_
        refine Eq.trans (li_iinc (ls' := [some (.inr (.inr (some a0))), some (.inl x1), some (.inl x2), some (.inl x3), some (.inl (x4 ||| ((1 : Int32) <<< (x5 &&& 31)))), some (.inl x5), some (.inl (x6 + (1 : Int32)))]) d253_97 (by rfl) (by decide) ic_1 (by rfl)) ?_
        refine Eq.trans (li_goto (t := 47) d253_100 (by rfl)) ?_
        rfl
/-! TransitSealsModel.next(I)I -/
theorem d254_0 : decode Y254.2.1 0 = .ok (.aload_n 0, 1) := by decide +kernel
theorem d254_1 : decode Y254.2.1 1 = .ok (.iconst 0, 1) := by decide +kernel
theorem d254_2 : decode Y254.2.1 2 = .ok (.putfield 67, 3) := by decide +kernel
theorem d254_5 : decode Y254.2.1 5 = .ok (.aload_n 0, 1) := by decide +kernel
theorem d254_6 : decode Y254.2.1 6 = .ok (.iload_n 1, 1) := by decide +kernel
theorem d254_7 : decode Y254.2.1 7 = .ok (.invokevirtual 174, 3) := by decide +kernel
theorem d254_10 : decode Y254.2.1 10 = .ok (.ifCond .ne 5, 3) := by decide +kernel
theorem d254_13 : decode Y254.2.1 13 = .ok (.iconst (-1), 1) := by decide +kernel
theorem d254_14 : decode Y254.2.1 14 = .ok (.ireturn, 1) := by decide +kernel
theorem d254_15 : decode Y254.2.1 15 = .ok (.iconst 0, 1) := by decide +kernel
theorem d254_16 : decode Y254.2.1 16 = .ok (.istore_n 2, 1) := by decide +kernel
theorem d254_17 : decode Y254.2.1 17 = .ok (.iconst 0, 1) := by decide +kernel
theorem d254_18 : decode Y254.2.1 18 = .ok (.istore_n 3, 1) := by decide +kernel
theorem d254_19 : decode Y254.2.1 19 = .ok (.iconst 0, 1) := by decide +kernel
theorem d254_20 : decode Y254.2.1 20 = .ok (.istore 4, 2) := by decide +kernel
theorem d254_22 : decode Y254.2.1 22 = .ok (.iload 4, 2) := by decide +kernel
theorem d254_24 : decode Y254.2.1 24 = .ok (.aload_n 0, 1) := by decide +kernel
theorem d254_25 : decode Y254.2.1 25 = .ok (.getfield 7, 3) := by decide +kernel
theorem d254_28 : decode Y254.2.1 28 = .ok (.iconst 2, 1) := by decide +kernel
theorem d254_29 : decode Y254.2.1 29 = .ok (.iaload, 1) := by decide +kernel
theorem d254_30 : decode Y254.2.1 30 = .ok (.if_icmp .ge 59, 3) := by decide +kernel
theorem d254_33 : decode Y254.2.1 33 = .ok (.aload_n 0, 1) := by decide +kernel
theorem d254_34 : decode Y254.2.1 34 = .ok (.iload 4, 2) := by decide +kernel
theorem d254_36 : decode Y254.2.1 36 = .ok (.invokevirtual 179, 3) := by decide +kernel
theorem d254_39 : decode Y254.2.1 39 = .ok (.ifCond .eq 44, 3) := by decide +kernel
theorem d254_42 : decode Y254.2.1 42 = .ok (.aload_n 0, 1) := by decide +kernel
theorem d254_43 : decode Y254.2.1 43 = .ok (.iload 4, 2) := by decide +kernel
theorem d254_45 : decode Y254.2.1 45 = .ok (.bipush 10, 2) := by decide +kernel
theorem d254_47 : decode Y254.2.1 47 = .ok (.aload_n 0, 1) := by decide +kernel
theorem d254_48 : decode Y254.2.1 48 = .ok (.iload 4, 2) := by decide +kernel
theorem d254_50 : decode Y254.2.1 50 = .ok (.bipush 6, 2) := by decide +kernel
theorem d254_52 : decode Y254.2.1 52 = .ok (.invokevirtual 83, 3) := by decide +kernel
theorem d254_55 : decode Y254.2.1 55 = .ok (.iadd, 1) := by decide +kernel
theorem d254_56 : decode Y254.2.1 56 = .ok (.invokevirtual 83, 3) := by decide +kernel
theorem d254_59 : decode Y254.2.1 59 = .ok (.iload_n 1, 1) := by decide +kernel
theorem d254_60 : decode Y254.2.1 60 = .ok (.if_icmp .eq 6, 3) := by decide +kernel
theorem d254_63 : decode Y254.2.1 63 = .ok (.goto 20, 3) := by decide +kernel
theorem d254_66 : decode Y254.2.1 66 = .ok (.iload_n 2, 1) := by decide +kernel
theorem d254_67 : decode Y254.2.1 67 = .ok (.iconst 1, 1) := by decide +kernel
theorem d254_68 : decode Y254.2.1 68 = .ok (.iload 4, 2) := by decide +kernel
theorem d254_70 : decode Y254.2.1 70 = .ok (.ishl, 1) := by decide +kernel
theorem d254_71 : decode Y254.2.1 71 = .ok (.ior, 1) := by decide +kernel
theorem d254_72 : decode Y254.2.1 72 = .ok (.istore_n 2, 1) := by decide +kernel
theorem d254_73 : decode Y254.2.1 73 = .ok (.iload_n 3, 1) := by decide +kernel
theorem d254_74 : decode Y254.2.1 74 = .ok (.aload_n 0, 1) := by decide +kernel
theorem d254_75 : decode Y254.2.1 75 = .ok (.iload 4, 2) := by decide +kernel
theorem d254_77 : decode Y254.2.1 77 = .ok (.iconst 2, 1) := by decide +kernel
theorem d254_78 : decode Y254.2.1 78 = .ok (.invokevirtual 83, 3) := by decide +kernel
theorem d254_81 : decode Y254.2.1 81 = .ok (.iadd, 1) := by decide +kernel
theorem d254_82 : decode Y254.2.1 82 = .ok (.istore_n 3, 1) := by decide +kernel
theorem d254_83 : decode Y254.2.1 83 = .ok (.iinc 4 1, 3) := by decide +kernel
theorem d254_86 : decode Y254.2.1 86 = .ok (.goto (-64), 3) := by decide +kernel
theorem d254_89 : decode Y254.2.1 89 = .ok (.aload_n 0, 1) := by decide +kernel
theorem d254_90 : decode Y254.2.1 90 = .ok (.iconst 0, 1) := by decide +kernel
theorem d254_91 : decode Y254.2.1 91 = .ok (.putfield 70, 3) := by decide +kernel
theorem d254_94 : decode Y254.2.1 94 = .ok (.aload_n 0, 1) := by decide +kernel
theorem d254_95 : decode Y254.2.1 95 = .ok (.iload_n 2, 1) := by decide +kernel
theorem d254_96 : decode Y254.2.1 96 = .ok (.invokestatic 213, 3) := by decide +kernel
theorem d254_99 : decode Y254.2.1 99 = .ok (.i2l, 1) := by decide +kernel
theorem d254_100 : decode Y254.2.1 100 = .ok (.invokevirtual 194, 3) := by decide +kernel
theorem d254_103 : decode Y254.2.1 103 = .ok (.aload_n 0, 1) := by decide +kernel
theorem d254_104 : decode Y254.2.1 104 = .ok (.iload_n 3, 1) := by decide +kernel
theorem d254_105 : decode Y254.2.1 105 = .ok (.i2l, 1) := by decide +kernel
theorem d254_106 : decode Y254.2.1 106 = .ok (.invokevirtual 194, 3) := by decide +kernel
theorem d254_109 : decode Y254.2.1 109 = .ok (.iload_n 2, 1) := by decide +kernel
theorem d254_110 : decode Y254.2.1 110 = .ok (.ireturn, 1) := by decide +kernel
noncomputable def L254_22 (d : Nat) (a0 : Nat) (x1 : Int32) (x2 : Int32) (x3 : Int32) (x4 : Int32) (m : lt_m) : Option lt_r := lt_run d Y254 22 [some (.inr (.inr (some a0))), some (.inl x1), some (.inl x2), some (.inl x3), some (.inl x4)] [] m
theorem E254 (d : Nat) (a0 : Nat) (x1 : Int32) (h0 : ts_sh a0 = (0, 12)) (m : lt_m) : lt_ev (d + 1) 254 [.inr (.inr (some a0)), .inl x1] m = lt_cI (lt_ev d 193 [.inr (.inr (some a0)), .inl x1] (lm_i m a0 15 (0 : Int32))) (fun v1 m1 => (if ¬ v1 = 0 then (L254_22 d a0 x1 (0 : Int32) (0 : Int32) (0 : Int32) m1) else (some (some (.inl (-1 : Int32)), m1)))) := by
  refine Eq.trans (lt_enter2 (ls := [some (.inr (.inr (some a0))), some (.inl x1), none, none, none]) hY254 (Nat.le_of_ble_eq_true rfl) (by rfl)) ?_
  refine Eq.trans (li_aload_n d254_0 (by rfl)) ?_
  refine Eq.trans (li_iconst d254_1 ic_0) ?_
  refine Eq.trans (li_puti d254_2 fa_12_67 h0 rfl rfl) ?_
  refine Eq.trans (li_aload_n d254_5 (by rfl)) ?_
  refine Eq.trans (li_iload_n d254_6 (by rfl)) ?_
  refine Eq.trans (li_ivI d254_7 ca_12_174 kd_193 kl_193 (by rfl) (by rfl) h0 (Nat.le_of_ble_eq_true rfl) (Nat.le_of_ble_eq_true rfl)) ?_
  refine lt_cI_c (fun v1 m1 => ?_)
  refine Eq.trans (li_if_ne (t := 15) d254_10 (by rfl)) ?_
  refine lt_ite (fun c1 => ?_) (fun c1 => ?_)
  · refine Eq.trans (li_iconst d254_15 ic_0) ?_
    refine Eq.trans (li_istore_n (ls' := [some (.inr (.inr (some a0))), some (.inl x1), some (.inl (0 : Int32)), none, none]) d254_16 (by decide) (by rfl)) ?_
    refine Eq.trans (li_iconst d254_17 ic_0) ?_
    refine Eq.trans (li_istore_n (ls' := [some (.inr (.inr (some a0))), some (.inl x1), some (.inl (0 : Int32)), some (.inl (0 : Int32)), none]) d254_18 (by decide) (by rfl)) ?_
    refine Eq.trans (li_iconst d254_19 ic_0) ?_
    refine Eq.trans (li_istore (ls' := [some (.inr (.inr (some a0))), some (.inl x1), some (.inl (0 : Int32)), some (.inl (0 : Int32)), some (.inl (0 : Int32))]) d254_20 (by decide) (by rfl)) ?_
    rfl
  · refine Eq.trans (li_iconst d254_13 ic_n1) ?_
    exact li_iret d254_14 rfl
theorem E254_22 (d : Nat) (a0 : Nat) (x1 : Int32) (x2 : Int32) (x3 : Int32) (x4 : Int32) (h0 : ts_sh a0 = (0, 12)) (m : lt_m) : L254_22 d a0 x1 x2 x3 x4 m = lt_gd (0 ≤ (2 : Int32) ∧ ((2 : Int32)).toNatClampNeg < 626) (if (m.1 (a0 + 1) ((2 : Int32)).toNatClampNeg) ≤ x4 then (lt_cI (lt_ev d 206 [.inl x2] (lm_i m a0 14 (0 : Int32))) (fun v1 m1 => (lt_cV (lt_ev d 202 [.inr (.inr (some a0)), .inr (.inl ((v1).toInt64))] m1) (fun m2 => (lt_cV (lt_ev d 202 [.inr (.inr (some a0)), .inr (.inl ((x3).toInt64))] m2) (fun m3 => (some (some (.inl x2), m3)))))))) else (lt_cI (lt_ev d 196 [.inr (.inr (some a0)), .inl x4] m) (fun v2 m4 => (if v2 = 0 then (L254_22 d a0 x1 x2 x3 (x4 + (1 : Int32)) m4) else (lt_cI (lt_ev d 198 [.inr (.inr (some a0)), .inl x4, .inl (6 : Int32)] m4) (fun v3 m5 => (lt_cI (lt_ev d 198 [.inr (.inr (some a0)), .inl x4, .inl ((10 : Int32) + v3)] m5) (fun v4 m6 => (if v4 = x1 then (lt_cI (lt_ev d 198 [.inr (.inr (some a0)), .inl x4, .inl (2 : Int32)] m6) (fun v5 m7 => (L254_22 d a0 x1 (x2 ||| ((1 : Int32) <<< (x4 &&& 31))) (x3 + v5) (x4 + (1 : Int32)) m7))) else (L254_22 d a0 x1 x2 x3 (x4 + (1 : Int32)) m6)))))))))) := by
  show lt_run d Y254 22 [some (.inr (.inr (some a0))), some (.inl x1), some (.inl x2), some (.inl x3), some (.inl x4)] [] m = _
  refine Eq.trans (li_iload d254_22 (by rfl)) ?_
  refine Eq.trans (li_aload_n d254_24 (by rfl)) ?_
  refine Eq.trans (li_getr d254_25 fa_12_7 h0 rfl rfl rfl (by decide)) ?_
  refine Eq.trans (li_iconst d254_28 ic_2) ?_
  refine Eq.trans (li_iald d254_29 (sf_of h0 0 (by decide) (by decide))) ?_
  refine lt_gd_c (fun g1 => ?_)
  refine Eq.trans (li_icmp_ge (t := 89) d254_30 (by rfl)) ?_
  refine lt_ite (fun c1 => ?_) (fun c1 => ?_)
  · refine Eq.trans (li_aload_n d254_89 (by rfl)) ?_
    refine Eq.trans (li_iconst d254_90 ic_0) ?_
    refine Eq.trans (li_puti d254_91 fa_12_70 h0 rfl rfl) ?_
    refine Eq.trans (li_aload_n d254_94 (by rfl)) ?_
    refine Eq.trans (li_iload_n d254_95 (by rfl)) ?_
    refine Eq.trans (li_isI d254_96 bi_12_213 ca_12_213 kd_206 (by rfl) (by rfl) (Nat.le_of_ble_eq_true rfl) (Nat.le_of_ble_eq_true rfl)) ?_
    refine lt_cI_c (fun v1 m1 => ?_)
    refine Eq.trans (li_i2l d254_99) ?_
    refine Eq.trans (li_ivV d254_100 ca_12_194 kd_202 kl_202 (by rfl) (by rfl) h0 (Nat.le_of_ble_eq_true rfl) (Nat.le_of_ble_eq_true rfl)) ?_
    refine lt_cV_c (fun m2 => ?_)
    refine Eq.trans (li_aload_n d254_103 (by rfl)) ?_
    refine Eq.trans (li_iload_n d254_104 (by rfl)) ?_
    refine Eq.trans (li_i2l d254_105) ?_
    refine Eq.trans (li_ivV d254_106 ca_12_194 kd_202 kl_202 (by rfl) (by rfl) h0 (Nat.le_of_ble_eq_true rfl) (Nat.le_of_ble_eq_true rfl)) ?_
    refine lt_cV_c (fun m3 => ?_)
    refine Eq.trans (li_iload_n d254_109 (by rfl)) ?_
    exact li_iret d254_110 rfl
  · refine Eq.trans (li_aload_n d254_33 (by rfl)) ?_
    refine Eq.trans (li_iload d254_34 (by rfl)) ?_
    refine Eq.trans (li_ivI d254_36 ca_12_179 kd_196 kl_196 (by rfl) (by rfl) h0 (Nat.le_of_ble_eq_true rfl) (Nat.le_of_ble_eq_true rfl)) ?_
    refine lt_cI_c (fun v2 m4 => ?_)
    refine Eq.trans (li_if_eq (t := 83) d254_39 (by rfl)) ?_
    refine lt_ite (fun c2 => ?_) (fun c2 => ?_)
    · refine Eq.trans (li_iinc (ls' := [some (.inr (.inr (some a0))), some (.inl x1), some (.inl x2), some (.inl x3), some (.inl (x4 + (1 : Int32)))]) d254_83 (by rfl) (by decide) ic_1 (by rfl)) ?_
      refine Eq.trans (li_goto (t := 22) d254_86 (by rfl)) ?_
      rfl
    · refine Eq.trans (li_aload_n d254_42 (by rfl)) ?_
      refine Eq.trans (li_iload d254_43 (by rfl)) ?_
      refine Eq.trans (li_bipush d254_45 bi_10) ?_
      refine Eq.trans (li_aload_n d254_47 (by rfl)) ?_
      refine Eq.trans (li_iload d254_48 (by rfl)) ?_
      refine Eq.trans (li_bipush d254_50 bi_6) ?_
      refine Eq.trans (li_ivI d254_52 ca_12_83 kd_198 kl_198 (by rfl) (by rfl) h0 (Nat.le_of_ble_eq_true rfl) (Nat.le_of_ble_eq_true rfl)) ?_
      refine lt_cI_c (fun v3 m5 => ?_)
      refine Eq.trans (li_iadd d254_55) ?_
      refine Eq.trans (li_ivI d254_56 ca_12_83 kd_198 kl_198 (by rfl) (by rfl) h0 (Nat.le_of_ble_eq_true rfl) (Nat.le_of_ble_eq_true rfl)) ?_
      refine lt_cI_c (fun v4 m6 => ?_)
      refine Eq.trans (li_iload_n d254_59 (by rfl)) ?_
      refine Eq.trans (li_icmp_eq (t := 66) d254_60 (by rfl)) ?_
      refine lt_ite (fun c3 => ?_) (fun c3 => ?_)
      · refine Eq.trans (li_iload_n d254_66 (by rfl)) ?_
        refine Eq.trans (li_iconst d254_67 ic_1) ?_
        refine Eq.trans (li_iload d254_68 (by rfl)) ?_
        refine Eq.trans (li_ishl d254_70) ?_
        refine Eq.trans (li_ior d254_71) ?_
        refine Eq.trans (li_istore_n (ls' := [some (.inr (.inr (some a0))), some (.inl x1), some (.inl (x2 ||| ((1 : Int32) <<< (x4 &&& 31)))), some (.inl x3), some (.inl x4)]) d254_72 (by decide) (by rfl)) ?_
        refine Eq.trans (li_iload_n d254_73 (by rfl)) ?_
        refine Eq.trans (li_aload_n d254_74 (by rfl)) ?_
        refine Eq.trans (li_iload d254_75 (by rfl)) ?_
        refine Eq.trans (li_iconst d254_77 ic_2) ?_
        refine Eq.trans (li_ivI d254_78 ca_12_83 kd_198 kl_198 (by rfl) (by rfl) h0 (Nat.le_of_ble_eq_true rfl) (Nat.le_of_ble_eq_true rfl)) ?_
        refine lt_cI_c (fun v5 m7 => ?_)
        refine Eq.trans (li_iadd d254_81) ?_
        refine Eq.trans (li_istore_n (ls' := [some (.inr (.inr (some a0))), some (.inl x1), some (.inl (x2 ||| ((1 : Int32) <<< (x4 &&& 31)))), some (.inl (x3 + v5)), some (.inl x4)]) d254_82 (by decide) (by rfl)) ?_
        refine Eq.trans (li_iinc (ls' := [some (.inr (.inr (some a0))), some (.inl x1), some (.inl (x2 ||| ((1 : Int32) <<< (x4 &&& 31)))), some (.inl (x3 + v5)), some (.inl (x4 + (1 : Int32)))]) d254_83 (by rfl) (by decide) ic_1 (by rfl)) ?_
        refine Eq.trans (li_goto (t := 22) d254_86 (by rfl)) ?_
        rfl
      · refine Eq.trans (li_goto (t := 83) d254_63 (by rfl)) ?_
        refine Eq.trans (li_iinc (ls' := [some (.inr (.inr (some a0))), some (.inl x1), some (.inl x2), some (.inl x3), some (.inl (x4 + (1 : Int32)))]) d254_83 (by rfl) (by decide) ic_1 (by rfl)) ?_
        refine Eq.trans (li_goto (t := 22) d254_86 (by rfl)) ?_
        rfl
/-! TransitSealsModel.worth(I)I -/
theorem d255_0 : decode Y255.2.1 0 = .ok (.aload_n 0, 1) := by decide +kernel
theorem d255_1 : decode Y255.2.1 1 = .ok (.iconst 0, 1) := by decide +kernel
theorem d255_2 : decode Y255.2.1 2 = .ok (.putfield 67, 3) := by decide +kernel
theorem d255_5 : decode Y255.2.1 5 = .ok (.aload_n 0, 1) := by decide +kernel
theorem d255_6 : decode Y255.2.1 6 = .ok (.iload_n 1, 1) := by decide +kernel
theorem d255_7 : decode Y255.2.1 7 = .ok (.invokevirtual 246, 3) := by decide +kernel
theorem d255_10 : decode Y255.2.1 10 = .ok (.ifCond .ne 5, 3) := by decide +kernel
theorem d255_13 : decode Y255.2.1 13 = .ok (.iconst (-1), 1) := by decide +kernel
theorem d255_14 : decode Y255.2.1 14 = .ok (.ireturn, 1) := by decide +kernel
theorem d255_15 : decode Y255.2.1 15 = .ok (.iconst 0, 1) := by decide +kernel
theorem d255_16 : decode Y255.2.1 16 = .ok (.istore_n 2, 1) := by decide +kernel
theorem d255_17 : decode Y255.2.1 17 = .ok (.iconst 0, 1) := by decide +kernel
theorem d255_18 : decode Y255.2.1 18 = .ok (.istore_n 3, 1) := by decide +kernel
theorem d255_19 : decode Y255.2.1 19 = .ok (.iconst 0, 1) := by decide +kernel
theorem d255_20 : decode Y255.2.1 20 = .ok (.istore 4, 2) := by decide +kernel
theorem d255_22 : decode Y255.2.1 22 = .ok (.iload 4, 2) := by decide +kernel
theorem d255_24 : decode Y255.2.1 24 = .ok (.aload_n 0, 1) := by decide +kernel
theorem d255_25 : decode Y255.2.1 25 = .ok (.getfield 7, 3) := by decide +kernel
theorem d255_28 : decode Y255.2.1 28 = .ok (.iconst 2, 1) := by decide +kernel
theorem d255_29 : decode Y255.2.1 29 = .ok (.iaload, 1) := by decide +kernel
theorem d255_30 : decode Y255.2.1 30 = .ok (.if_icmp .ge 69, 3) := by decide +kernel
theorem d255_33 : decode Y255.2.1 33 = .ok (.aload_n 0, 1) := by decide +kernel
theorem d255_34 : decode Y255.2.1 34 = .ok (.iload 4, 2) := by decide +kernel
theorem d255_36 : decode Y255.2.1 36 = .ok (.iconst 0, 1) := by decide +kernel
theorem d255_37 : decode Y255.2.1 37 = .ok (.invokevirtual 83, 3) := by decide +kernel
theorem d255_40 : decode Y255.2.1 40 = .ok (.iload_n 1, 1) := by decide +kernel
theorem d255_41 : decode Y255.2.1 41 = .ok (.if_icmp .ne 52, 3) := by decide +kernel
theorem d255_44 : decode Y255.2.1 44 = .ok (.aload_n 0, 1) := by decide +kernel
theorem d255_45 : decode Y255.2.1 45 = .ok (.iload 4, 2) := by decide +kernel
theorem d255_47 : decode Y255.2.1 47 = .ok (.invokevirtual 231, 3) := by decide +kernel
theorem d255_50 : decode Y255.2.1 50 = .ok (.ifCond .ne 6, 3) := by decide +kernel
theorem d255_53 : decode Y255.2.1 53 = .ok (.goto 40, 3) := by decide +kernel
theorem d255_56 : decode Y255.2.1 56 = .ok (.iload_n 2, 1) := by decide +kernel
theorem d255_57 : decode Y255.2.1 57 = .ok (.aload_n 0, 1) := by decide +kernel
theorem d255_58 : decode Y255.2.1 58 = .ok (.iload 4, 2) := by decide +kernel
theorem d255_60 : decode Y255.2.1 60 = .ok (.invokevirtual 284, 3) := by decide +kernel
theorem d255_63 : decode Y255.2.1 63 = .ok (.iadd, 1) := by decide +kernel
theorem d255_64 : decode Y255.2.1 64 = .ok (.istore_n 2, 1) := by decide +kernel
theorem d255_65 : decode Y255.2.1 65 = .ok (.iload_n 3, 1) := by decide +kernel
theorem d255_66 : decode Y255.2.1 66 = .ok (.aload_n 0, 1) := by decide +kernel
theorem d255_67 : decode Y255.2.1 67 = .ok (.iload 4, 2) := by decide +kernel
theorem d255_69 : decode Y255.2.1 69 = .ok (.invokevirtual 87, 3) := by decide +kernel
theorem d255_72 : decode Y255.2.1 72 = .ok (.iconst 3, 1) := by decide +kernel
theorem d255_73 : decode Y255.2.1 73 = .ok (.if_icmp .eq 13, 3) := by decide +kernel
theorem d255_76 : decode Y255.2.1 76 = .ok (.aload_n 0, 1) := by decide +kernel
theorem d255_77 : decode Y255.2.1 77 = .ok (.iload 4, 2) := by decide +kernel
theorem d255_79 : decode Y255.2.1 79 = .ok (.invokevirtual 87, 3) := by decide +kernel
theorem d255_82 : decode Y255.2.1 82 = .ok (.iconst 4, 1) := by decide +kernel
theorem d255_83 : decode Y255.2.1 83 = .ok (.if_icmp .ne 7, 3) := by decide +kernel
theorem d255_86 : decode Y255.2.1 86 = .ok (.iconst 1, 1) := by decide +kernel
theorem d255_87 : decode Y255.2.1 87 = .ok (.goto 4, 3) := by decide +kernel
theorem d255_90 : decode Y255.2.1 90 = .ok (.iconst 0, 1) := by decide +kernel
theorem d255_91 : decode Y255.2.1 91 = .ok (.iadd, 1) := by decide +kernel
theorem d255_92 : decode Y255.2.1 92 = .ok (.istore_n 3, 1) := by decide +kernel
theorem d255_93 : decode Y255.2.1 93 = .ok (.iinc 4 1, 3) := by decide +kernel
theorem d255_96 : decode Y255.2.1 96 = .ok (.goto (-74), 3) := by decide +kernel
theorem d255_99 : decode Y255.2.1 99 = .ok (.aload_n 0, 1) := by decide +kernel
theorem d255_100 : decode Y255.2.1 100 = .ok (.iconst 0, 1) := by decide +kernel
theorem d255_101 : decode Y255.2.1 101 = .ok (.putfield 70, 3) := by decide +kernel
theorem d255_104 : decode Y255.2.1 104 = .ok (.aload_n 0, 1) := by decide +kernel
theorem d255_105 : decode Y255.2.1 105 = .ok (.iload_n 2, 1) := by decide +kernel
theorem d255_106 : decode Y255.2.1 106 = .ok (.aload_n 0, 1) := by decide +kernel
theorem d255_107 : decode Y255.2.1 107 = .ok (.iload_n 1, 1) := by decide +kernel
theorem d255_108 : decode Y255.2.1 108 = .ok (.invokevirtual 237, 3) := by decide +kernel
theorem d255_111 : decode Y255.2.1 111 = .ok (.isub, 1) := by decide +kernel
theorem d255_112 : decode Y255.2.1 112 = .ok (.i2l, 1) := by decide +kernel
theorem d255_113 : decode Y255.2.1 113 = .ok (.invokevirtual 194, 3) := by decide +kernel
theorem d255_116 : decode Y255.2.1 116 = .ok (.aload_n 0, 1) := by decide +kernel
theorem d255_117 : decode Y255.2.1 117 = .ok (.iload_n 3, 1) := by decide +kernel
theorem d255_118 : decode Y255.2.1 118 = .ok (.i2l, 1) := by decide +kernel
theorem d255_119 : decode Y255.2.1 119 = .ok (.invokevirtual 194, 3) := by decide +kernel
theorem d255_122 : decode Y255.2.1 122 = .ok (.iload_n 2, 1) := by decide +kernel
theorem d255_123 : decode Y255.2.1 123 = .ok (.ireturn, 1) := by decide +kernel
noncomputable def L255_22 (d : Nat) (a0 : Nat) (x1 : Int32) (x2 : Int32) (x3 : Int32) (x4 : Int32) (m : lt_m) : Option lt_r := lt_run d Y255 22 [some (.inr (.inr (some a0))), some (.inl x1), some (.inl x2), some (.inl x3), some (.inl x4)] [] m
theorem E255 (d : Nat) (a0 : Nat) (x1 : Int32) (h0 : ts_sh a0 = (0, 12)) (m : lt_m) : lt_ev (d + 1) 255 [.inr (.inr (some a0)), .inl x1] m = lt_cI (lt_ev d 213 [.inr (.inr (some a0)), .inl x1] (lm_i m a0 15 (0 : Int32))) (fun v1 m1 => (if ¬ v1 = 0 then (L255_22 d a0 x1 (0 : Int32) (0 : Int32) (0 : Int32) m1) else (some (some (.inl (-1 : Int32)), m1)))) := by
  refine Eq.trans (lt_enter2 (ls := [some (.inr (.inr (some a0))), some (.inl x1), none, none, none]) hY255 (Nat.le_of_ble_eq_true rfl) (by rfl)) ?_
  refine Eq.trans (li_aload_n d255_0 (by rfl)) ?_
  refine Eq.trans (li_iconst d255_1 ic_0) ?_
  refine Eq.trans (li_puti d255_2 fa_12_67 h0 rfl rfl) ?_
  refine Eq.trans (li_aload_n d255_5 (by rfl)) ?_
  refine Eq.trans (li_iload_n d255_6 (by rfl)) ?_
  refine Eq.trans (li_ivI d255_7 ca_12_246 kd_213 kl_213 (by rfl) (by rfl) h0 (Nat.le_of_ble_eq_true rfl) (Nat.le_of_ble_eq_true rfl)) ?_
  refine lt_cI_c (fun v1 m1 => ?_)
  refine Eq.trans (li_if_ne (t := 15) d255_10 (by rfl)) ?_
  refine lt_ite (fun c1 => ?_) (fun c1 => ?_)
  · refine Eq.trans (li_iconst d255_15 ic_0) ?_
    refine Eq.trans (li_istore_n (ls' := [some (.inr (.inr (some a0))), some (.inl x1), some (.inl (0 : Int32)), none, none]) d255_16 (by decide) (by rfl)) ?_
    refine Eq.trans (li_iconst d255_17 ic_0) ?_
    refine Eq.trans (li_istore_n (ls' := [some (.inr (.inr (some a0))), some (.inl x1), some (.inl (0 : Int32)), some (.inl (0 : Int32)), none]) d255_18 (by decide) (by rfl)) ?_
    refine Eq.trans (li_iconst d255_19 ic_0) ?_
    refine Eq.trans (li_istore (ls' := [some (.inr (.inr (some a0))), some (.inl x1), some (.inl (0 : Int32)), some (.inl (0 : Int32)), some (.inl (0 : Int32))]) d255_20 (by decide) (by rfl)) ?_
    rfl
  · refine Eq.trans (li_iconst d255_13 ic_n1) ?_
    exact li_iret d255_14 rfl
theorem E255_22 (d : Nat) (a0 : Nat) (x1 : Int32) (x2 : Int32) (x3 : Int32) (x4 : Int32) (h0 : ts_sh a0 = (0, 12)) (m : lt_m) : L255_22 d a0 x1 x2 x3 x4 m = lt_gd (0 ≤ (2 : Int32) ∧ ((2 : Int32)).toNatClampNeg < 626) (if (m.1 (a0 + 1) ((2 : Int32)).toNatClampNeg) ≤ x4 then (lt_cI (lt_ev d 214 [.inr (.inr (some a0)), .inl x1] (lm_i m a0 14 (0 : Int32))) (fun v1 m1 => (lt_cV (lt_ev d 202 [.inr (.inr (some a0)), .inr (.inl (((x2 - v1)).toInt64))] m1) (fun m2 => (lt_cV (lt_ev d 202 [.inr (.inr (some a0)), .inr (.inl ((x3).toInt64))] m2) (fun m3 => (some (some (.inl x2), m3)))))))) else (lt_cI (lt_ev d 198 [.inr (.inr (some a0)), .inl x4, .inl (0 : Int32)] m) (fun v2 m4 => (if ¬ v2 = x1 then (L255_22 d a0 x1 x2 x3 (x4 + (1 : Int32)) m4) else (lt_cI (lt_ev d 215 [.inr (.inr (some a0)), .inl x4] m4) (fun v3 m5 => (if ¬ v3 = 0 then (lt_cI (lt_ev d 241 [.inr (.inr (some a0)), .inl x4] m5) (fun v4 m6 => (lt_cI (lt_ev d 197 [.inr (.inr (some a0)), .inl x4] m6) (fun v5 m7 => (if v5 = (3 : Int32) then (L255_22 d a0 x1 (x2 + v4) (x3 + (1 : Int32)) (x4 + (1 : Int32)) m7) else (lt_cI (lt_ev d 197 [.inr (.inr (some a0)), .inl x4] m7) (fun v6 m8 => (if ¬ v6 = (4 : Int32) then (L255_22 d a0 x1 (x2 + v4) (x3 + (0 : Int32)) (x4 + (1 : Int32)) m8) else (L255_22 d a0 x1 (x2 + v4) (x3 + (1 : Int32)) (x4 + (1 : Int32)) m8))))))))) else (L255_22 d a0 x1 x2 x3 (x4 + (1 : Int32)) m5)))))))) := by
  show lt_run d Y255 22 [some (.inr (.inr (some a0))), some (.inl x1), some (.inl x2), some (.inl x3), some (.inl x4)] [] m = _
  refine Eq.trans (li_iload d255_22 (by rfl)) ?_
  refine Eq.trans (li_aload_n d255_24 (by rfl)) ?_
  refine Eq.trans (li_getr d255_25 fa_12_7 h0 rfl rfl rfl (by decide)) ?_
  refine Eq.trans (li_iconst d255_28 ic_2) ?_
  refine Eq.trans (li_iald d255_29 (sf_of h0 0 (by decide) (by decide))) ?_
  refine lt_gd_c (fun g1 => ?_)
  refine Eq.trans (li_icmp_ge (t := 99) d255_30 (by rfl)) ?_
  refine lt_ite (fun c1 => ?_) (fun c1 => ?_)
  · refine Eq.trans (li_aload_n d255_99 (by rfl)) ?_
    refine Eq.trans (li_iconst d255_100 ic_0) ?_
    refine Eq.trans (li_puti d255_101 fa_12_70 h0 rfl rfl) ?_
    refine Eq.trans (li_aload_n d255_104 (by rfl)) ?_
    refine Eq.trans (li_iload_n d255_105 (by rfl)) ?_
    refine Eq.trans (li_aload_n d255_106 (by rfl)) ?_
    refine Eq.trans (li_iload_n d255_107 (by rfl)) ?_
    refine Eq.trans (li_ivI d255_108 ca_12_237 kd_214 kl_214 (by rfl) (by rfl) h0 (Nat.le_of_ble_eq_true rfl) (Nat.le_of_ble_eq_true rfl)) ?_
    refine lt_cI_c (fun v1 m1 => ?_)
    refine Eq.trans (li_isub d255_111) ?_
    refine Eq.trans (li_i2l d255_112) ?_
    refine Eq.trans (li_ivV d255_113 ca_12_194 kd_202 kl_202 (by rfl) (by rfl) h0 (Nat.le_of_ble_eq_true rfl) (Nat.le_of_ble_eq_true rfl)) ?_
    refine lt_cV_c (fun m2 => ?_)
    refine Eq.trans (li_aload_n d255_116 (by rfl)) ?_
    refine Eq.trans (li_iload_n d255_117 (by rfl)) ?_
    refine Eq.trans (li_i2l d255_118) ?_
    refine Eq.trans (li_ivV d255_119 ca_12_194 kd_202 kl_202 (by rfl) (by rfl) h0 (Nat.le_of_ble_eq_true rfl) (Nat.le_of_ble_eq_true rfl)) ?_
    refine lt_cV_c (fun m3 => ?_)
    refine Eq.trans (li_iload_n d255_122 (by rfl)) ?_
    exact li_iret d255_123 rfl
  · refine Eq.trans (li_aload_n d255_33 (by rfl)) ?_
    refine Eq.trans (li_iload d255_34 (by rfl)) ?_
    refine Eq.trans (li_iconst d255_36 ic_0) ?_
    refine Eq.trans (li_ivI d255_37 ca_12_83 kd_198 kl_198 (by rfl) (by rfl) h0 (Nat.le_of_ble_eq_true rfl) (Nat.le_of_ble_eq_true rfl)) ?_
    refine lt_cI_c (fun v2 m4 => ?_)
    refine Eq.trans (li_iload_n d255_40 (by rfl)) ?_
    refine Eq.trans (li_icmp_ne (t := 93) d255_41 (by rfl)) ?_
    refine lt_ite (fun c2 => ?_) (fun c2 => ?_)
    · refine Eq.trans (li_iinc (ls' := [some (.inr (.inr (some a0))), some (.inl x1), some (.inl x2), some (.inl x3), some (.inl (x4 + (1 : Int32)))]) d255_93 (by rfl) (by decide) ic_1 (by rfl)) ?_
      refine Eq.trans (li_goto (t := 22) d255_96 (by rfl)) ?_
      rfl
    · refine Eq.trans (li_aload_n d255_44 (by rfl)) ?_
      refine Eq.trans (li_iload d255_45 (by rfl)) ?_
      refine Eq.trans (li_ivI d255_47 ca_12_231 kd_215 kl_215 (by rfl) (by rfl) h0 (Nat.le_of_ble_eq_true rfl) (Nat.le_of_ble_eq_true rfl)) ?_
      refine lt_cI_c (fun v3 m5 => ?_)
      refine Eq.trans (li_if_ne (t := 56) d255_50 (by rfl)) ?_
      refine lt_ite (fun c3 => ?_) (fun c3 => ?_)
      · refine Eq.trans (li_iload_n d255_56 (by rfl)) ?_
        refine Eq.trans (li_aload_n d255_57 (by rfl)) ?_
        refine Eq.trans (li_iload d255_58 (by rfl)) ?_
        refine Eq.trans (li_ivI d255_60 ca_12_284 kd_241 kl_241 (by rfl) (by rfl) h0 (Nat.le_of_ble_eq_true rfl) (Nat.le_of_ble_eq_true rfl)) ?_
        refine lt_cI_c (fun v4 m6 => ?_)
        refine Eq.trans (li_iadd d255_63) ?_
        refine Eq.trans (li_istore_n (ls' := [some (.inr (.inr (some a0))), some (.inl x1), some (.inl (x2 + v4)), some (.inl x3), some (.inl x4)]) d255_64 (by decide) (by rfl)) ?_
        refine Eq.trans (li_iload_n d255_65 (by rfl)) ?_
        refine Eq.trans (li_aload_n d255_66 (by rfl)) ?_
        refine Eq.trans (li_iload d255_67 (by rfl)) ?_
        refine Eq.trans (li_ivI d255_69 ca_12_87 kd_197 kl_197 (by rfl) (by rfl) h0 (Nat.le_of_ble_eq_true rfl) (Nat.le_of_ble_eq_true rfl)) ?_
        refine lt_cI_c (fun v5 m7 => ?_)
        refine Eq.trans (li_iconst d255_72 ic_3) ?_
        refine Eq.trans (li_icmp_eq (t := 86) d255_73 (by rfl)) ?_
        refine lt_ite (fun c4 => ?_) (fun c4 => ?_)
        · refine Eq.trans (li_iconst d255_86 ic_1) ?_
          refine Eq.trans (li_goto (t := 91) d255_87 (by rfl)) ?_
          refine Eq.trans (li_iadd d255_91) ?_
          refine Eq.trans (li_istore_n (ls' := [some (.inr (.inr (some a0))), some (.inl x1), some (.inl (x2 + v4)), some (.inl (x3 + (1 : Int32))), some (.inl x4)]) d255_92 (by decide) (by rfl)) ?_
          refine Eq.trans (li_iinc (ls' := [some (.inr (.inr (some a0))), some (.inl x1), some (.inl (x2 + v4)), some (.inl (x3 + (1 : Int32))), some (.inl (x4 + (1 : Int32)))]) d255_93 (by rfl) (by decide) ic_1 (by rfl)) ?_
          refine Eq.trans (li_goto (t := 22) d255_96 (by rfl)) ?_
          rfl
        · refine Eq.trans (li_aload_n d255_76 (by rfl)) ?_
          refine Eq.trans (li_iload d255_77 (by rfl)) ?_
          refine Eq.trans (li_ivI d255_79 ca_12_87 kd_197 kl_197 (by rfl) (by rfl) h0 (Nat.le_of_ble_eq_true rfl) (Nat.le_of_ble_eq_true rfl)) ?_
          refine lt_cI_c (fun v6 m8 => ?_)
          refine Eq.trans (li_iconst d255_82 ic_4) ?_
          refine Eq.trans (li_icmp_ne (t := 90) d255_83 (by rfl)) ?_
          refine lt_ite (fun c5 => ?_) (fun c5 => ?_)
          · refine Eq.trans (li_iconst d255_90 ic_0) ?_
            refine Eq.trans (li_iadd d255_91) ?_
            refine Eq.trans (li_istore_n (ls' := [some (.inr (.inr (some a0))), some (.inl x1), some (.inl (x2 + v4)), some (.inl (x3 + (0 : Int32))), some (.inl x4)]) d255_92 (by decide) (by rfl)) ?_
            refine Eq.trans (li_iinc (ls' := [some (.inr (.inr (some a0))), some (.inl x1), some (.inl (x2 + v4)), some (.inl (x3 + (0 : Int32))), some (.inl (x4 + (1 : Int32)))]) d255_93 (by rfl) (by decide) ic_1 (by rfl)) ?_
            refine Eq.trans (li_goto (t := 22) d255_96 (by rfl)) ?_
            rfl
          · refine Eq.trans (li_iconst d255_86 ic_1) ?_
            refine Eq.trans (li_goto (t := 91) d255_87 (by rfl)) ?_
            refine Eq.trans (li_iadd d255_91) ?_
            refine Eq.trans (li_istore_n (ls' := [some (.inr (.inr (some a0))), some (.inl x1), some (.inl (x2 + v4)), some (.inl (x3 + (1 : Int32))), some (.inl x4)]) d255_92 (by decide) (by rfl)) ?_
            refine Eq.trans (li_iinc (ls' := [some (.inr (.inr (some a0))), some (.inl x1), some (.inl (x2 + v4)), some (.inl (x3 + (1 : Int32))), some (.inl (x4 + (1 : Int32)))]) d255_93 (by rfl) (by decide) ic_1 (by rfl)) ?_
            refine Eq.trans (li_goto (t := 22) d255_96 (by rfl)) ?_
            rfl
      · refine Eq.trans (li_goto (t := 93) d255_53 (by rfl)) ?_
        refine Eq.trans (li_iinc (ls' := [some (.inr (.inr (some a0))), some (.inl x1), some (.inl x2), some (.inl x3), some (.inl (x4 + (1 : Int32)))]) d255_93 (by rfl) (by decide) ic_1 (by rfl)) ?_
        refine Eq.trans (li_goto (t := 22) d255_96 (by rfl)) ?_
        rfl
/-! TransitSealsModel.can(II)I -/
theorem d256_0 : decode Y256.2.1 0 = .ok (.aload_n 0, 1) := by decide +kernel
theorem d256_1 : decode Y256.2.1 1 = .ok (.iconst 0, 1) := by decide +kernel
theorem d256_2 : decode Y256.2.1 2 = .ok (.putfield 67, 3) := by decide +kernel
theorem d256_5 : decode Y256.2.1 5 = .ok (.aload_n 0, 1) := by decide +kernel
theorem d256_6 : decode Y256.2.1 6 = .ok (.iload_n 1, 1) := by decide +kernel
theorem d256_7 : decode Y256.2.1 7 = .ok (.invokevirtual 246, 3) := by decide +kernel
theorem d256_10 : decode Y256.2.1 10 = .ok (.ifCond .eq 11, 3) := by decide +kernel
theorem d256_13 : decode Y256.2.1 13 = .ok (.aload_n 0, 1) := by decide +kernel
theorem d256_14 : decode Y256.2.1 14 = .ok (.iload_n 2, 1) := by decide +kernel
theorem d256_15 : decode Y256.2.1 15 = .ok (.invokevirtual 264, 3) := by decide +kernel
theorem d256_18 : decode Y256.2.1 18 = .ok (.ifCond .ne 5, 3) := by decide +kernel
theorem d256_21 : decode Y256.2.1 21 = .ok (.iconst (-1), 1) := by decide +kernel
theorem d256_22 : decode Y256.2.1 22 = .ok (.ireturn, 1) := by decide +kernel
theorem d256_23 : decode Y256.2.1 23 = .ok (.sipush 999, 3) := by decide +kernel
theorem d256_26 : decode Y256.2.1 26 = .ok (.istore_n 3, 1) := by decide +kernel
theorem d256_27 : decode Y256.2.1 27 = .ok (.iload_n 3, 1) := by decide +kernel
theorem d256_28 : decode Y256.2.1 28 = .ok (.ifCond .le 33, 3) := by decide +kernel
theorem d256_31 : decode Y256.2.1 31 = .ok (.aload_n 0, 1) := by decide +kernel
theorem d256_32 : decode Y256.2.1 32 = .ok (.iload_n 1, 1) := by decide +kernel
theorem d256_33 : decode Y256.2.1 33 = .ok (.invokevirtual 249, 3) := by decide +kernel
theorem d256_36 : decode Y256.2.1 36 = .ok (.iload_n 3, 1) := by decide +kernel
theorem d256_37 : decode Y256.2.1 37 = .ok (.aload_n 0, 1) := by decide +kernel
theorem d256_38 : decode Y256.2.1 38 = .ok (.getfield 25, 3) := by decide +kernel
theorem d256_41 : decode Y256.2.1 41 = .ok (.iload_n 2, 1) := by decide +kernel
theorem d256_42 : decode Y256.2.1 42 = .ok (.iaload, 1) := by decide +kernel
theorem d256_43 : decode Y256.2.1 43 = .ok (.imul, 1) := by decide +kernel
theorem d256_44 : decode Y256.2.1 44 = .ok (.invokestatic 269, 3) := by decide +kernel
theorem d256_47 : decode Y256.2.1 47 = .ok (.aload_n 0, 1) := by decide +kernel
theorem d256_48 : decode Y256.2.1 48 = .ok (.iload_n 1, 1) := by decide +kernel
theorem d256_49 : decode Y256.2.1 49 = .ok (.invokevirtual 252, 3) := by decide +kernel
theorem d256_52 : decode Y256.2.1 52 = .ok (.if_icmp .le 9, 3) := by decide +kernel
theorem d256_55 : decode Y256.2.1 55 = .ok (.iinc 3 (-1), 3) := by decide +kernel
theorem d256_58 : decode Y256.2.1 58 = .ok (.goto (-31), 3) := by decide +kernel
theorem d256_61 : decode Y256.2.1 61 = .ok (.aload_n 0, 1) := by decide +kernel
theorem d256_62 : decode Y256.2.1 62 = .ok (.iconst 0, 1) := by decide +kernel
theorem d256_63 : decode Y256.2.1 63 = .ok (.putfield 70, 3) := by decide +kernel
theorem d256_66 : decode Y256.2.1 66 = .ok (.aload_n 0, 1) := by decide +kernel
theorem d256_67 : decode Y256.2.1 67 = .ok (.aload_n 0, 1) := by decide +kernel
theorem d256_68 : decode Y256.2.1 68 = .ok (.iload_n 1, 1) := by decide +kernel
theorem d256_69 : decode Y256.2.1 69 = .ok (.invokevirtual 249, 3) := by decide +kernel
theorem d256_72 : decode Y256.2.1 72 = .ok (.iload_n 3, 1) := by decide +kernel
theorem d256_73 : decode Y256.2.1 73 = .ok (.aload_n 0, 1) := by decide +kernel
theorem d256_74 : decode Y256.2.1 74 = .ok (.getfield 25, 3) := by decide +kernel
theorem d256_77 : decode Y256.2.1 77 = .ok (.iload_n 2, 1) := by decide +kernel
theorem d256_78 : decode Y256.2.1 78 = .ok (.iaload, 1) := by decide +kernel
theorem d256_79 : decode Y256.2.1 79 = .ok (.imul, 1) := by decide +kernel
theorem d256_80 : decode Y256.2.1 80 = .ok (.invokestatic 269, 3) := by decide +kernel
theorem d256_83 : decode Y256.2.1 83 = .ok (.i2l, 1) := by decide +kernel
theorem d256_84 : decode Y256.2.1 84 = .ok (.invokevirtual 194, 3) := by decide +kernel
theorem d256_87 : decode Y256.2.1 87 = .ok (.iload_n 3, 1) := by decide +kernel
theorem d256_88 : decode Y256.2.1 88 = .ok (.ireturn, 1) := by decide +kernel
noncomputable def L256_27 (d : Nat) (a0 : Nat) (x1 : Int32) (x2 : Int32) (x3 : Int32) (m : lt_m) : Option lt_r := lt_run d Y256 27 [some (.inr (.inr (some a0))), some (.inl x1), some (.inl x2), some (.inl x3)] [] m
noncomputable def L256_61 (d : Nat) (a0 : Nat) (x1 : Int32) (x2 : Int32) (x3 : Int32) (m : lt_m) : Option lt_r := lt_run d Y256 61 [some (.inr (.inr (some a0))), some (.inl x1), some (.inl x2), some (.inl x3)] [] m
theorem E256 (d : Nat) (a0 : Nat) (x1 : Int32) (x2 : Int32) (h0 : ts_sh a0 = (0, 12)) (m : lt_m) : lt_ev (d + 1) 256 [.inr (.inr (some a0)), .inl x1, .inl x2] m = lt_cI (lt_ev d 213 [.inr (.inr (some a0)), .inl x1] (lm_i m a0 15 (0 : Int32))) (fun v1 m1 => (if v1 = 0 then (some (some (.inl (-1 : Int32)), m1)) else (lt_cI (lt_ev d 226 [.inr (.inr (some a0)), .inl x2] m1) (fun v2 m2 => (if ¬ v2 = 0 then (L256_27 d a0 x1 x2 (999 : Int32) m2) else (some (some (.inl (-1 : Int32)), m2))))))) := by
  refine Eq.trans (lt_enter2 (ls := [some (.inr (.inr (some a0))), some (.inl x1), some (.inl x2), none]) hY256 (Nat.le_of_ble_eq_true rfl) (by rfl)) ?_
  refine Eq.trans (li_aload_n d256_0 (by rfl)) ?_
  refine Eq.trans (li_iconst d256_1 ic_0) ?_
  refine Eq.trans (li_puti d256_2 fa_12_67 h0 rfl rfl) ?_
  refine Eq.trans (li_aload_n d256_5 (by rfl)) ?_
  refine Eq.trans (li_iload_n d256_6 (by rfl)) ?_
  refine Eq.trans (li_ivI d256_7 ca_12_246 kd_213 kl_213 (by rfl) (by rfl) h0 (Nat.le_of_ble_eq_true rfl) (Nat.le_of_ble_eq_true rfl)) ?_
  refine lt_cI_c (fun v1 m1 => ?_)
  refine Eq.trans (li_if_eq (t := 21) d256_10 (by rfl)) ?_
  refine lt_ite (fun c1 => ?_) (fun c1 => ?_)
  · refine Eq.trans (li_iconst d256_21 ic_n1) ?_
    exact li_iret d256_22 rfl
  · refine Eq.trans (li_aload_n d256_13 (by rfl)) ?_
    refine Eq.trans (li_iload_n d256_14 (by rfl)) ?_
    refine Eq.trans (li_ivI d256_15 ca_12_264 kd_226 kl_226 (by rfl) (by rfl) h0 (Nat.le_of_ble_eq_true rfl) (Nat.le_of_ble_eq_true rfl)) ?_
    refine lt_cI_c (fun v2 m2 => ?_)
    refine Eq.trans (li_if_ne (t := 23) d256_18 (by rfl)) ?_
    refine lt_ite (fun c2 => ?_) (fun c2 => ?_)
    · refine Eq.trans (li_sipush d256_23 si_999) ?_
      refine Eq.trans (li_istore_n (ls' := [some (.inr (.inr (some a0))), some (.inl x1), some (.inl x2), some (.inl (999 : Int32))]) d256_26 (by decide) (by rfl)) ?_
      rfl
    · refine Eq.trans (li_iconst d256_21 ic_n1) ?_
      exact li_iret d256_22 rfl
theorem E256_27 (d : Nat) (a0 : Nat) (x1 : Int32) (x2 : Int32) (x3 : Int32) (h0 : ts_sh a0 = (0, 12)) (m : lt_m) : L256_27 d a0 x1 x2 x3 m = if x3 ≤ 0 then (L256_61 d a0 x1 x2 x3 m) else (lt_cI (lt_ev d 218 [.inr (.inr (some a0)), .inl x1] m) (fun v1 m1 => (lt_gd (0 ≤ x2 ∧ (x2).toNatClampNeg < 6) (lt_cI (lt_ev d 227 [.inl v1, .inl (x3 * (m1.1 (a0 + 6) (x2).toNatClampNeg))] m1) (fun v2 m2 => (lt_cI (lt_ev d 219 [.inr (.inr (some a0)), .inl x1] m2) (fun v3 m3 => (if v2 ≤ v3 then (L256_61 d a0 x1 x2 x3 m3) else (L256_27 d a0 x1 x2 (x3 + (-1 : Int32)) m3))))))))) := by
  show lt_run d Y256 27 [some (.inr (.inr (some a0))), some (.inl x1), some (.inl x2), some (.inl x3)] [] m = _
  refine Eq.trans (li_iload_n d256_27 (by rfl)) ?_
  refine Eq.trans (li_if_le (t := 61) d256_28 (by rfl)) ?_
  refine lt_ite (fun c1 => ?_) (fun c1 => ?_)
  · rfl
  · refine Eq.trans (li_aload_n d256_31 (by rfl)) ?_
    refine Eq.trans (li_iload_n d256_32 (by rfl)) ?_
    refine Eq.trans (li_ivI d256_33 ca_12_249 kd_218 kl_218 (by rfl) (by rfl) h0 (Nat.le_of_ble_eq_true rfl) (Nat.le_of_ble_eq_true rfl)) ?_
    refine lt_cI_c (fun v1 m1 => ?_)
    refine Eq.trans (li_iload_n d256_36 (by rfl)) ?_
    refine Eq.trans (li_aload_n d256_37 (by rfl)) ?_
    refine Eq.trans (li_getr d256_38 fa_12_25 h0 rfl rfl rfl (by decide)) ?_
    refine Eq.trans (li_iload_n d256_41 (by rfl)) ?_
    refine Eq.trans (li_iald d256_42 (sf_of h0 7 (by decide) (by decide))) ?_
    refine lt_gd_c (fun g1 => ?_)
    refine Eq.trans (li_imul d256_43) ?_
    refine Eq.trans (li_isI d256_44 bi_12_269 ca_12_269 kd_227 (by rfl) (by rfl) (Nat.le_of_ble_eq_true rfl) (Nat.le_of_ble_eq_true rfl)) ?_
    refine lt_cI_c (fun v2 m2 => ?_)
    refine Eq.trans (li_aload_n d256_47 (by rfl)) ?_
    refine Eq.trans (li_iload_n d256_48 (by rfl)) ?_
    refine Eq.trans (li_ivI d256_49 ca_12_252 kd_219 kl_219 (by rfl) (by rfl) h0 (Nat.le_of_ble_eq_true rfl) (Nat.le_of_ble_eq_true rfl)) ?_
    refine lt_cI_c (fun v3 m3 => ?_)
    refine Eq.trans (li_icmp_le (t := 61) d256_52 (by rfl)) ?_
    refine lt_ite (fun c2 => ?_) (fun c2 => ?_)
    · rfl
    · refine Eq.trans (li_iinc (ls' := [some (.inr (.inr (some a0))), some (.inl x1), some (.inl x2), some (.inl (x3 + (-1 : Int32)))]) d256_55 (by rfl) (by decide) ic_n1 (by rfl)) ?_
      refine Eq.trans (li_goto (t := 27) d256_58 (by rfl)) ?_
      rfl
theorem E256_61 (d : Nat) (a0 : Nat) (x1 : Int32) (x2 : Int32) (x3 : Int32) (h0 : ts_sh a0 = (0, 12)) (m : lt_m) : L256_61 d a0 x1 x2 x3 m = lt_cI (lt_ev d 218 [.inr (.inr (some a0)), .inl x1] (lm_i m a0 14 (0 : Int32))) (fun v1 m1 => (lt_gd (0 ≤ x2 ∧ (x2).toNatClampNeg < 6) (lt_cI (lt_ev d 227 [.inl v1, .inl (x3 * (m1.1 (a0 + 6) (x2).toNatClampNeg))] m1) (fun v2 m2 => (lt_cV (lt_ev d 202 [.inr (.inr (some a0)), .inr (.inl ((v2).toInt64))] m2) (fun m3 => (some (some (.inl x3), m3)))))))) := by
  show lt_run d Y256 61 [some (.inr (.inr (some a0))), some (.inl x1), some (.inl x2), some (.inl x3)] [] m = _
  refine Eq.trans (li_aload_n d256_61 (by rfl)) ?_
  refine Eq.trans (li_iconst d256_62 ic_0) ?_
  refine Eq.trans (li_puti d256_63 fa_12_70 h0 rfl rfl) ?_
  refine Eq.trans (li_aload_n d256_66 (by rfl)) ?_
  refine Eq.trans (li_aload_n d256_67 (by rfl)) ?_
  refine Eq.trans (li_iload_n d256_68 (by rfl)) ?_
  refine Eq.trans (li_ivI d256_69 ca_12_249 kd_218 kl_218 (by rfl) (by rfl) h0 (Nat.le_of_ble_eq_true rfl) (Nat.le_of_ble_eq_true rfl)) ?_
  refine lt_cI_c (fun v1 m1 => ?_)
  refine Eq.trans (li_iload_n d256_72 (by rfl)) ?_
  refine Eq.trans (li_aload_n d256_73 (by rfl)) ?_
  refine Eq.trans (li_getr d256_74 fa_12_25 h0 rfl rfl rfl (by decide)) ?_
  refine Eq.trans (li_iload_n d256_77 (by rfl)) ?_
  refine Eq.trans (li_iald d256_78 (sf_of h0 7 (by decide) (by decide))) ?_
  refine lt_gd_c (fun g1 => ?_)
  refine Eq.trans (li_imul d256_79) ?_
  refine Eq.trans (li_isI d256_80 bi_12_269 ca_12_269 kd_227 (by rfl) (by rfl) (Nat.le_of_ble_eq_true rfl) (Nat.le_of_ble_eq_true rfl)) ?_
  refine lt_cI_c (fun v2 m2 => ?_)
  refine Eq.trans (li_i2l d256_83) ?_
  refine Eq.trans (li_ivV d256_84 ca_12_194 kd_202 kl_202 (by rfl) (by rfl) h0 (Nat.le_of_ble_eq_true rfl) (Nat.le_of_ble_eq_true rfl)) ?_
  refine lt_cV_c (fun m3 => ?_)
  refine Eq.trans (li_iload_n d256_87 (by rfl)) ?_
  exact li_iret d256_88 rfl
/-! TransitSealsModel.frees(II)I -/
theorem d257_0 : decode Y257.2.1 0 = .ok (.aload_n 0, 1) := by decide +kernel
theorem d257_1 : decode Y257.2.1 1 = .ok (.iconst 0, 1) := by decide +kernel
theorem d257_2 : decode Y257.2.1 2 = .ok (.putfield 67, 3) := by decide +kernel
theorem d257_5 : decode Y257.2.1 5 = .ok (.aload_n 0, 1) := by decide +kernel
theorem d257_6 : decode Y257.2.1 6 = .ok (.iload_n 1, 1) := by decide +kernel
theorem d257_7 : decode Y257.2.1 7 = .ok (.invokevirtual 246, 3) := by decide +kernel
theorem d257_10 : decode Y257.2.1 10 = .ok (.ifCond .eq 10, 3) := by decide +kernel
theorem d257_13 : decode Y257.2.1 13 = .ok (.iload_n 2, 1) := by decide +kernel
theorem d257_14 : decode Y257.2.1 14 = .ok (.invokestatic 304, 3) := by decide +kernel
theorem d257_17 : decode Y257.2.1 17 = .ok (.ifCond .ne 5, 3) := by decide +kernel
theorem d257_20 : decode Y257.2.1 20 = .ok (.iconst (-1), 1) := by decide +kernel
theorem d257_21 : decode Y257.2.1 21 = .ok (.ireturn, 1) := by decide +kernel
theorem d257_22 : decode Y257.2.1 22 = .ok (.iload_n 2, 1) := by decide +kernel
theorem d257_23 : decode Y257.2.1 23 = .ok (.aload_n 0, 1) := by decide +kernel
theorem d257_24 : decode Y257.2.1 24 = .ok (.iload_n 1, 1) := by decide +kernel
theorem d257_25 : decode Y257.2.1 25 = .ok (.invokevirtual 252, 3) := by decide +kernel
theorem d257_28 : decode Y257.2.1 28 = .ok (.isub, 1) := by decide +kernel
theorem d257_29 : decode Y257.2.1 29 = .ok (.istore_n 3, 1) := by decide +kernel
theorem d257_30 : decode Y257.2.1 30 = .ok (.aload_n 0, 1) := by decide +kernel
theorem d257_31 : decode Y257.2.1 31 = .ok (.iload_n 1, 1) := by decide +kernel
theorem d257_32 : decode Y257.2.1 32 = .ok (.invokevirtual 255, 3) := by decide +kernel
theorem d257_35 : decode Y257.2.1 35 = .ok (.istore 4, 2) := by decide +kernel
theorem d257_37 : decode Y257.2.1 37 = .ok (.iconst 0, 1) := by decide +kernel
theorem d257_38 : decode Y257.2.1 38 = .ok (.istore 5, 2) := by decide +kernel
theorem d257_40 : decode Y257.2.1 40 = .ok (.iload 5, 2) := by decide +kernel
theorem d257_42 : decode Y257.2.1 42 = .ok (.iload 4, 2) := by decide +kernel
theorem d257_44 : decode Y257.2.1 44 = .ok (.invokestatic 213, 3) := by decide +kernel
theorem d257_47 : decode Y257.2.1 47 = .ok (.if_icmp .ge 21, 3) := by decide +kernel
theorem d257_50 : decode Y257.2.1 50 = .ok (.aload_n 0, 1) := by decide +kernel
theorem d257_51 : decode Y257.2.1 51 = .ok (.iload 4, 2) := by decide +kernel
theorem d257_53 : decode Y257.2.1 53 = .ok (.iload 5, 2) := by decide +kernel
theorem d257_55 : decode Y257.2.1 55 = .ok (.invokevirtual 307, 3) := by decide +kernel
theorem d257_58 : decode Y257.2.1 58 = .ok (.iload_n 3, 1) := by decide +kernel
theorem d257_59 : decode Y257.2.1 59 = .ok (.if_icmp .ge 9, 3) := by decide +kernel
theorem d257_62 : decode Y257.2.1 62 = .ok (.iinc 5 1, 3) := by decide +kernel
theorem d257_65 : decode Y257.2.1 65 = .ok (.goto (-25), 3) := by decide +kernel
theorem d257_68 : decode Y257.2.1 68 = .ok (.aload_n 0, 1) := by decide +kernel
theorem d257_69 : decode Y257.2.1 69 = .ok (.iload 4, 2) := by decide +kernel
theorem d257_71 : decode Y257.2.1 71 = .ok (.iload 5, 2) := by decide +kernel
theorem d257_73 : decode Y257.2.1 73 = .ok (.invokevirtual 307, 3) := by decide +kernel
theorem d257_76 : decode Y257.2.1 76 = .ok (.iload_n 3, 1) := by decide +kernel
theorem d257_77 : decode Y257.2.1 77 = .ok (.if_icmp .ge 6, 3) := by decide +kernel
theorem d257_80 : decode Y257.2.1 80 = .ok (.bipush (-2), 2) := by decide +kernel
theorem d257_82 : decode Y257.2.1 82 = .ok (.ireturn, 1) := by decide +kernel
theorem d257_83 : decode Y257.2.1 83 = .ok (.iconst 0, 1) := by decide +kernel
theorem d257_84 : decode Y257.2.1 84 = .ok (.istore 6, 2) := by decide +kernel
theorem d257_86 : decode Y257.2.1 86 = .ok (.iload 5, 2) := by decide +kernel
theorem d257_88 : decode Y257.2.1 88 = .ok (.istore 7, 2) := by decide +kernel
theorem d257_90 : decode Y257.2.1 90 = .ok (.bipush 19, 2) := by decide +kernel
theorem d257_92 : decode Y257.2.1 92 = .ok (.istore 8, 2) := by decide +kernel
theorem d257_94 : decode Y257.2.1 94 = .ok (.iload 8, 2) := by decide +kernel
theorem d257_96 : decode Y257.2.1 96 = .ok (.ifCond .lt 83, 3) := by decide +kernel
theorem d257_99 : decode Y257.2.1 99 = .ok (.iload 7, 2) := by decide +kernel
theorem d257_101 : decode Y257.2.1 101 = .ok (.ifCond .le 78, 3) := by decide +kernel
theorem d257_104 : decode Y257.2.1 104 = .ok (.iload 4, 2) := by decide +kernel
theorem d257_106 : decode Y257.2.1 106 = .ok (.iload 8, 2) := by decide +kernel
theorem d257_108 : decode Y257.2.1 108 = .ok (.invokestatic 216, 3) := by decide +kernel
theorem d257_111 : decode Y257.2.1 111 = .ok (.ifCond .ne 6, 3) := by decide +kernel
theorem d257_114 : decode Y257.2.1 114 = .ok (.goto 59, 3) := by decide +kernel
theorem d257_117 : decode Y257.2.1 117 = .ok (.iload 4, 2) := by decide +kernel
theorem d257_119 : decode Y257.2.1 119 = .ok (.iconst 1, 1) := by decide +kernel
theorem d257_120 : decode Y257.2.1 120 = .ok (.iload 8, 2) := by decide +kernel
theorem d257_122 : decode Y257.2.1 122 = .ok (.ishl, 1) := by decide +kernel
theorem d257_123 : decode Y257.2.1 123 = .ok (.ixor, 1) := by decide +kernel
theorem d257_124 : decode Y257.2.1 124 = .ok (.istore 4, 2) := by decide +kernel
theorem d257_126 : decode Y257.2.1 126 = .ok (.iload 4, 2) := by decide +kernel
theorem d257_128 : decode Y257.2.1 128 = .ok (.invokestatic 213, 3) := by decide +kernel
theorem d257_131 : decode Y257.2.1 131 = .ok (.iload 7, 2) := by decide +kernel
theorem d257_133 : decode Y257.2.1 133 = .ok (.if_icmp .lt 18, 3) := by decide +kernel
theorem d257_136 : decode Y257.2.1 136 = .ok (.aload_n 0, 1) := by decide +kernel
theorem d257_137 : decode Y257.2.1 137 = .ok (.iload 4, 2) := by decide +kernel
theorem d257_139 : decode Y257.2.1 139 = .ok (.iload 7, 2) := by decide +kernel
theorem d257_141 : decode Y257.2.1 141 = .ok (.invokevirtual 307, 3) := by decide +kernel
theorem d257_144 : decode Y257.2.1 144 = .ok (.iload_n 3, 1) := by decide +kernel
theorem d257_145 : decode Y257.2.1 145 = .ok (.if_icmp .lt 6, 3) := by decide +kernel
theorem d257_148 : decode Y257.2.1 148 = .ok (.goto 25, 3) := by decide +kernel
theorem d257_151 : decode Y257.2.1 151 = .ok (.iload 6, 2) := by decide +kernel
theorem d257_153 : decode Y257.2.1 153 = .ok (.iconst 1, 1) := by decide +kernel
theorem d257_154 : decode Y257.2.1 154 = .ok (.iload 8, 2) := by decide +kernel
theorem d257_156 : decode Y257.2.1 156 = .ok (.ishl, 1) := by decide +kernel
theorem d257_157 : decode Y257.2.1 157 = .ok (.ior, 1) := by decide +kernel
theorem d257_158 : decode Y257.2.1 158 = .ok (.istore 6, 2) := by decide +kernel
theorem d257_160 : decode Y257.2.1 160 = .ok (.iload_n 3, 1) := by decide +kernel
theorem d257_161 : decode Y257.2.1 161 = .ok (.aload_n 0, 1) := by decide +kernel
theorem d257_162 : decode Y257.2.1 162 = .ok (.iload 8, 2) := by decide +kernel
theorem d257_164 : decode Y257.2.1 164 = .ok (.iconst 4, 1) := by decide +kernel
theorem d257_165 : decode Y257.2.1 165 = .ok (.invokevirtual 83, 3) := by decide +kernel
theorem d257_168 : decode Y257.2.1 168 = .ok (.isub, 1) := by decide +kernel
theorem d257_169 : decode Y257.2.1 169 = .ok (.istore_n 3, 1) := by decide +kernel
theorem d257_170 : decode Y257.2.1 170 = .ok (.iinc 7 (-1), 3) := by decide +kernel
theorem d257_173 : decode Y257.2.1 173 = .ok (.iinc 8 (-1), 3) := by decide +kernel
theorem d257_176 : decode Y257.2.1 176 = .ok (.goto (-82), 3) := by decide +kernel
theorem d257_179 : decode Y257.2.1 179 = .ok (.aload_n 0, 1) := by decide +kernel
theorem d257_180 : decode Y257.2.1 180 = .ok (.iconst 0, 1) := by decide +kernel
theorem d257_181 : decode Y257.2.1 181 = .ok (.putfield 70, 3) := by decide +kernel
theorem d257_184 : decode Y257.2.1 184 = .ok (.aload_n 0, 1) := by decide +kernel
theorem d257_185 : decode Y257.2.1 185 = .ok (.iload 6, 2) := by decide +kernel
theorem d257_187 : decode Y257.2.1 187 = .ok (.i2l, 1) := by decide +kernel
theorem d257_188 : decode Y257.2.1 188 = .ok (.invokevirtual 194, 3) := by decide +kernel
theorem d257_191 : decode Y257.2.1 191 = .ok (.iload 5, 2) := by decide +kernel
theorem d257_193 : decode Y257.2.1 193 = .ok (.ireturn, 1) := by decide +kernel
noncomputable def L257_40 (d : Nat) (a0 : Nat) (x1 : Int32) (x2 : Int32) (x3 : Int32) (x4 : Int32) (x5 : Int32) (m : lt_m) : Option lt_r := lt_run d Y257 40 [some (.inr (.inr (some a0))), some (.inl x1), some (.inl x2), some (.inl x3), some (.inl x4), some (.inl x5), none, none, none] [] m
noncomputable def L257_68 (d : Nat) (a0 : Nat) (x1 : Int32) (x2 : Int32) (x3 : Int32) (x4 : Int32) (x5 : Int32) (m : lt_m) : Option lt_r := lt_run d Y257 68 [some (.inr (.inr (some a0))), some (.inl x1), some (.inl x2), some (.inl x3), some (.inl x4), some (.inl x5), none, none, none] [] m
noncomputable def L257_94 (d : Nat) (a0 : Nat) (x1 : Int32) (x2 : Int32) (x3 : Int32) (x4 : Int32) (x5 : Int32) (x6 : Int32) (x7 : Int32) (x8 : Int32) (m : lt_m) : Option lt_r := lt_run d Y257 94 [some (.inr (.inr (some a0))), some (.inl x1), some (.inl x2), some (.inl x3), some (.inl x4), some (.inl x5), some (.inl x6), some (.inl x7), some (.inl x8)] [] m
noncomputable def L257_151 (d : Nat) (a0 : Nat) (x1 : Int32) (x2 : Int32) (x3 : Int32) (x4 : Int32) (x5 : Int32) (x6 : Int32) (x7 : Int32) (x8 : Int32) (m : lt_m) : Option lt_r := lt_run d Y257 151 [some (.inr (.inr (some a0))), some (.inl x1), some (.inl x2), some (.inl x3), some (.inl x4), some (.inl x5), some (.inl x6), some (.inl x7), some (.inl x8)] [] m
theorem E257 (d : Nat) (a0 : Nat) (x1 : Int32) (x2 : Int32) (h0 : ts_sh a0 = (0, 12)) (m : lt_m) : lt_ev (d + 1) 257 [.inr (.inr (some a0)), .inl x1, .inl x2] m = lt_cI (lt_ev d 213 [.inr (.inr (some a0)), .inl x1] (lm_i m a0 15 (0 : Int32))) (fun v1 m1 => (if v1 = 0 then (some (some (.inl (-1 : Int32)), m1)) else (lt_cI (lt_ev d 258 [.inl x2] m1) (fun v2 m2 => (if ¬ v2 = 0 then (lt_cI (lt_ev d 219 [.inr (.inr (some a0)), .inl x1] m2) (fun v3 m3 => (lt_cI (lt_ev d 220 [.inr (.inr (some a0)), .inl x1] m3) (fun v4 m4 => (L257_40 d a0 x1 x2 (x2 - v3) v4 (0 : Int32) m4))))) else (some (some (.inl (-1 : Int32)), m2))))))) := by
  refine Eq.trans (lt_enter2 (ls := [some (.inr (.inr (some a0))), some (.inl x1), some (.inl x2), none, none, none, none, none, none]) hY257 (Nat.le_of_ble_eq_true rfl) (by rfl)) ?_
  refine Eq.trans (li_aload_n d257_0 (by rfl)) ?_
  refine Eq.trans (li_iconst d257_1 ic_0) ?_
  refine Eq.trans (li_puti d257_2 fa_12_67 h0 rfl rfl) ?_
  refine Eq.trans (li_aload_n d257_5 (by rfl)) ?_
  refine Eq.trans (li_iload_n d257_6 (by rfl)) ?_
  refine Eq.trans (li_ivI d257_7 ca_12_246 kd_213 kl_213 (by rfl) (by rfl) h0 (Nat.le_of_ble_eq_true rfl) (Nat.le_of_ble_eq_true rfl)) ?_
  refine lt_cI_c (fun v1 m1 => ?_)
  refine Eq.trans (li_if_eq (t := 20) d257_10 (by rfl)) ?_
  refine lt_ite (fun c1 => ?_) (fun c1 => ?_)
  · refine Eq.trans (li_iconst d257_20 ic_n1) ?_
    exact li_iret d257_21 rfl
  · refine Eq.trans (li_iload_n d257_13 (by rfl)) ?_
    refine Eq.trans (li_isI d257_14 bi_12_304 ca_12_304 kd_258 (by rfl) (by rfl) (Nat.le_of_ble_eq_true rfl) (Nat.le_of_ble_eq_true rfl)) ?_
    refine lt_cI_c (fun v2 m2 => ?_)
    refine Eq.trans (li_if_ne (t := 22) d257_17 (by rfl)) ?_
    refine lt_ite (fun c2 => ?_) (fun c2 => ?_)
    · refine Eq.trans (li_iload_n d257_22 (by rfl)) ?_
      refine Eq.trans (li_aload_n d257_23 (by rfl)) ?_
      refine Eq.trans (li_iload_n d257_24 (by rfl)) ?_
      refine Eq.trans (li_ivI d257_25 ca_12_252 kd_219 kl_219 (by rfl) (by rfl) h0 (Nat.le_of_ble_eq_true rfl) (Nat.le_of_ble_eq_true rfl)) ?_
      refine lt_cI_c (fun v3 m3 => ?_)
      refine Eq.trans (li_isub d257_28) ?_
      refine Eq.trans (li_istore_n (ls' := [some (.inr (.inr (some a0))), some (.inl x1), some (.inl x2), some (.inl (x2 - v3)), none, none, none, none, none]) d257_29 (by decide) (by rfl)) ?_
      refine Eq.trans (li_aload_n d257_30 (by rfl)) ?_
      refine Eq.trans (li_iload_n d257_31 (by rfl)) ?_
      refine Eq.trans (li_ivI d257_32 ca_12_255 kd_220 kl_220 (by rfl) (by rfl) h0 (Nat.le_of_ble_eq_true rfl) (Nat.le_of_ble_eq_true rfl)) ?_
      refine lt_cI_c (fun v4 m4 => ?_)
      refine Eq.trans (li_istore (ls' := [some (.inr (.inr (some a0))), some (.inl x1), some (.inl x2), some (.inl (x2 - v3)), some (.inl v4), none, none, none, none]) d257_35 (by decide) (by rfl)) ?_
      refine Eq.trans (li_iconst d257_37 ic_0) ?_
      refine Eq.trans (li_istore (ls' := [some (.inr (.inr (some a0))), some (.inl x1), some (.inl x2), some (.inl (x2 - v3)), some (.inl v4), some (.inl (0 : Int32)), none, none, none]) d257_38 (by decide) (by rfl)) ?_
      rfl
    · refine Eq.trans (li_iconst d257_20 ic_n1) ?_
      exact li_iret d257_21 rfl
theorem E257_40 (d : Nat) (a0 : Nat) (x1 : Int32) (x2 : Int32) (x3 : Int32) (x4 : Int32) (x5 : Int32) (h0 : ts_sh a0 = (0, 12)) (m : lt_m) : L257_40 d a0 x1 x2 x3 x4 x5 m = lt_cI (lt_ev d 206 [.inl x4] m) (fun v1 m1 => (if v1 ≤ x5 then (L257_68 d a0 x1 x2 x3 x4 x5 m1) else (lt_cI (lt_ev d 259 [.inr (.inr (some a0)), .inl x4, .inl x5] m1) (fun v2 m2 => (if x3 ≤ v2 then (L257_68 d a0 x1 x2 x3 x4 x5 m2) else (L257_40 d a0 x1 x2 x3 x4 (x5 + (1 : Int32)) m2)))))) := by
  show lt_run d Y257 40 [some (.inr (.inr (some a0))), some (.inl x1), some (.inl x2), some (.inl x3), some (.inl x4), some (.inl x5), none, none, none] [] m = _
  refine Eq.trans (li_iload d257_40 (by rfl)) ?_
  refine Eq.trans (li_iload d257_42 (by rfl)) ?_
  refine Eq.trans (li_isI d257_44 bi_12_213 ca_12_213 kd_206 (by rfl) (by rfl) (Nat.le_of_ble_eq_true rfl) (Nat.le_of_ble_eq_true rfl)) ?_
  refine lt_cI_c (fun v1 m1 => ?_)
  refine Eq.trans (li_icmp_ge (t := 68) d257_47 (by rfl)) ?_
  refine lt_ite (fun c1 => ?_) (fun c1 => ?_)
  · rfl
  · refine Eq.trans (li_aload_n d257_50 (by rfl)) ?_
    refine Eq.trans (li_iload d257_51 (by rfl)) ?_
    refine Eq.trans (li_iload d257_53 (by rfl)) ?_
    refine Eq.trans (li_ivI d257_55 ca_12_307 kd_259 kl_259 (by rfl) (by rfl) h0 (Nat.le_of_ble_eq_true rfl) (Nat.le_of_ble_eq_true rfl)) ?_
    refine lt_cI_c (fun v2 m2 => ?_)
    refine Eq.trans (li_iload_n d257_58 (by rfl)) ?_
    refine Eq.trans (li_icmp_ge (t := 68) d257_59 (by rfl)) ?_
    refine lt_ite (fun c2 => ?_) (fun c2 => ?_)
    · rfl
    · refine Eq.trans (li_iinc (ls' := [some (.inr (.inr (some a0))), some (.inl x1), some (.inl x2), some (.inl x3), some (.inl x4), some (.inl (x5 + (1 : Int32))), none, none, none]) d257_62 (by rfl) (by decide) ic_1 (by rfl)) ?_
      refine Eq.trans (li_goto (t := 40) d257_65 (by rfl)) ?_
      rfl
theorem E257_68 (d : Nat) (a0 : Nat) (x1 : Int32) (x2 : Int32) (x3 : Int32) (x4 : Int32) (x5 : Int32) (h0 : ts_sh a0 = (0, 12)) (m : lt_m) : L257_68 d a0 x1 x2 x3 x4 x5 m = lt_cI (lt_ev d 259 [.inr (.inr (some a0)), .inl x4, .inl x5] m) (fun v1 m1 => (if x3 ≤ v1 then (L257_94 d a0 x1 x2 x3 x4 x5 (0 : Int32) x5 (19 : Int32) m1) else (some (some (.inl (-2 : Int32)), m1)))) := by
  show lt_run d Y257 68 [some (.inr (.inr (some a0))), some (.inl x1), some (.inl x2), some (.inl x3), some (.inl x4), some (.inl x5), none, none, none] [] m = _
  refine Eq.trans (li_aload_n d257_68 (by rfl)) ?_
  refine Eq.trans (li_iload d257_69 (by rfl)) ?_
  refine Eq.trans (li_iload d257_71 (by rfl)) ?_
  refine Eq.trans (li_ivI d257_73 ca_12_307 kd_259 kl_259 (by rfl) (by rfl) h0 (Nat.le_of_ble_eq_true rfl) (Nat.le_of_ble_eq_true rfl)) ?_
  refine lt_cI_c (fun v1 m1 => ?_)
  refine Eq.trans (li_iload_n d257_76 (by rfl)) ?_
  refine Eq.trans (li_icmp_ge (t := 83) d257_77 (by rfl)) ?_
  refine lt_ite (fun c1 => ?_) (fun c1 => ?_)
  · refine Eq.trans (li_iconst d257_83 ic_0) ?_
    refine Eq.trans (li_istore (ls' := [some (.inr (.inr (some a0))), some (.inl x1), some (.inl x2), some (.inl x3), some (.inl x4), some (.inl x5), some (.inl (0 : Int32)), none, none]) d257_84 (by decide) (by rfl)) ?_
    refine Eq.trans (li_iload d257_86 (by rfl)) ?_
    refine Eq.trans (li_istore (ls' := [some (.inr (.inr (some a0))), some (.inl x1), some (.inl x2), some (.inl x3), some (.inl x4), some (.inl x5), some (.inl (0 : Int32)), some (.inl x5), none]) d257_88 (by decide) (by rfl)) ?_
    refine Eq.trans (li_bipush d257_90 bi_19) ?_
    refine Eq.trans (li_istore (ls' := [some (.inr (.inr (some a0))), some (.inl x1), some (.inl x2), some (.inl x3), some (.inl x4), some (.inl x5), some (.inl (0 : Int32)), some (.inl x5), some (.inl (19 : Int32))]) d257_92 (by decide) (by rfl)) ?_
    rfl
  · refine Eq.trans (li_bipush d257_80 bi_n2) ?_
    exact li_iret d257_82 rfl
theorem E257_94 (d : Nat) (a0 : Nat) (x1 : Int32) (x2 : Int32) (x3 : Int32) (x4 : Int32) (x5 : Int32) (x6 : Int32) (x7 : Int32) (x8 : Int32) (h0 : ts_sh a0 = (0, 12)) (m : lt_m) : L257_94 d a0 x1 x2 x3 x4 x5 x6 x7 x8 m = if x8 < 0 then (lt_cV (lt_ev d 202 [.inr (.inr (some a0)), .inr (.inl ((x6).toInt64))] (lm_i m a0 14 (0 : Int32))) (fun m1 => (some (some (.inl x5), m1)))) else (if x7 ≤ 0 then (lt_cV (lt_ev d 202 [.inr (.inr (some a0)), .inr (.inl ((x6).toInt64))] (lm_i m a0 14 (0 : Int32))) (fun m2 => (some (some (.inl x5), m2)))) else (lt_cI (lt_ev d 207 [.inl x4, .inl x8] m) (fun v1 m3 => (if ¬ v1 = 0 then (lt_cI (lt_ev d 206 [.inl (x4 ^^^ ((1 : Int32) <<< (x8 &&& 31)))] m3) (fun v2 m4 => (if v2 < x7 then (L257_151 d a0 x1 x2 x3 (x4 ^^^ ((1 : Int32) <<< (x8 &&& 31))) x5 x6 x7 x8 m4) else (lt_cI (lt_ev d 259 [.inr (.inr (some a0)), .inl (x4 ^^^ ((1 : Int32) <<< (x8 &&& 31))), .inl x7] m4) (fun v3 m5 => (if v3 < x3 then (L257_151 d a0 x1 x2 x3 (x4 ^^^ ((1 : Int32) <<< (x8 &&& 31))) x5 x6 x7 x8 m5) else (L257_94 d a0 x1 x2 x3 (x4 ^^^ ((1 : Int32) <<< (x8 &&& 31))) x5 x6 x7 (x8 + (-1 : Int32)) m5))))))) else (L257_94 d a0 x1 x2 x3 x4 x5 x6 x7 (x8 + (-1 : Int32)) m3))))) := by
  show lt_run d Y257 94 [some (.inr (.inr (some a0))), some (.inl x1), some (.inl x2), some (.inl x3), some (.inl x4), some (.inl x5), some (.inl x6), some (.inl x7), some (.inl x8)] [] m = _
  refine Eq.trans (li_iload d257_94 (by rfl)) ?_
  refine Eq.trans (li_if_lt (t := 179) d257_96 (by rfl)) ?_
  refine lt_ite (fun c1 => ?_) (fun c1 => ?_)
  · refine Eq.trans (li_aload_n d257_179 (by rfl)) ?_
    refine Eq.trans (li_iconst d257_180 ic_0) ?_
    refine Eq.trans (li_puti d257_181 fa_12_70 h0 rfl rfl) ?_
    refine Eq.trans (li_aload_n d257_184 (by rfl)) ?_
    refine Eq.trans (li_iload d257_185 (by rfl)) ?_
    refine Eq.trans (li_i2l d257_187) ?_
    refine Eq.trans (li_ivV d257_188 ca_12_194 kd_202 kl_202 (by rfl) (by rfl) h0 (Nat.le_of_ble_eq_true rfl) (Nat.le_of_ble_eq_true rfl)) ?_
    refine lt_cV_c (fun m1 => ?_)
    refine Eq.trans (li_iload d257_191 (by rfl)) ?_
    exact li_iret d257_193 rfl
  · refine Eq.trans (li_iload d257_99 (by rfl)) ?_
    refine Eq.trans (li_if_le (t := 179) d257_101 (by rfl)) ?_
    refine lt_ite (fun c2 => ?_) (fun c2 => ?_)
    · refine Eq.trans (li_aload_n d257_179 (by rfl)) ?_
      refine Eq.trans (li_iconst d257_180 ic_0) ?_
      refine Eq.trans (li_puti d257_181 fa_12_70 h0 rfl rfl) ?_
      refine Eq.trans (li_aload_n d257_184 (by rfl)) ?_
      refine Eq.trans (li_iload d257_185 (by rfl)) ?_
      refine Eq.trans (li_i2l d257_187) ?_
      refine Eq.trans (li_ivV d257_188 ca_12_194 kd_202 kl_202 (by rfl) (by rfl) h0 (Nat.le_of_ble_eq_true rfl) (Nat.le_of_ble_eq_true rfl)) ?_
      refine lt_cV_c (fun m2 => ?_)
      refine Eq.trans (li_iload d257_191 (by rfl)) ?_
      exact li_iret d257_193 rfl
    · refine Eq.trans (li_iload d257_104 (by rfl)) ?_
      refine Eq.trans (li_iload d257_106 (by rfl)) ?_
      refine Eq.trans (li_isI d257_108 bi_12_216 ca_12_216 kd_207 (by rfl) (by rfl) (Nat.le_of_ble_eq_true rfl) (Nat.le_of_ble_eq_true rfl)) ?_
      refine lt_cI_c (fun v1 m3 => ?_)
      refine Eq.trans (li_if_ne (t := 117) d257_111 (by rfl)) ?_
      refine lt_ite (fun c3 => ?_) (fun c3 => ?_)
      · refine Eq.trans (li_iload d257_117 (by rfl)) ?_
        refine Eq.trans (li_iconst d257_119 ic_1) ?_
        refine Eq.trans (li_iload d257_120 (by rfl)) ?_
        refine Eq.trans (li_ishl d257_122) ?_
        refine Eq.trans (li_ixor d257_123) ?_
        refine Eq.trans (li_istore (ls' := [some (.inr (.inr (some a0))), some (.inl x1), some (.inl x2), some (.inl x3), some (.inl (x4 ^^^ ((1 : Int32) <<< (x8 &&& 31)))), some (.inl x5), some (.inl x6), some (.inl x7), some (.inl x8)]) d257_124 (by decide) (by rfl)) ?_
        refine Eq.trans (li_iload d257_126 (by rfl)) ?_
        refine Eq.trans (li_isI d257_128 bi_12_213 ca_12_213 kd_206 (by rfl) (by rfl) (Nat.le_of_ble_eq_true rfl) (Nat.le_of_ble_eq_true rfl)) ?_
        refine lt_cI_c (fun v2 m4 => ?_)
        refine Eq.trans (li_iload d257_131 (by rfl)) ?_
        refine Eq.trans (li_icmp_lt (t := 151) d257_133 (by rfl)) ?_
        refine lt_ite (fun c4 => ?_) (fun c4 => ?_)
        · rfl
        · refine Eq.trans (li_aload_n d257_136 (by rfl)) ?_
          refine Eq.trans (li_iload d257_137 (by rfl)) ?_
          refine Eq.trans (li_iload d257_139 (by rfl)) ?_
          refine Eq.trans (li_ivI d257_141 ca_12_307 kd_259 kl_259 (by rfl) (by rfl) h0 (Nat.le_of_ble_eq_true rfl) (Nat.le_of_ble_eq_true rfl)) ?_
          refine lt_cI_c (fun v3 m5 => ?_)
          refine Eq.trans (li_iload_n d257_144 (by rfl)) ?_
          refine Eq.trans (li_icmp_lt (t := 151) d257_145 (by rfl)) ?_
          refine lt_ite (fun c5 => ?_) (fun c5 => ?_)
          · rfl
          · refine Eq.trans (li_goto (t := 173) d257_148 (by rfl)) ?_
            refine Eq.trans (li_iinc (ls' := [some (.inr (.inr (some a0))), some (.inl x1), some (.inl x2), some (.inl x3), some (.inl (x4 ^^^ ((1 : Int32) <<< (x8 &&& 31)))), some (.inl x5), some (.inl x6), some (.inl x7), some (.inl (x8 + (-1 : Int32)))]) d257_173 (by rfl) (by decide) ic_n1 (by rfl)) ?_
            refine Eq.trans (li_goto (t := 94) d257_176 (by rfl)) ?_
            rfl
      · refine Eq.trans (li_goto (t := 173) d257_114 (by rfl)) ?_
        refine Eq.trans (li_iinc (ls' := [some (.inr (.inr (some a0))), some (.inl x1), some (.inl x2), some (.inl x3), some (.inl x4), some (.inl x5), some (.inl x6), some (.inl x7), some (.inl (x8 + (-1 : Int32)))]) d257_173 (by rfl) (by decide) ic_n1 (by rfl)) ?_
        refine Eq.trans (li_goto (t := 94) d257_176 (by rfl)) ?_
        rfl
theorem E257_151 (d : Nat) (a0 : Nat) (x1 : Int32) (x2 : Int32) (x3 : Int32) (x4 : Int32) (x5 : Int32) (x6 : Int32) (x7 : Int32) (x8 : Int32) (h0 : ts_sh a0 = (0, 12)) (m : lt_m) : L257_151 d a0 x1 x2 x3 x4 x5 x6 x7 x8 m = lt_cI (lt_ev d 198 [.inr (.inr (some a0)), .inl x8, .inl (4 : Int32)] m) (fun v1 m1 => (L257_94 d a0 x1 x2 (x3 - v1) x4 x5 (x6 ||| ((1 : Int32) <<< (x8 &&& 31))) (x7 + (-1 : Int32)) (x8 + (-1 : Int32)) m1)) := by
  show lt_run d Y257 151 [some (.inr (.inr (some a0))), some (.inl x1), some (.inl x2), some (.inl x3), some (.inl x4), some (.inl x5), some (.inl x6), some (.inl x7), some (.inl x8)] [] m = _
  refine Eq.trans (li_iload d257_151 (by rfl)) ?_
  refine Eq.trans (li_iconst d257_153 ic_1) ?_
  refine Eq.trans (li_iload d257_154 (by rfl)) ?_
  refine Eq.trans (li_ishl d257_156) ?_
  refine Eq.trans (li_ior d257_157) ?_
  refine Eq.trans (li_istore (ls' := [some (.inr (.inr (some a0))), some (.inl x1), some (.inl x2), some (.inl x3), some (.inl x4), some (.inl x5), some (.inl (x6 ||| ((1 : Int32) <<< (x8 &&& 31)))), some (.inl x7), some (.inl x8)]) d257_158 (by decide) (by rfl)) ?_
  refine Eq.trans (li_iload_n d257_160 (by rfl)) ?_
  refine Eq.trans (li_aload_n d257_161 (by rfl)) ?_
  refine Eq.trans (li_iload d257_162 (by rfl)) ?_
  refine Eq.trans (li_iconst d257_164 ic_4) ?_
  refine Eq.trans (li_ivI d257_165 ca_12_83 kd_198 kl_198 (by rfl) (by rfl) h0 (Nat.le_of_ble_eq_true rfl) (Nat.le_of_ble_eq_true rfl)) ?_
  refine lt_cI_c (fun v1 m1 => ?_)
  refine Eq.trans (li_isub d257_168) ?_
  refine Eq.trans (li_istore_n (ls' := [some (.inr (.inr (some a0))), some (.inl x1), some (.inl x2), some (.inl (x3 - v1)), some (.inl x4), some (.inl x5), some (.inl (x6 ||| ((1 : Int32) <<< (x8 &&& 31)))), some (.inl x7), some (.inl x8)]) d257_169 (by decide) (by rfl)) ?_
  refine Eq.trans (li_iinc (ls' := [some (.inr (.inr (some a0))), some (.inl x1), some (.inl x2), some (.inl (x3 - v1)), some (.inl x4), some (.inl x5), some (.inl (x6 ||| ((1 : Int32) <<< (x8 &&& 31)))), some (.inl (x7 + (-1 : Int32))), some (.inl x8)]) d257_170 (by rfl) (by decide) ic_n1 (by rfl)) ?_
  refine Eq.trans (li_iinc (ls' := [some (.inr (.inr (some a0))), some (.inl x1), some (.inl x2), some (.inl (x3 - v1)), some (.inl x4), some (.inl x5), some (.inl (x6 ||| ((1 : Int32) <<< (x8 &&& 31)))), some (.inl (x7 + (-1 : Int32))), some (.inl (x8 + (-1 : Int32)))]) d257_173 (by rfl) (by decide) ic_n1 (by rfl)) ?_
  refine Eq.trans (li_goto (t := 94) d257_176 (by rfl)) ?_
  rfl
/-! TransitSealsModel.isShare(I)Z -/
theorem d258_0 : decode Y258.2.1 0 = .ok (.iload_n 0, 1) := by decide +kernel
theorem d258_1 : decode Y258.2.1 1 = .ok (.i2l, 1) := by decide +kernel
theorem d258_2 : decode Y258.2.1 2 = .ok (.lconst 0, 1) := by decide +kernel
theorem d258_3 : decode Y258.2.1 3 = .ok (.ldc2_w 227, 3) := by decide +kernel
theorem d258_6 : decode Y258.2.1 6 = .ok (.invokestatic 76, 3) := by decide +kernel
theorem d258_9 : decode Y258.2.1 9 = .ok (.ireturn, 1) := by decide +kernel
theorem E258 (d : Nat) (x0 : Int32)  (m : lt_m) : lt_ev (d + 1) 258 [.inl x0] m = lt_cI (lt_ev d 181 [.inr (.inl ((x0).toInt64)), .inr (.inl (0 : Int64)), .inr (.inl (999999 : Int64))] m) (fun v1 m1 => (lt_gd (v1 = 0 ∨ v1 = 1) (some (some (.inl v1), m1)))) := by
  refine Eq.trans (lt_enter2 (ls := [some (.inl x0)]) hY258 (Nat.le_of_ble_eq_true rfl) (by rfl)) ?_
  refine Eq.trans (li_iload_n d258_0 (by rfl)) ?_
  refine Eq.trans (li_i2l d258_1) ?_
  refine Eq.trans (li_lconst (v := 0) d258_2 (by decide)) ?_
  refine Eq.trans (li_ldc2_w d258_3 cJ_12_227) ?_
  refine Eq.trans (li_isI d258_6 bi_12_76 ca_12_76 kd_181 (by rfl) (by rfl) (Nat.le_of_ble_eq_true rfl) (Nat.le_of_ble_eq_true rfl)) ?_
  refine lt_cI_c (fun v1 m1 => ?_)
  exact li_zretg d258_9 rfl
/-! TransitSealsModel.most(II)I -/
theorem d259_0 : decode Y259.2.1 0 = .ok (.iload_n 1, 1) := by decide +kernel
theorem d259_1 : decode Y259.2.1 1 = .ok (.istore_n 3, 1) := by decide +kernel
theorem d259_2 : decode Y259.2.1 2 = .ok (.iconst 0, 1) := by decide +kernel
theorem d259_3 : decode Y259.2.1 3 = .ok (.istore 4, 2) := by decide +kernel
theorem d259_5 : decode Y259.2.1 5 = .ok (.iconst 0, 1) := by decide +kernel
theorem d259_6 : decode Y259.2.1 6 = .ok (.istore 5, 2) := by decide +kernel
theorem d259_8 : decode Y259.2.1 8 = .ok (.iload 5, 2) := by decide +kernel
theorem d259_10 : decode Y259.2.1 10 = .ok (.iload_n 2, 1) := by decide +kernel
theorem d259_11 : decode Y259.2.1 11 = .ok (.if_icmp .ge 91, 3) := by decide +kernel
theorem d259_14 : decode Y259.2.1 14 = .ok (.iload_n 3, 1) := by decide +kernel
theorem d259_15 : decode Y259.2.1 15 = .ok (.ifCond .eq 87, 3) := by decide +kernel
theorem d259_18 : decode Y259.2.1 18 = .ok (.iconst (-1), 1) := by decide +kernel
theorem d259_19 : decode Y259.2.1 19 = .ok (.istore 6, 2) := by decide +kernel
theorem d259_21 : decode Y259.2.1 21 = .ok (.iconst 0, 1) := by decide +kernel
theorem d259_22 : decode Y259.2.1 22 = .ok (.istore 7, 2) := by decide +kernel
theorem d259_24 : decode Y259.2.1 24 = .ok (.iload 7, 2) := by decide +kernel
theorem d259_26 : decode Y259.2.1 26 = .ok (.aload_n 0, 1) := by decide +kernel
theorem d259_27 : decode Y259.2.1 27 = .ok (.getfield 7, 3) := by decide +kernel
theorem d259_30 : decode Y259.2.1 30 = .ok (.iconst 2, 1) := by decide +kernel
theorem d259_31 : decode Y259.2.1 31 = .ok (.iaload, 1) := by decide +kernel
theorem d259_32 : decode Y259.2.1 32 = .ok (.if_icmp .ge 45, 3) := by decide +kernel
theorem d259_35 : decode Y259.2.1 35 = .ok (.iload_n 3, 1) := by decide +kernel
theorem d259_36 : decode Y259.2.1 36 = .ok (.iload 7, 2) := by decide +kernel
theorem d259_38 : decode Y259.2.1 38 = .ok (.invokestatic 216, 3) := by decide +kernel
theorem d259_41 : decode Y259.2.1 41 = .ok (.ifCond .eq 30, 3) := by decide +kernel
theorem d259_44 : decode Y259.2.1 44 = .ok (.iload 6, 2) := by decide +kernel
theorem d259_46 : decode Y259.2.1 46 = .ok (.iconst (-1), 1) := by decide +kernel
theorem d259_47 : decode Y259.2.1 47 = .ok (.if_icmp .eq 20, 3) := by decide +kernel
theorem d259_50 : decode Y259.2.1 50 = .ok (.aload_n 0, 1) := by decide +kernel
theorem d259_51 : decode Y259.2.1 51 = .ok (.iload 7, 2) := by decide +kernel
theorem d259_53 : decode Y259.2.1 53 = .ok (.iconst 4, 1) := by decide +kernel
theorem d259_54 : decode Y259.2.1 54 = .ok (.invokevirtual 83, 3) := by decide +kernel
theorem d259_57 : decode Y259.2.1 57 = .ok (.aload_n 0, 1) := by decide +kernel
theorem d259_58 : decode Y259.2.1 58 = .ok (.iload 6, 2) := by decide +kernel
theorem d259_60 : decode Y259.2.1 60 = .ok (.iconst 4, 1) := by decide +kernel
theorem d259_61 : decode Y259.2.1 61 = .ok (.invokevirtual 83, 3) := by decide +kernel
theorem d259_64 : decode Y259.2.1 64 = .ok (.if_icmp .le 7, 3) := by decide +kernel
theorem d259_67 : decode Y259.2.1 67 = .ok (.iload 7, 2) := by decide +kernel
theorem d259_69 : decode Y259.2.1 69 = .ok (.istore 6, 2) := by decide +kernel
theorem d259_71 : decode Y259.2.1 71 = .ok (.iinc 7 1, 3) := by decide +kernel
theorem d259_74 : decode Y259.2.1 74 = .ok (.goto (-50), 3) := by decide +kernel
theorem d259_77 : decode Y259.2.1 77 = .ok (.iload 4, 2) := by decide +kernel
theorem d259_79 : decode Y259.2.1 79 = .ok (.aload_n 0, 1) := by decide +kernel
theorem d259_80 : decode Y259.2.1 80 = .ok (.iload 6, 2) := by decide +kernel
theorem d259_82 : decode Y259.2.1 82 = .ok (.iconst 4, 1) := by decide +kernel
theorem d259_83 : decode Y259.2.1 83 = .ok (.invokevirtual 83, 3) := by decide +kernel
theorem d259_86 : decode Y259.2.1 86 = .ok (.iadd, 1) := by decide +kernel
theorem d259_87 : decode Y259.2.1 87 = .ok (.istore 4, 2) := by decide +kernel
theorem d259_89 : decode Y259.2.1 89 = .ok (.iload_n 3, 1) := by decide +kernel
theorem d259_90 : decode Y259.2.1 90 = .ok (.iconst 1, 1) := by decide +kernel
theorem d259_91 : decode Y259.2.1 91 = .ok (.iload 6, 2) := by decide +kernel
theorem d259_93 : decode Y259.2.1 93 = .ok (.ishl, 1) := by decide +kernel
theorem d259_94 : decode Y259.2.1 94 = .ok (.ixor, 1) := by decide +kernel
theorem d259_95 : decode Y259.2.1 95 = .ok (.istore_n 3, 1) := by decide +kernel
theorem d259_96 : decode Y259.2.1 96 = .ok (.iinc 5 1, 3) := by decide +kernel
theorem d259_99 : decode Y259.2.1 99 = .ok (.goto (-91), 3) := by decide +kernel
theorem d259_102 : decode Y259.2.1 102 = .ok (.iload 4, 2) := by decide +kernel
theorem d259_104 : decode Y259.2.1 104 = .ok (.ireturn, 1) := by decide +kernel
noncomputable def L259_8 (d : Nat) (a0 : Nat) (x1 : Int32) (x2 : Int32) (x3 : Int32) (x4 : Int32) (x5 : Int32) (o6 : Option ts_V) (o7 : Option ts_V) (m : lt_m) : Option lt_r := lt_run d Y259 8 [some (.inr (.inr (some a0))), some (.inl x1), some (.inl x2), some (.inl x3), some (.inl x4), some (.inl x5), o6, o7] [] m
noncomputable def L259_24 (d : Nat) (a0 : Nat) (x1 : Int32) (x2 : Int32) (x3 : Int32) (x4 : Int32) (x5 : Int32) (x6 : Int32) (x7 : Int32) (m : lt_m) : Option lt_r := lt_run d Y259 24 [some (.inr (.inr (some a0))), some (.inl x1), some (.inl x2), some (.inl x3), some (.inl x4), some (.inl x5), some (.inl x6), some (.inl x7)] [] m
theorem E259 (d : Nat) (a0 : Nat) (x1 : Int32) (x2 : Int32) (h0 : ts_sh a0 = (0, 12)) (m : lt_m) : lt_ev (d + 1) 259 [.inr (.inr (some a0)), .inl x1, .inl x2] m = L259_8 d a0 x1 x2 x1 (0 : Int32) (0 : Int32) none none m := by
  refine Eq.trans (lt_enter2 (ls := [some (.inr (.inr (some a0))), some (.inl x1), some (.inl x2), none, none, none, none, none]) hY259 (Nat.le_of_ble_eq_true rfl) (by rfl)) ?_
  refine Eq.trans (li_iload_n d259_0 (by rfl)) ?_
  refine Eq.trans (li_istore_n (ls' := [some (.inr (.inr (some a0))), some (.inl x1), some (.inl x2), some (.inl x1), none, none, none, none]) d259_1 (by decide) (by rfl)) ?_
  refine Eq.trans (li_iconst d259_2 ic_0) ?_
  refine Eq.trans (li_istore (ls' := [some (.inr (.inr (some a0))), some (.inl x1), some (.inl x2), some (.inl x1), some (.inl (0 : Int32)), none, none, none]) d259_3 (by decide) (by rfl)) ?_
  refine Eq.trans (li_iconst d259_5 ic_0) ?_
  refine Eq.trans (li_istore (ls' := [some (.inr (.inr (some a0))), some (.inl x1), some (.inl x2), some (.inl x1), some (.inl (0 : Int32)), some (.inl (0 : Int32)), none, none]) d259_6 (by decide) (by rfl)) ?_
  rfl
theorem E259_8 (d : Nat) (a0 : Nat) (x1 : Int32) (x2 : Int32) (x3 : Int32) (x4 : Int32) (x5 : Int32) (o6 : Option ts_V) (o7 : Option ts_V)  (m : lt_m) : L259_8 d a0 x1 x2 x3 x4 x5 o6 o7 m = if x2 ≤ x5 then (some (some (.inl x4), m)) else (if x3 = 0 then (some (some (.inl x4), m)) else (L259_24 d a0 x1 x2 x3 x4 x5 (-1 : Int32) (0 : Int32) m)) := by
  show lt_run d Y259 8 [some (.inr (.inr (some a0))), some (.inl x1), some (.inl x2), some (.inl x3), some (.inl x4), some (.inl x5), o6, o7] [] m = _
  refine Eq.trans (li_iload d259_8 (by rfl)) ?_
  refine Eq.trans (li_iload_n d259_10 (by rfl)) ?_
  refine Eq.trans (li_icmp_ge (t := 102) d259_11 (by rfl)) ?_
  refine lt_ite (fun c1 => ?_) (fun c1 => ?_)
  · refine Eq.trans (li_iload d259_102 (by rfl)) ?_
    exact li_iret d259_104 rfl
  · refine Eq.trans (li_iload_n d259_14 (by rfl)) ?_
    refine Eq.trans (li_if_eq (t := 102) d259_15 (by rfl)) ?_
    refine lt_ite (fun c2 => ?_) (fun c2 => ?_)
    · refine Eq.trans (li_iload d259_102 (by rfl)) ?_
      exact li_iret d259_104 rfl
    · refine Eq.trans (li_iconst d259_18 ic_n1) ?_
      refine Eq.trans (li_istore (ls' := [some (.inr (.inr (some a0))), some (.inl x1), some (.inl x2), some (.inl x3), some (.inl x4), some (.inl x5), some (.inl (-1 : Int32)), o7]) d259_19 (by decide) (by rfl)) ?_
      refine Eq.trans (li_iconst d259_21 ic_0) ?_
      refine Eq.trans (li_istore (ls' := [some (.inr (.inr (some a0))), some (.inl x1), some (.inl x2), some (.inl x3), some (.inl x4), some (.inl x5), some (.inl (-1 : Int32)), some (.inl (0 : Int32))]) d259_22 (by decide) (by rfl)) ?_
      rfl
theorem E259_24 (d : Nat) (a0 : Nat) (x1 : Int32) (x2 : Int32) (x3 : Int32) (x4 : Int32) (x5 : Int32) (x6 : Int32) (x7 : Int32) (h0 : ts_sh a0 = (0, 12)) (m : lt_m) : L259_24 d a0 x1 x2 x3 x4 x5 x6 x7 m = lt_gd (0 ≤ (2 : Int32) ∧ ((2 : Int32)).toNatClampNeg < 626) (if (m.1 (a0 + 1) ((2 : Int32)).toNatClampNeg) ≤ x7 then (lt_cI (lt_ev d 198 [.inr (.inr (some a0)), .inl x6, .inl (4 : Int32)] m) (fun v1 m1 => (L259_8 d a0 x1 x2 (x3 ^^^ ((1 : Int32) <<< (x6 &&& 31))) (x4 + v1) (x5 + (1 : Int32)) (some (.inl x6)) (some (.inl x7)) m1))) else (lt_cI (lt_ev d 207 [.inl x3, .inl x7] m) (fun v2 m2 => (if v2 = 0 then (L259_24 d a0 x1 x2 x3 x4 x5 x6 (x7 + (1 : Int32)) m2) else (if x6 = (-1 : Int32) then (L259_24 d a0 x1 x2 x3 x4 x5 x7 (x7 + (1 : Int32)) m2) else (lt_cI (lt_ev d 198 [.inr (.inr (some a0)), .inl x7, .inl (4 : Int32)] m2) (fun v3 m3 => (lt_cI (lt_ev d 198 [.inr (.inr (some a0)), .inl x6, .inl (4 : Int32)] m3) (fun v4 m4 => (if v3 ≤ v4 then (L259_24 d a0 x1 x2 x3 x4 x5 x6 (x7 + (1 : Int32)) m4) else (L259_24 d a0 x1 x2 x3 x4 x5 x7 (x7 + (1 : Int32)) m4))))))))))) := by
  show lt_run d Y259 24 [some (.inr (.inr (some a0))), some (.inl x1), some (.inl x2), some (.inl x3), some (.inl x4), some (.inl x5), some (.inl x6), some (.inl x7)] [] m = _
  refine Eq.trans (li_iload d259_24 (by rfl)) ?_
  refine Eq.trans (li_aload_n d259_26 (by rfl)) ?_
  refine Eq.trans (li_getr d259_27 fa_12_7 h0 rfl rfl rfl (by decide)) ?_
  refine Eq.trans (li_iconst d259_30 ic_2) ?_
  refine Eq.trans (li_iald d259_31 (sf_of h0 0 (by decide) (by decide))) ?_
  refine lt_gd_c (fun g1 => ?_)
  refine Eq.trans (li_icmp_ge (t := 77) d259_32 (by rfl)) ?_
  refine lt_ite (fun c1 => ?_) (fun c1 => ?_)
  · refine Eq.trans (li_iload d259_77 (by rfl)) ?_
    refine Eq.trans (li_aload_n d259_79 (by rfl)) ?_
    refine Eq.trans (li_iload d259_80 (by rfl)) ?_
    refine Eq.trans (li_iconst d259_82 ic_4) ?_
    refine Eq.trans (li_ivI d259_83 ca_12_83 kd_198 kl_198 (by rfl) (by rfl) h0 (Nat.le_of_ble_eq_true rfl) (Nat.le_of_ble_eq_true rfl)) ?_
    refine lt_cI_c (fun v1 m1 => ?_)
    refine Eq.trans (li_iadd d259_86) ?_
    refine Eq.trans (li_istore (ls' := [some (.inr (.inr (some a0))), some (.inl x1), some (.inl x2), some (.inl x3), some (.inl (x4 + v1)), some (.inl x5), some (.inl x6), some (.inl x7)]) d259_87 (by decide) (by rfl)) ?_
    refine Eq.trans (li_iload_n d259_89 (by rfl)) ?_
    refine Eq.trans (li_iconst d259_90 ic_1) ?_
    refine Eq.trans (li_iload d259_91 (by rfl)) ?_
    refine Eq.trans (li_ishl d259_93) ?_
    refine Eq.trans (li_ixor d259_94) ?_
    refine Eq.trans (li_istore_n (ls' := [some (.inr (.inr (some a0))), some (.inl x1), some (.inl x2), some (.inl (x3 ^^^ ((1 : Int32) <<< (x6 &&& 31)))), some (.inl (x4 + v1)), some (.inl x5), some (.inl x6), some (.inl x7)]) d259_95 (by decide) (by rfl)) ?_
    refine Eq.trans (li_iinc (ls' := [some (.inr (.inr (some a0))), some (.inl x1), some (.inl x2), some (.inl (x3 ^^^ ((1 : Int32) <<< (x6 &&& 31)))), some (.inl (x4 + v1)), some (.inl (x5 + (1 : Int32))), some (.inl x6), some (.inl x7)]) d259_96 (by rfl) (by decide) ic_1 (by rfl)) ?_
    refine Eq.trans (li_goto (t := 8) d259_99 (by rfl)) ?_
    rfl
  · refine Eq.trans (li_iload_n d259_35 (by rfl)) ?_
    refine Eq.trans (li_iload d259_36 (by rfl)) ?_
    refine Eq.trans (li_isI d259_38 bi_12_216 ca_12_216 kd_207 (by rfl) (by rfl) (Nat.le_of_ble_eq_true rfl) (Nat.le_of_ble_eq_true rfl)) ?_
    refine lt_cI_c (fun v2 m2 => ?_)
    refine Eq.trans (li_if_eq (t := 71) d259_41 (by rfl)) ?_
    refine lt_ite (fun c2 => ?_) (fun c2 => ?_)
    · refine Eq.trans (li_iinc (ls' := [some (.inr (.inr (some a0))), some (.inl x1), some (.inl x2), some (.inl x3), some (.inl x4), some (.inl x5), some (.inl x6), some (.inl (x7 + (1 : Int32)))]) d259_71 (by rfl) (by decide) ic_1 (by rfl)) ?_
      refine Eq.trans (li_goto (t := 24) d259_74 (by rfl)) ?_
      rfl
    · refine Eq.trans (li_iload d259_44 (by rfl)) ?_
      refine Eq.trans (li_iconst d259_46 ic_n1) ?_
      refine Eq.trans (li_icmp_eq (t := 67) d259_47 (by rfl)) ?_
      refine lt_ite (fun c3 => ?_) (fun c3 => ?_)
      · refine Eq.trans (li_iload d259_67 (by rfl)) ?_
        refine Eq.trans (li_istore (ls' := [some (.inr (.inr (some a0))), some (.inl x1), some (.inl x2), some (.inl x3), some (.inl x4), some (.inl x5), some (.inl x7), some (.inl x7)]) d259_69 (by decide) (by rfl)) ?_
        refine Eq.trans (li_iinc (ls' := [some (.inr (.inr (some a0))), some (.inl x1), some (.inl x2), some (.inl x3), some (.inl x4), some (.inl x5), some (.inl x7), some (.inl (x7 + (1 : Int32)))]) d259_71 (by rfl) (by decide) ic_1 (by rfl)) ?_
        refine Eq.trans (li_goto (t := 24) d259_74 (by rfl)) ?_
        rfl
      · refine Eq.trans (li_aload_n d259_50 (by rfl)) ?_
        refine Eq.trans (li_iload d259_51 (by rfl)) ?_
        refine Eq.trans (li_iconst d259_53 ic_4) ?_
        refine Eq.trans (li_ivI d259_54 ca_12_83 kd_198 kl_198 (by rfl) (by rfl) h0 (Nat.le_of_ble_eq_true rfl) (Nat.le_of_ble_eq_true rfl)) ?_
        refine lt_cI_c (fun v3 m3 => ?_)
        refine Eq.trans (li_aload_n d259_57 (by rfl)) ?_
        refine Eq.trans (li_iload d259_58 (by rfl)) ?_
        refine Eq.trans (li_iconst d259_60 ic_4) ?_
        refine Eq.trans (li_ivI d259_61 ca_12_83 kd_198 kl_198 (by rfl) (by rfl) h0 (Nat.le_of_ble_eq_true rfl) (Nat.le_of_ble_eq_true rfl)) ?_
        refine lt_cI_c (fun v4 m4 => ?_)
        refine Eq.trans (li_icmp_le (t := 71) d259_64 (by rfl)) ?_
        refine lt_ite (fun c4 => ?_) (fun c4 => ?_)
        · refine Eq.trans (li_iinc (ls' := [some (.inr (.inr (some a0))), some (.inl x1), some (.inl x2), some (.inl x3), some (.inl x4), some (.inl x5), some (.inl x6), some (.inl (x7 + (1 : Int32)))]) d259_71 (by rfl) (by decide) ic_1 (by rfl)) ?_
          refine Eq.trans (li_goto (t := 24) d259_74 (by rfl)) ?_
          rfl
        · refine Eq.trans (li_iload d259_67 (by rfl)) ?_
          refine Eq.trans (li_istore (ls' := [some (.inr (.inr (some a0))), some (.inl x1), some (.inl x2), some (.inl x3), some (.inl x4), some (.inl x5), some (.inl x7), some (.inl x7)]) d259_69 (by decide) (by rfl)) ?_
          refine Eq.trans (li_iinc (ls' := [some (.inr (.inr (some a0))), some (.inl x1), some (.inl x2), some (.inl x3), some (.inl x4), some (.inl x5), some (.inl x7), some (.inl (x7 + (1 : Int32)))]) d259_71 (by rfl) (by decide) ic_1 (by rfl)) ?_
          refine Eq.trans (li_goto (t := 24) d259_74 (by rfl)) ?_
          rfl
/-! TransitSealsModel.when(II)I -/
theorem d260_0 : decode Y260.2.1 0 = .ok (.aload_n 0, 1) := by decide +kernel
theorem d260_1 : decode Y260.2.1 1 = .ok (.iconst 0, 1) := by decide +kernel
theorem d260_2 : decode Y260.2.1 2 = .ok (.putfield 67, 3) := by decide +kernel
theorem d260_5 : decode Y260.2.1 5 = .ok (.aload_n 0, 1) := by decide +kernel
theorem d260_6 : decode Y260.2.1 6 = .ok (.iload_n 1, 1) := by decide +kernel
theorem d260_7 : decode Y260.2.1 7 = .ok (.invokevirtual 246, 3) := by decide +kernel
theorem d260_10 : decode Y260.2.1 10 = .ok (.ifCond .eq 10, 3) := by decide +kernel
theorem d260_13 : decode Y260.2.1 13 = .ok (.iload_n 2, 1) := by decide +kernel
theorem d260_14 : decode Y260.2.1 14 = .ok (.invokestatic 304, 3) := by decide +kernel
theorem d260_17 : decode Y260.2.1 17 = .ok (.ifCond .ne 5, 3) := by decide +kernel
theorem d260_20 : decode Y260.2.1 20 = .ok (.iconst (-1), 1) := by decide +kernel
theorem d260_21 : decode Y260.2.1 21 = .ok (.ireturn, 1) := by decide +kernel
theorem d260_22 : decode Y260.2.1 22 = .ok (.iconst 0, 1) := by decide +kernel
theorem d260_23 : decode Y260.2.1 23 = .ok (.istore_n 3, 1) := by decide +kernel
theorem d260_24 : decode Y260.2.1 24 = .ok (.aload_n 0, 1) := by decide +kernel
theorem d260_25 : decode Y260.2.1 25 = .ok (.iload_n 1, 1) := by decide +kernel
theorem d260_26 : decode Y260.2.1 26 = .ok (.invokevirtual 252, 3) := by decide +kernel
theorem d260_29 : decode Y260.2.1 29 = .ok (.istore 4, 2) := by decide +kernel
theorem d260_31 : decode Y260.2.1 31 = .ok (.iconst 0, 1) := by decide +kernel
theorem d260_32 : decode Y260.2.1 32 = .ok (.istore 5, 2) := by decide +kernel
theorem d260_34 : decode Y260.2.1 34 = .ok (.iload 5, 2) := by decide +kernel
theorem d260_36 : decode Y260.2.1 36 = .ok (.aload_n 0, 1) := by decide +kernel
theorem d260_37 : decode Y260.2.1 37 = .ok (.getfield 7, 3) := by decide +kernel
theorem d260_40 : decode Y260.2.1 40 = .ok (.iconst 2, 1) := by decide +kernel
theorem d260_41 : decode Y260.2.1 41 = .ok (.iaload, 1) := by decide +kernel
theorem d260_42 : decode Y260.2.1 42 = .ok (.if_icmp .ge 70, 3) := by decide +kernel
theorem d260_45 : decode Y260.2.1 45 = .ok (.aload_n 0, 1) := by decide +kernel
theorem d260_46 : decode Y260.2.1 46 = .ok (.iload 5, 2) := by decide +kernel
theorem d260_48 : decode Y260.2.1 48 = .ok (.iconst 0, 1) := by decide +kernel
theorem d260_49 : decode Y260.2.1 49 = .ok (.invokevirtual 83, 3) := by decide +kernel
theorem d260_52 : decode Y260.2.1 52 = .ok (.iload_n 1, 1) := by decide +kernel
theorem d260_53 : decode Y260.2.1 53 = .ok (.if_icmp .eq 6, 3) := by decide +kernel
theorem d260_56 : decode Y260.2.1 56 = .ok (.goto 50, 3) := by decide +kernel
theorem d260_59 : decode Y260.2.1 59 = .ok (.aload_n 0, 1) := by decide +kernel
theorem d260_60 : decode Y260.2.1 60 = .ok (.iload 5, 2) := by decide +kernel
theorem d260_62 : decode Y260.2.1 62 = .ok (.invokevirtual 87, 3) := by decide +kernel
theorem d260_65 : decode Y260.2.1 65 = .ok (.iconst 1, 1) := by decide +kernel
theorem d260_66 : decode Y260.2.1 66 = .ok (.if_icmp .ne 15, 3) := by decide +kernel
theorem d260_69 : decode Y260.2.1 69 = .ok (.iload 4, 2) := by decide +kernel
theorem d260_71 : decode Y260.2.1 71 = .ok (.aload_n 0, 1) := by decide +kernel
theorem d260_72 : decode Y260.2.1 72 = .ok (.iload 5, 2) := by decide +kernel
theorem d260_74 : decode Y260.2.1 74 = .ok (.iconst 4, 1) := by decide +kernel
theorem d260_75 : decode Y260.2.1 75 = .ok (.invokevirtual 83, 3) := by decide +kernel
theorem d260_78 : decode Y260.2.1 78 = .ok (.iadd, 1) := by decide +kernel
theorem d260_79 : decode Y260.2.1 79 = .ok (.istore 4, 2) := by decide +kernel
theorem d260_81 : decode Y260.2.1 81 = .ok (.aload_n 0, 1) := by decide +kernel
theorem d260_82 : decode Y260.2.1 82 = .ok (.iload 5, 2) := by decide +kernel
theorem d260_84 : decode Y260.2.1 84 = .ok (.invokevirtual 87, 3) := by decide +kernel
theorem d260_87 : decode Y260.2.1 87 = .ok (.ifCond .ne 19, 3) := by decide +kernel
theorem d260_90 : decode Y260.2.1 90 = .ok (.aload_n 0, 1) := by decide +kernel
theorem d260_91 : decode Y260.2.1 91 = .ok (.iload 5, 2) := by decide +kernel
theorem d260_93 : decode Y260.2.1 93 = .ok (.invokevirtual 301, 3) := by decide +kernel
theorem d260_96 : decode Y260.2.1 96 = .ok (.ifCond .ne 10, 3) := by decide +kernel
theorem d260_99 : decode Y260.2.1 99 = .ok (.iload_n 3, 1) := by decide +kernel
theorem d260_100 : decode Y260.2.1 100 = .ok (.iconst 1, 1) := by decide +kernel
theorem d260_101 : decode Y260.2.1 101 = .ok (.iload 5, 2) := by decide +kernel
theorem d260_103 : decode Y260.2.1 103 = .ok (.ishl, 1) := by decide +kernel
theorem d260_104 : decode Y260.2.1 104 = .ok (.ior, 1) := by decide +kernel
theorem d260_105 : decode Y260.2.1 105 = .ok (.istore_n 3, 1) := by decide +kernel
theorem d260_106 : decode Y260.2.1 106 = .ok (.iinc 5 1, 3) := by decide +kernel
theorem d260_109 : decode Y260.2.1 109 = .ok (.goto (-75), 3) := by decide +kernel
theorem d260_112 : decode Y260.2.1 112 = .ok (.aload_n 0, 1) := by decide +kernel
theorem d260_113 : decode Y260.2.1 113 = .ok (.getfield 7, 3) := by decide +kernel
theorem d260_116 : decode Y260.2.1 116 = .ok (.iconst 0, 1) := by decide +kernel
theorem d260_117 : decode Y260.2.1 117 = .ok (.iaload, 1) := by decide +kernel
theorem d260_118 : decode Y260.2.1 118 = .ok (.istore 5, 2) := by decide +kernel
theorem d260_120 : decode Y260.2.1 120 = .ok (.iconst 0, 1) := by decide +kernel
theorem d260_121 : decode Y260.2.1 121 = .ok (.istore 6, 2) := by decide +kernel
theorem d260_123 : decode Y260.2.1 123 = .ok (.iload 6, 2) := by decide +kernel
theorem d260_125 : decode Y260.2.1 125 = .ok (.aload_n 0, 1) := by decide +kernel
theorem d260_126 : decode Y260.2.1 126 = .ok (.getfield 7, 3) := by decide +kernel
theorem d260_129 : decode Y260.2.1 129 = .ok (.iconst 2, 1) := by decide +kernel
theorem d260_130 : decode Y260.2.1 130 = .ok (.iaload, 1) := by decide +kernel
theorem d260_131 : decode Y260.2.1 131 = .ok (.if_icmp .ge 51, 3) := by decide +kernel
theorem d260_134 : decode Y260.2.1 134 = .ok (.iload_n 3, 1) := by decide +kernel
theorem d260_135 : decode Y260.2.1 135 = .ok (.iload 6, 2) := by decide +kernel
theorem d260_137 : decode Y260.2.1 137 = .ok (.invokestatic 216, 3) := by decide +kernel
theorem d260_140 : decode Y260.2.1 140 = .ok (.ifCond .eq 36, 3) := by decide +kernel
theorem d260_143 : decode Y260.2.1 143 = .ok (.aload_n 0, 1) := by decide +kernel
theorem d260_144 : decode Y260.2.1 144 = .ok (.iload 6, 2) := by decide +kernel
theorem d260_146 : decode Y260.2.1 146 = .ok (.invokevirtual 298, 3) := by decide +kernel
theorem d260_149 : decode Y260.2.1 149 = .ok (.iload 5, 2) := by decide +kernel
theorem d260_151 : decode Y260.2.1 151 = .ok (.if_icmp .le 6, 3) := by decide +kernel
theorem d260_154 : decode Y260.2.1 154 = .ok (.goto 22, 3) := by decide +kernel
theorem d260_157 : decode Y260.2.1 157 = .ok (.iload_n 3, 1) := by decide +kernel
theorem d260_158 : decode Y260.2.1 158 = .ok (.iconst 1, 1) := by decide +kernel
theorem d260_159 : decode Y260.2.1 159 = .ok (.iload 6, 2) := by decide +kernel
theorem d260_161 : decode Y260.2.1 161 = .ok (.ishl, 1) := by decide +kernel
theorem d260_162 : decode Y260.2.1 162 = .ok (.ixor, 1) := by decide +kernel
theorem d260_163 : decode Y260.2.1 163 = .ok (.istore_n 3, 1) := by decide +kernel
theorem d260_164 : decode Y260.2.1 164 = .ok (.iload 4, 2) := by decide +kernel
theorem d260_166 : decode Y260.2.1 166 = .ok (.aload_n 0, 1) := by decide +kernel
theorem d260_167 : decode Y260.2.1 167 = .ok (.iload 6, 2) := by decide +kernel
theorem d260_169 : decode Y260.2.1 169 = .ok (.iconst 4, 1) := by decide +kernel
theorem d260_170 : decode Y260.2.1 170 = .ok (.invokevirtual 83, 3) := by decide +kernel
theorem d260_173 : decode Y260.2.1 173 = .ok (.iadd, 1) := by decide +kernel
theorem d260_174 : decode Y260.2.1 174 = .ok (.istore 4, 2) := by decide +kernel
theorem d260_176 : decode Y260.2.1 176 = .ok (.iinc 6 1, 3) := by decide +kernel
theorem d260_179 : decode Y260.2.1 179 = .ok (.goto (-56), 3) := by decide +kernel
theorem d260_182 : decode Y260.2.1 182 = .ok (.iload 4, 2) := by decide +kernel
theorem d260_184 : decode Y260.2.1 184 = .ok (.iload_n 2, 1) := by decide +kernel
theorem d260_185 : decode Y260.2.1 185 = .ok (.if_icmp .lt 6, 3) := by decide +kernel
theorem d260_188 : decode Y260.2.1 188 = .ok (.iload 5, 2) := by decide +kernel
theorem d260_190 : decode Y260.2.1 190 = .ok (.ireturn, 1) := by decide +kernel
theorem d260_191 : decode Y260.2.1 191 = .ok (.iload_n 3, 1) := by decide +kernel
theorem d260_192 : decode Y260.2.1 192 = .ok (.ifCond .ne 6, 3) := by decide +kernel
theorem d260_195 : decode Y260.2.1 195 = .ok (.bipush (-2), 2) := by decide +kernel
theorem d260_197 : decode Y260.2.1 197 = .ok (.ireturn, 1) := by decide +kernel
theorem d260_198 : decode Y260.2.1 198 = .ok (.ldc 185, 2) := by decide +kernel
theorem d260_200 : decode Y260.2.1 200 = .ok (.istore 6, 2) := by decide +kernel
theorem d260_202 : decode Y260.2.1 202 = .ok (.iconst 0, 1) := by decide +kernel
theorem d260_203 : decode Y260.2.1 203 = .ok (.istore 7, 2) := by decide +kernel
theorem d260_205 : decode Y260.2.1 205 = .ok (.iload 7, 2) := by decide +kernel
theorem d260_207 : decode Y260.2.1 207 = .ok (.aload_n 0, 1) := by decide +kernel
theorem d260_208 : decode Y260.2.1 208 = .ok (.getfield 7, 3) := by decide +kernel
theorem d260_211 : decode Y260.2.1 211 = .ok (.iconst 2, 1) := by decide +kernel
theorem d260_212 : decode Y260.2.1 212 = .ok (.iaload, 1) := by decide +kernel
theorem d260_213 : decode Y260.2.1 213 = .ok (.if_icmp .ge 36, 3) := by decide +kernel
theorem d260_216 : decode Y260.2.1 216 = .ok (.iload_n 3, 1) := by decide +kernel
theorem d260_217 : decode Y260.2.1 217 = .ok (.iload 7, 2) := by decide +kernel
theorem d260_219 : decode Y260.2.1 219 = .ok (.invokestatic 216, 3) := by decide +kernel
theorem d260_222 : decode Y260.2.1 222 = .ok (.ifCond .eq 17, 3) := by decide +kernel
theorem d260_225 : decode Y260.2.1 225 = .ok (.iload 6, 2) := by decide +kernel
theorem d260_227 : decode Y260.2.1 227 = .ok (.aload_n 0, 1) := by decide +kernel
theorem d260_228 : decode Y260.2.1 228 = .ok (.iload 7, 2) := by decide +kernel
theorem d260_230 : decode Y260.2.1 230 = .ok (.invokevirtual 298, 3) := by decide +kernel
theorem d260_233 : decode Y260.2.1 233 = .ok (.invokestatic 186, 3) := by decide +kernel
theorem d260_236 : decode Y260.2.1 236 = .ok (.goto 5, 3) := by decide +kernel
theorem d260_239 : decode Y260.2.1 239 = .ok (.iload 6, 2) := by decide +kernel
theorem d260_241 : decode Y260.2.1 241 = .ok (.istore 6, 2) := by decide +kernel
theorem d260_243 : decode Y260.2.1 243 = .ok (.iinc 7 1, 3) := by decide +kernel
theorem d260_246 : decode Y260.2.1 246 = .ok (.goto (-41), 3) := by decide +kernel
theorem d260_249 : decode Y260.2.1 249 = .ok (.iload 6, 2) := by decide +kernel
theorem d260_251 : decode Y260.2.1 251 = .ok (.istore 5, 2) := by decide +kernel
theorem d260_253 : decode Y260.2.1 253 = .ok (.goto (-133), 3) := by decide +kernel
noncomputable def L260_34 (d : Nat) (a0 : Nat) (x1 : Int32) (x2 : Int32) (x3 : Int32) (x4 : Int32) (x5 : Int32) (m : lt_m) : Option lt_r := lt_run d Y260 34 [some (.inr (.inr (some a0))), some (.inl x1), some (.inl x2), some (.inl x3), some (.inl x4), some (.inl x5), none, none] [] m
noncomputable def L260_81 (d : Nat) (a0 : Nat) (x1 : Int32) (x2 : Int32) (x3 : Int32) (x4 : Int32) (x5 : Int32) (m : lt_m) : Option lt_r := lt_run d Y260 81 [some (.inr (.inr (some a0))), some (.inl x1), some (.inl x2), some (.inl x3), some (.inl x4), some (.inl x5), none, none] [] m
noncomputable def L260_120 (d : Nat) (a0 : Nat) (x1 : Int32) (x2 : Int32) (x3 : Int32) (x4 : Int32) (x5 : Int32) (o6 : Option ts_V) (o7 : Option ts_V) (m : lt_m) : Option lt_r := lt_run d Y260 120 [some (.inr (.inr (some a0))), some (.inl x1), some (.inl x2), some (.inl x3), some (.inl x4), some (.inl x5), o6, o7] [] m
noncomputable def L260_123 (d : Nat) (a0 : Nat) (x1 : Int32) (x2 : Int32) (x3 : Int32) (x4 : Int32) (x5 : Int32) (x6 : Int32) (o7 : Option ts_V) (m : lt_m) : Option lt_r := lt_run d Y260 123 [some (.inr (.inr (some a0))), some (.inl x1), some (.inl x2), some (.inl x3), some (.inl x4), some (.inl x5), some (.inl x6), o7] [] m
noncomputable def L260_205 (d : Nat) (a0 : Nat) (x1 : Int32) (x2 : Int32) (x3 : Int32) (x4 : Int32) (x5 : Int32) (x6 : Int32) (x7 : Int32) (m : lt_m) : Option lt_r := lt_run d Y260 205 [some (.inr (.inr (some a0))), some (.inl x1), some (.inl x2), some (.inl x3), some (.inl x4), some (.inl x5), some (.inl x6), some (.inl x7)] [] m
theorem E260 (d : Nat) (a0 : Nat) (x1 : Int32) (x2 : Int32) (h0 : ts_sh a0 = (0, 12)) (m : lt_m) : lt_ev (d + 1) 260 [.inr (.inr (some a0)), .inl x1, .inl x2] m = lt_cI (lt_ev d 213 [.inr (.inr (some a0)), .inl x1] (lm_i m a0 15 (0 : Int32))) (fun v1 m1 => (if v1 = 0 then (some (some (.inl (-1 : Int32)), m1)) else (lt_cI (lt_ev d 258 [.inl x2] m1) (fun v2 m2 => (if ¬ v2 = 0 then (lt_cI (lt_ev d 219 [.inr (.inr (some a0)), .inl x1] m2) (fun v3 m3 => (L260_34 d a0 x1 x2 (0 : Int32) v3 (0 : Int32) m3))) else (some (some (.inl (-1 : Int32)), m2))))))) := by
  refine Eq.trans (lt_enter2 (ls := [some (.inr (.inr (some a0))), some (.inl x1), some (.inl x2), none, none, none, none, none]) hY260 (Nat.le_of_ble_eq_true rfl) (by rfl)) ?_
  refine Eq.trans (li_aload_n d260_0 (by rfl)) ?_
  refine Eq.trans (li_iconst d260_1 ic_0) ?_
  refine Eq.trans (li_puti d260_2 fa_12_67 h0 rfl rfl) ?_
  refine Eq.trans (li_aload_n d260_5 (by rfl)) ?_
  refine Eq.trans (li_iload_n d260_6 (by rfl)) ?_
  refine Eq.trans (li_ivI d260_7 ca_12_246 kd_213 kl_213 (by rfl) (by rfl) h0 (Nat.le_of_ble_eq_true rfl) (Nat.le_of_ble_eq_true rfl)) ?_
  refine lt_cI_c (fun v1 m1 => ?_)
  refine Eq.trans (li_if_eq (t := 20) d260_10 (by rfl)) ?_
  refine lt_ite (fun c1 => ?_) (fun c1 => ?_)
  · refine Eq.trans (li_iconst d260_20 ic_n1) ?_
    exact li_iret d260_21 rfl
  · refine Eq.trans (li_iload_n d260_13 (by rfl)) ?_
    refine Eq.trans (li_isI d260_14 bi_12_304 ca_12_304 kd_258 (by rfl) (by rfl) (Nat.le_of_ble_eq_true rfl) (Nat.le_of_ble_eq_true rfl)) ?_
    refine lt_cI_c (fun v2 m2 => ?_)
    refine Eq.trans (li_if_ne (t := 22) d260_17 (by rfl)) ?_
    refine lt_ite (fun c2 => ?_) (fun c2 => ?_)
    · refine Eq.trans (li_iconst d260_22 ic_0) ?_
      refine Eq.trans (li_istore_n (ls' := [some (.inr (.inr (some a0))), some (.inl x1), some (.inl x2), some (.inl (0 : Int32)), none, none, none, none]) d260_23 (by decide) (by rfl)) ?_
      refine Eq.trans (li_aload_n d260_24 (by rfl)) ?_
      refine Eq.trans (li_iload_n d260_25 (by rfl)) ?_
      refine Eq.trans (li_ivI d260_26 ca_12_252 kd_219 kl_219 (by rfl) (by rfl) h0 (Nat.le_of_ble_eq_true rfl) (Nat.le_of_ble_eq_true rfl)) ?_
      refine lt_cI_c (fun v3 m3 => ?_)
      refine Eq.trans (li_istore (ls' := [some (.inr (.inr (some a0))), some (.inl x1), some (.inl x2), some (.inl (0 : Int32)), some (.inl v3), none, none, none]) d260_29 (by decide) (by rfl)) ?_
      refine Eq.trans (li_iconst d260_31 ic_0) ?_
      refine Eq.trans (li_istore (ls' := [some (.inr (.inr (some a0))), some (.inl x1), some (.inl x2), some (.inl (0 : Int32)), some (.inl v3), some (.inl (0 : Int32)), none, none]) d260_32 (by decide) (by rfl)) ?_
      rfl
    · refine Eq.trans (li_iconst d260_20 ic_n1) ?_
      exact li_iret d260_21 rfl
theorem E260_34 (d : Nat) (a0 : Nat) (x1 : Int32) (x2 : Int32) (x3 : Int32) (x4 : Int32) (x5 : Int32) (h0 : ts_sh a0 = (0, 12)) (m : lt_m) : L260_34 d a0 x1 x2 x3 x4 x5 m = lt_gd (0 ≤ (2 : Int32) ∧ ((2 : Int32)).toNatClampNeg < 626) (if (m.1 (a0 + 1) ((2 : Int32)).toNatClampNeg) ≤ x5 then (lt_gd (0 ≤ (0 : Int32) ∧ ((0 : Int32)).toNatClampNeg < 626) (L260_120 d a0 x1 x2 x3 x4 (m.1 (a0 + 1) ((0 : Int32)).toNatClampNeg) none none m)) else (lt_cI (lt_ev d 198 [.inr (.inr (some a0)), .inl x5, .inl (0 : Int32)] m) (fun v1 m1 => (if v1 = x1 then (lt_cI (lt_ev d 197 [.inr (.inr (some a0)), .inl x5] m1) (fun v2 m2 => (if ¬ v2 = (1 : Int32) then (L260_81 d a0 x1 x2 x3 x4 x5 m2) else (lt_cI (lt_ev d 198 [.inr (.inr (some a0)), .inl x5, .inl (4 : Int32)] m2) (fun v3 m3 => (L260_81 d a0 x1 x2 x3 (x4 + v3) x5 m3)))))) else (L260_34 d a0 x1 x2 x3 x4 (x5 + (1 : Int32)) m1))))) := by
  show lt_run d Y260 34 [some (.inr (.inr (some a0))), some (.inl x1), some (.inl x2), some (.inl x3), some (.inl x4), some (.inl x5), none, none] [] m = _
  refine Eq.trans (li_iload d260_34 (by rfl)) ?_
  refine Eq.trans (li_aload_n d260_36 (by rfl)) ?_
  refine Eq.trans (li_getr d260_37 fa_12_7 h0 rfl rfl rfl (by decide)) ?_
  refine Eq.trans (li_iconst d260_40 ic_2) ?_
  refine Eq.trans (li_iald d260_41 (sf_of h0 0 (by decide) (by decide))) ?_
  refine lt_gd_c (fun g1 => ?_)
  refine Eq.trans (li_icmp_ge (t := 112) d260_42 (by rfl)) ?_
  refine lt_ite (fun c1 => ?_) (fun c1 => ?_)
  · refine Eq.trans (li_aload_n d260_112 (by rfl)) ?_
    refine Eq.trans (li_getr d260_113 fa_12_7 h0 rfl rfl rfl (by decide)) ?_
    refine Eq.trans (li_iconst d260_116 ic_0) ?_
    refine Eq.trans (li_iald d260_117 (sf_of h0 0 (by decide) (by decide))) ?_
    refine lt_gd_c (fun g2 => ?_)
    refine Eq.trans (li_istore (ls' := [some (.inr (.inr (some a0))), some (.inl x1), some (.inl x2), some (.inl x3), some (.inl x4), some (.inl (m.1 (a0 + 1) ((0 : Int32)).toNatClampNeg)), none, none]) d260_118 (by decide) (by rfl)) ?_
    rfl
  · refine Eq.trans (li_aload_n d260_45 (by rfl)) ?_
    refine Eq.trans (li_iload d260_46 (by rfl)) ?_
    refine Eq.trans (li_iconst d260_48 ic_0) ?_
    refine Eq.trans (li_ivI d260_49 ca_12_83 kd_198 kl_198 (by rfl) (by rfl) h0 (Nat.le_of_ble_eq_true rfl) (Nat.le_of_ble_eq_true rfl)) ?_
    refine lt_cI_c (fun v1 m1 => ?_)
    refine Eq.trans (li_iload_n d260_52 (by rfl)) ?_
    refine Eq.trans (li_icmp_eq (t := 59) d260_53 (by rfl)) ?_
    refine lt_ite (fun c2 => ?_) (fun c2 => ?_)
    · refine Eq.trans (li_aload_n d260_59 (by rfl)) ?_
      refine Eq.trans (li_iload d260_60 (by rfl)) ?_
      refine Eq.trans (li_ivI d260_62 ca_12_87 kd_197 kl_197 (by rfl) (by rfl) h0 (Nat.le_of_ble_eq_true rfl) (Nat.le_of_ble_eq_true rfl)) ?_
      refine lt_cI_c (fun v2 m2 => ?_)
      refine Eq.trans (li_iconst d260_65 ic_1) ?_
      refine Eq.trans (li_icmp_ne (t := 81) d260_66 (by rfl)) ?_
      refine lt_ite (fun c3 => ?_) (fun c3 => ?_)
      · rfl
      · refine Eq.trans (li_iload d260_69 (by rfl)) ?_
        refine Eq.trans (li_aload_n d260_71 (by rfl)) ?_
        refine Eq.trans (li_iload d260_72 (by rfl)) ?_
        refine Eq.trans (li_iconst d260_74 ic_4) ?_
        refine Eq.trans (li_ivI d260_75 ca_12_83 kd_198 kl_198 (by rfl) (by rfl) h0 (Nat.le_of_ble_eq_true rfl) (Nat.le_of_ble_eq_true rfl)) ?_
        refine lt_cI_c (fun v3 m3 => ?_)
        refine Eq.trans (li_iadd d260_78) ?_
        refine Eq.trans (li_istore (ls' := [some (.inr (.inr (some a0))), some (.inl x1), some (.inl x2), some (.inl x3), some (.inl (x4 + v3)), some (.inl x5), none, none]) d260_79 (by decide) (by rfl)) ?_
        rfl
    · refine Eq.trans (li_goto (t := 106) d260_56 (by rfl)) ?_
      refine Eq.trans (li_iinc (ls' := [some (.inr (.inr (some a0))), some (.inl x1), some (.inl x2), some (.inl x3), some (.inl x4), some (.inl (x5 + (1 : Int32))), none, none]) d260_106 (by rfl) (by decide) ic_1 (by rfl)) ?_
      refine Eq.trans (li_goto (t := 34) d260_109 (by rfl)) ?_
      rfl
theorem E260_81 (d : Nat) (a0 : Nat) (x1 : Int32) (x2 : Int32) (x3 : Int32) (x4 : Int32) (x5 : Int32) (h0 : ts_sh a0 = (0, 12)) (m : lt_m) : L260_81 d a0 x1 x2 x3 x4 x5 m = lt_cI (lt_ev d 197 [.inr (.inr (some a0)), .inl x5] m) (fun v1 m1 => (if ¬ v1 = 0 then (L260_34 d a0 x1 x2 x3 x4 (x5 + (1 : Int32)) m1) else (lt_cI (lt_ev d 251 [.inr (.inr (some a0)), .inl x5] m1) (fun v2 m2 => (if ¬ v2 = 0 then (L260_34 d a0 x1 x2 x3 x4 (x5 + (1 : Int32)) m2) else (L260_34 d a0 x1 x2 (x3 ||| ((1 : Int32) <<< (x5 &&& 31))) x4 (x5 + (1 : Int32)) m2)))))) := by
  show lt_run d Y260 81 [some (.inr (.inr (some a0))), some (.inl x1), some (.inl x2), some (.inl x3), some (.inl x4), some (.inl x5), none, none] [] m = _
  refine Eq.trans (li_aload_n d260_81 (by rfl)) ?_
  refine Eq.trans (li_iload d260_82 (by rfl)) ?_
  refine Eq.trans (li_ivI d260_84 ca_12_87 kd_197 kl_197 (by rfl) (by rfl) h0 (Nat.le_of_ble_eq_true rfl) (Nat.le_of_ble_eq_true rfl)) ?_
  refine lt_cI_c (fun v1 m1 => ?_)
  refine Eq.trans (li_if_ne (t := 106) d260_87 (by rfl)) ?_
  refine lt_ite (fun c1 => ?_) (fun c1 => ?_)
  · refine Eq.trans (li_iinc (ls' := [some (.inr (.inr (some a0))), some (.inl x1), some (.inl x2), some (.inl x3), some (.inl x4), some (.inl (x5 + (1 : Int32))), none, none]) d260_106 (by rfl) (by decide) ic_1 (by rfl)) ?_
    refine Eq.trans (li_goto (t := 34) d260_109 (by rfl)) ?_
    rfl
  · refine Eq.trans (li_aload_n d260_90 (by rfl)) ?_
    refine Eq.trans (li_iload d260_91 (by rfl)) ?_
    refine Eq.trans (li_ivI d260_93 ca_12_301 kd_251 kl_251 (by rfl) (by rfl) h0 (Nat.le_of_ble_eq_true rfl) (Nat.le_of_ble_eq_true rfl)) ?_
    refine lt_cI_c (fun v2 m2 => ?_)
    refine Eq.trans (li_if_ne (t := 106) d260_96 (by rfl)) ?_
    refine lt_ite (fun c2 => ?_) (fun c2 => ?_)
    · refine Eq.trans (li_iinc (ls' := [some (.inr (.inr (some a0))), some (.inl x1), some (.inl x2), some (.inl x3), some (.inl x4), some (.inl (x5 + (1 : Int32))), none, none]) d260_106 (by rfl) (by decide) ic_1 (by rfl)) ?_
      refine Eq.trans (li_goto (t := 34) d260_109 (by rfl)) ?_
      rfl
    · refine Eq.trans (li_iload_n d260_99 (by rfl)) ?_
      refine Eq.trans (li_iconst d260_100 ic_1) ?_
      refine Eq.trans (li_iload d260_101 (by rfl)) ?_
      refine Eq.trans (li_ishl d260_103) ?_
      refine Eq.trans (li_ior d260_104) ?_
      refine Eq.trans (li_istore_n (ls' := [some (.inr (.inr (some a0))), some (.inl x1), some (.inl x2), some (.inl (x3 ||| ((1 : Int32) <<< (x5 &&& 31)))), some (.inl x4), some (.inl x5), none, none]) d260_105 (by decide) (by rfl)) ?_
      refine Eq.trans (li_iinc (ls' := [some (.inr (.inr (some a0))), some (.inl x1), some (.inl x2), some (.inl (x3 ||| ((1 : Int32) <<< (x5 &&& 31)))), some (.inl x4), some (.inl (x5 + (1 : Int32))), none, none]) d260_106 (by rfl) (by decide) ic_1 (by rfl)) ?_
      refine Eq.trans (li_goto (t := 34) d260_109 (by rfl)) ?_
      rfl
theorem E260_120 (d : Nat) (a0 : Nat) (x1 : Int32) (x2 : Int32) (x3 : Int32) (x4 : Int32) (x5 : Int32) (o6 : Option ts_V) (o7 : Option ts_V)  (m : lt_m) : L260_120 d a0 x1 x2 x3 x4 x5 o6 o7 m = L260_123 d a0 x1 x2 x3 x4 x5 (0 : Int32) (o7) m := by
  show lt_run d Y260 120 [some (.inr (.inr (some a0))), some (.inl x1), some (.inl x2), some (.inl x3), some (.inl x4), some (.inl x5), o6, o7] [] m = _
  refine Eq.trans (li_iconst d260_120 ic_0) ?_
  refine Eq.trans (li_istore (ls' := [some (.inr (.inr (some a0))), some (.inl x1), some (.inl x2), some (.inl x3), some (.inl x4), some (.inl x5), some (.inl (0 : Int32)), o7]) d260_121 (by decide) (by rfl)) ?_
  rfl
theorem E260_123 (d : Nat) (a0 : Nat) (x1 : Int32) (x2 : Int32) (x3 : Int32) (x4 : Int32) (x5 : Int32) (x6 : Int32) (o7 : Option ts_V) (h0 : ts_sh a0 = (0, 12)) (m : lt_m) : L260_123 d a0 x1 x2 x3 x4 x5 x6 o7 m = lt_gd (0 ≤ (2 : Int32) ∧ ((2 : Int32)).toNatClampNeg < 626) (if (m.1 (a0 + 1) ((2 : Int32)).toNatClampNeg) ≤ x6 then (if x4 < x2 then (if ¬ x3 = 0 then (L260_205 d a0 x1 x2 x3 x4 x5 (1000000000 : Int32) (0 : Int32) m) else (some (some (.inl (-2 : Int32)), m))) else (some (some (.inl x5), m))) else (lt_cI (lt_ev d 207 [.inl x3, .inl x6] m) (fun v1 m1 => (if v1 = 0 then (L260_123 d a0 x1 x2 x3 x4 x5 (x6 + (1 : Int32)) (o7) m1) else (lt_cI (lt_ev d 252 [.inr (.inr (some a0)), .inl x6] m1) (fun v2 m2 => (if v2 ≤ x5 then (lt_cI (lt_ev d 198 [.inr (.inr (some a0)), .inl x6, .inl (4 : Int32)] m2) (fun v3 m3 => (L260_123 d a0 x1 x2 (x3 ^^^ ((1 : Int32) <<< (x6 &&& 31))) (x4 + v3) x5 (x6 + (1 : Int32)) (o7) m3))) else (L260_123 d a0 x1 x2 x3 x4 x5 (x6 + (1 : Int32)) (o7) m2)))))))) := by
  show lt_run d Y260 123 [some (.inr (.inr (some a0))), some (.inl x1), some (.inl x2), some (.inl x3), some (.inl x4), some (.inl x5), some (.inl x6), o7] [] m = _
  refine Eq.trans (li_iload d260_123 (by rfl)) ?_
  refine Eq.trans (li_aload_n d260_125 (by rfl)) ?_
  refine Eq.trans (li_getr d260_126 fa_12_7 h0 rfl rfl rfl (by decide)) ?_
  refine Eq.trans (li_iconst d260_129 ic_2) ?_
  refine Eq.trans (li_iald d260_130 (sf_of h0 0 (by decide) (by decide))) ?_
  refine lt_gd_c (fun g1 => ?_)
  refine Eq.trans (li_icmp_ge (t := 182) d260_131 (by rfl)) ?_
  refine lt_ite (fun c1 => ?_) (fun c1 => ?_)
  · refine Eq.trans (li_iload d260_182 (by rfl)) ?_
    refine Eq.trans (li_iload_n d260_184 (by rfl)) ?_
    refine Eq.trans (li_icmp_lt (t := 191) d260_185 (by rfl)) ?_
    refine lt_ite (fun c2 => ?_) (fun c2 => ?_)
    · refine Eq.trans (li_iload_n d260_191 (by rfl)) ?_
      refine Eq.trans (li_if_ne (t := 198) d260_192 (by rfl)) ?_
      refine lt_ite (fun c3 => ?_) (fun c3 => ?_)
      · refine Eq.trans (li_ldc d260_198 cI_12_185) ?_
        refine Eq.trans (li_istore (ls' := [some (.inr (.inr (some a0))), some (.inl x1), some (.inl x2), some (.inl x3), some (.inl x4), some (.inl x5), some (.inl (1000000000 : Int32)), o7]) d260_200 (by decide) (by rfl)) ?_
        refine Eq.trans (li_iconst d260_202 ic_0) ?_
        refine Eq.trans (li_istore (ls' := [some (.inr (.inr (some a0))), some (.inl x1), some (.inl x2), some (.inl x3), some (.inl x4), some (.inl x5), some (.inl (1000000000 : Int32)), some (.inl (0 : Int32))]) d260_203 (by decide) (by rfl)) ?_
        rfl
      · refine Eq.trans (li_bipush d260_195 bi_n2) ?_
        exact li_iret d260_197 rfl
    · refine Eq.trans (li_iload d260_188 (by rfl)) ?_
      exact li_iret d260_190 rfl
  · refine Eq.trans (li_iload_n d260_134 (by rfl)) ?_
    refine Eq.trans (li_iload d260_135 (by rfl)) ?_
    refine Eq.trans (li_isI d260_137 bi_12_216 ca_12_216 kd_207 (by rfl) (by rfl) (Nat.le_of_ble_eq_true rfl) (Nat.le_of_ble_eq_true rfl)) ?_
    refine lt_cI_c (fun v1 m1 => ?_)
    refine Eq.trans (li_if_eq (t := 176) d260_140 (by rfl)) ?_
    refine lt_ite (fun c4 => ?_) (fun c4 => ?_)
    · refine Eq.trans (li_iinc (ls' := [some (.inr (.inr (some a0))), some (.inl x1), some (.inl x2), some (.inl x3), some (.inl x4), some (.inl x5), some (.inl (x6 + (1 : Int32))), o7]) d260_176 (by rfl) (by decide) ic_1 (by rfl)) ?_
      refine Eq.trans (li_goto (t := 123) d260_179 (by rfl)) ?_
      rfl
    · refine Eq.trans (li_aload_n d260_143 (by rfl)) ?_
      refine Eq.trans (li_iload d260_144 (by rfl)) ?_
      refine Eq.trans (li_ivI d260_146 ca_12_298 kd_252 kl_252 (by rfl) (by rfl) h0 (Nat.le_of_ble_eq_true rfl) (Nat.le_of_ble_eq_true rfl)) ?_
      refine lt_cI_c (fun v2 m2 => ?_)
      refine Eq.trans (li_iload d260_149 (by rfl)) ?_
      refine Eq.trans (li_icmp_le (t := 157) d260_151 (by rfl)) ?_
      refine lt_ite (fun c5 => ?_) (fun c5 => ?_)
      · refine Eq.trans (li_iload_n d260_157 (by rfl)) ?_
        refine Eq.trans (li_iconst d260_158 ic_1) ?_
        refine Eq.trans (li_iload d260_159 (by rfl)) ?_
        refine Eq.trans (li_ishl d260_161) ?_
        refine Eq.trans (li_ixor d260_162) ?_
        refine Eq.trans (li_istore_n (ls' := [some (.inr (.inr (some a0))), some (.inl x1), some (.inl x2), some (.inl (x3 ^^^ ((1 : Int32) <<< (x6 &&& 31)))), some (.inl x4), some (.inl x5), some (.inl x6), o7]) d260_163 (by decide) (by rfl)) ?_
        refine Eq.trans (li_iload d260_164 (by rfl)) ?_
        refine Eq.trans (li_aload_n d260_166 (by rfl)) ?_
        refine Eq.trans (li_iload d260_167 (by rfl)) ?_
        refine Eq.trans (li_iconst d260_169 ic_4) ?_
        refine Eq.trans (li_ivI d260_170 ca_12_83 kd_198 kl_198 (by rfl) (by rfl) h0 (Nat.le_of_ble_eq_true rfl) (Nat.le_of_ble_eq_true rfl)) ?_
        refine lt_cI_c (fun v3 m3 => ?_)
        refine Eq.trans (li_iadd d260_173) ?_
        refine Eq.trans (li_istore (ls' := [some (.inr (.inr (some a0))), some (.inl x1), some (.inl x2), some (.inl (x3 ^^^ ((1 : Int32) <<< (x6 &&& 31)))), some (.inl (x4 + v3)), some (.inl x5), some (.inl x6), o7]) d260_174 (by decide) (by rfl)) ?_
        refine Eq.trans (li_iinc (ls' := [some (.inr (.inr (some a0))), some (.inl x1), some (.inl x2), some (.inl (x3 ^^^ ((1 : Int32) <<< (x6 &&& 31)))), some (.inl (x4 + v3)), some (.inl x5), some (.inl (x6 + (1 : Int32))), o7]) d260_176 (by rfl) (by decide) ic_1 (by rfl)) ?_
        refine Eq.trans (li_goto (t := 123) d260_179 (by rfl)) ?_
        rfl
      · refine Eq.trans (li_goto (t := 176) d260_154 (by rfl)) ?_
        refine Eq.trans (li_iinc (ls' := [some (.inr (.inr (some a0))), some (.inl x1), some (.inl x2), some (.inl x3), some (.inl x4), some (.inl x5), some (.inl (x6 + (1 : Int32))), o7]) d260_176 (by rfl) (by decide) ic_1 (by rfl)) ?_
        refine Eq.trans (li_goto (t := 123) d260_179 (by rfl)) ?_
        rfl
theorem E260_205 (d : Nat) (a0 : Nat) (x1 : Int32) (x2 : Int32) (x3 : Int32) (x4 : Int32) (x5 : Int32) (x6 : Int32) (x7 : Int32) (h0 : ts_sh a0 = (0, 12)) (m : lt_m) : L260_205 d a0 x1 x2 x3 x4 x5 x6 x7 m = lt_gd (0 ≤ (2 : Int32) ∧ ((2 : Int32)).toNatClampNeg < 626) (if (m.1 (a0 + 1) ((2 : Int32)).toNatClampNeg) ≤ x7 then (L260_120 d a0 x1 x2 x3 x4 x6 (some (.inl x6)) (some (.inl x7)) m) else (lt_cI (lt_ev d 207 [.inl x3, .inl x7] m) (fun v1 m1 => (if v1 = 0 then (L260_205 d a0 x1 x2 x3 x4 x5 x6 (x7 + (1 : Int32)) m1) else (lt_cI (lt_ev d 252 [.inr (.inr (some a0)), .inl x7] m1) (fun v2 m2 => (L260_205 d a0 x1 x2 x3 x4 x5 (lm_min x6 v2) (x7 + (1 : Int32)) m2))))))) := by
  show lt_run d Y260 205 [some (.inr (.inr (some a0))), some (.inl x1), some (.inl x2), some (.inl x3), some (.inl x4), some (.inl x5), some (.inl x6), some (.inl x7)] [] m = _
  refine Eq.trans (li_iload d260_205 (by rfl)) ?_
  refine Eq.trans (li_aload_n d260_207 (by rfl)) ?_
  refine Eq.trans (li_getr d260_208 fa_12_7 h0 rfl rfl rfl (by decide)) ?_
  refine Eq.trans (li_iconst d260_211 ic_2) ?_
  refine Eq.trans (li_iald d260_212 (sf_of h0 0 (by decide) (by decide))) ?_
  refine lt_gd_c (fun g1 => ?_)
  refine Eq.trans (li_icmp_ge (t := 249) d260_213 (by rfl)) ?_
  refine lt_ite (fun c1 => ?_) (fun c1 => ?_)
  · refine Eq.trans (li_iload d260_249 (by rfl)) ?_
    refine Eq.trans (li_istore (ls' := [some (.inr (.inr (some a0))), some (.inl x1), some (.inl x2), some (.inl x3), some (.inl x4), some (.inl x6), some (.inl x6), some (.inl x7)]) d260_251 (by decide) (by rfl)) ?_
    refine Eq.trans (li_goto (t := 120) d260_253 (by rfl)) ?_
    rfl
  · refine Eq.trans (li_iload_n d260_216 (by rfl)) ?_
    refine Eq.trans (li_iload d260_217 (by rfl)) ?_
    refine Eq.trans (li_isI d260_219 bi_12_216 ca_12_216 kd_207 (by rfl) (by rfl) (Nat.le_of_ble_eq_true rfl) (Nat.le_of_ble_eq_true rfl)) ?_
    refine lt_cI_c (fun v1 m1 => ?_)
    refine Eq.trans (li_if_eq (t := 239) d260_222 (by rfl)) ?_
    refine lt_ite (fun c2 => ?_) (fun c2 => ?_)
    · refine Eq.trans (li_iload d260_239 (by rfl)) ?_
      refine Eq.trans (li_istore (ls' := [some (.inr (.inr (some a0))), some (.inl x1), some (.inl x2), some (.inl x3), some (.inl x4), some (.inl x5), some (.inl x6), some (.inl x7)]) d260_241 (by decide) (by rfl)) ?_
      refine Eq.trans (li_iinc (ls' := [some (.inr (.inr (some a0))), some (.inl x1), some (.inl x2), some (.inl x3), some (.inl x4), some (.inl x5), some (.inl x6), some (.inl (x7 + (1 : Int32)))]) d260_243 (by rfl) (by decide) ic_1 (by rfl)) ?_
      refine Eq.trans (li_goto (t := 205) d260_246 (by rfl)) ?_
      rfl
    · refine Eq.trans (li_iload d260_225 (by rfl)) ?_
      refine Eq.trans (li_aload_n d260_227 (by rfl)) ?_
      refine Eq.trans (li_iload d260_228 (by rfl)) ?_
      refine Eq.trans (li_ivI d260_230 ca_12_298 kd_252 kl_252 (by rfl) (by rfl) h0 (Nat.le_of_ble_eq_true rfl) (Nat.le_of_ble_eq_true rfl)) ?_
      refine lt_cI_c (fun v2 m2 => ?_)
      refine Eq.trans (li_min d260_233 bi_12_186 (Nat.le_of_ble_eq_true rfl)) ?_
      refine Eq.trans (li_goto (t := 241) d260_236 (by rfl)) ?_
      refine Eq.trans (li_istore (ls' := [some (.inr (.inr (some a0))), some (.inl x1), some (.inl x2), some (.inl x3), some (.inl x4), some (.inl x5), some (.inl (lm_min x6 v2)), some (.inl x7)]) d260_241 (by decide) (by rfl)) ?_
      refine Eq.trans (li_iinc (ls' := [some (.inr (.inr (some a0))), some (.inl x1), some (.inl x2), some (.inl x3), some (.inl x4), some (.inl x5), some (.inl (lm_min x6 v2)), some (.inl (x7 + (1 : Int32)))]) d260_243 (by rfl) (by decide) ic_1 (by rfl)) ?_
      refine Eq.trans (li_goto (t := 205) d260_246 (by rfl)) ?_
      rfl
/-! TransitSealsModel.fits(I)I -/
theorem d261_0 : decode Y261.2.1 0 = .ok (.aload_n 0, 1) := by decide +kernel
theorem d261_1 : decode Y261.2.1 1 = .ok (.iconst 0, 1) := by decide +kernel
theorem d261_2 : decode Y261.2.1 2 = .ok (.putfield 67, 3) := by decide +kernel
theorem d261_5 : decode Y261.2.1 5 = .ok (.aload_n 0, 1) := by decide +kernel
theorem d261_6 : decode Y261.2.1 6 = .ok (.invokevirtual 313, 3) := by decide +kernel
theorem d261_9 : decode Y261.2.1 9 = .ok (.aload_n 0, 1) := by decide +kernel
theorem d261_10 : decode Y261.2.1 10 = .ok (.getfield 107, 3) := by decide +kernel
theorem d261_13 : decode Y261.2.1 13 = .ok (.iconst (-1), 1) := by decide +kernel
theorem d261_14 : decode Y261.2.1 14 = .ok (.if_icmp .eq 11, 3) := by decide +kernel
theorem d261_17 : decode Y261.2.1 17 = .ok (.bipush (-21), 2) := by decide +kernel
theorem d261_19 : decode Y261.2.1 19 = .ok (.aload_n 0, 1) := by decide +kernel
theorem d261_20 : decode Y261.2.1 20 = .ok (.getfield 107, 3) := by decide +kernel
theorem d261_23 : decode Y261.2.1 23 = .ok (.isub, 1) := by decide +kernel
theorem d261_24 : decode Y261.2.1 24 = .ok (.ireturn, 1) := by decide +kernel
theorem d261_25 : decode Y261.2.1 25 = .ok (.aload_n 0, 1) := by decide +kernel
theorem d261_26 : decode Y261.2.1 26 = .ok (.iload_n 1, 1) := by decide +kernel
theorem d261_27 : decode Y261.2.1 27 = .ok (.invokevirtual 246, 3) := by decide +kernel
theorem d261_30 : decode Y261.2.1 30 = .ok (.ifCond .ne 5, 3) := by decide +kernel
theorem d261_33 : decode Y261.2.1 33 = .ok (.iconst (-1), 1) := by decide +kernel
theorem d261_34 : decode Y261.2.1 34 = .ok (.ireturn, 1) := by decide +kernel
theorem d261_35 : decode Y261.2.1 35 = .ok (.iconst 0, 1) := by decide +kernel
theorem d261_36 : decode Y261.2.1 36 = .ok (.istore_n 2, 1) := by decide +kernel
theorem d261_37 : decode Y261.2.1 37 = .ok (.iload_n 2, 1) := by decide +kernel
theorem d261_38 : decode Y261.2.1 38 = .ok (.aload_n 0, 1) := by decide +kernel
theorem d261_39 : decode Y261.2.1 39 = .ok (.getfield 310, 3) := by decide +kernel
theorem d261_42 : decode Y261.2.1 42 = .ok (.if_icmp .ge 41, 3) := by decide +kernel
theorem d261_45 : decode Y261.2.1 45 = .ok (.aload_n 0, 1) := by decide +kernel
theorem d261_46 : decode Y261.2.1 46 = .ok (.getfield 58, 3) := by decide +kernel
theorem d261_49 : decode Y261.2.1 49 = .ok (.iload_n 2, 1) := by decide +kernel
theorem d261_50 : decode Y261.2.1 50 = .ok (.aload_n 0, 1) := by decide +kernel
theorem d261_51 : decode Y261.2.1 51 = .ok (.iload_n 1, 1) := by decide +kernel
theorem d261_52 : decode Y261.2.1 52 = .ok (.invokevirtual 249, 3) := by decide +kernel
theorem d261_55 : decode Y261.2.1 55 = .ok (.aload_n 0, 1) := by decide +kernel
theorem d261_56 : decode Y261.2.1 56 = .ok (.getfield 55, 3) := by decide +kernel
theorem d261_59 : decode Y261.2.1 59 = .ok (.iload_n 2, 1) := by decide +kernel
theorem d261_60 : decode Y261.2.1 60 = .ok (.iaload, 1) := by decide +kernel
theorem d261_61 : decode Y261.2.1 61 = .ok (.aload_n 0, 1) := by decide +kernel
theorem d261_62 : decode Y261.2.1 62 = .ok (.getfield 25, 3) := by decide +kernel
theorem d261_65 : decode Y261.2.1 65 = .ok (.aload_n 0, 1) := by decide +kernel
theorem d261_66 : decode Y261.2.1 66 = .ok (.getfield 61, 3) := by decide +kernel
theorem d261_69 : decode Y261.2.1 69 = .ok (.iload_n 2, 1) := by decide +kernel
theorem d261_70 : decode Y261.2.1 70 = .ok (.iaload, 1) := by decide +kernel
theorem d261_71 : decode Y261.2.1 71 = .ok (.iaload, 1) := by decide +kernel
theorem d261_72 : decode Y261.2.1 72 = .ok (.imul, 1) := by decide +kernel
theorem d261_73 : decode Y261.2.1 73 = .ok (.invokestatic 269, 3) := by decide +kernel
theorem d261_76 : decode Y261.2.1 76 = .ok (.iastore, 1) := by decide +kernel
theorem d261_77 : decode Y261.2.1 77 = .ok (.iinc 2 1, 3) := by decide +kernel
theorem d261_80 : decode Y261.2.1 80 = .ok (.goto (-43), 3) := by decide +kernel
theorem d261_83 : decode Y261.2.1 83 = .ok (.iconst 0, 1) := by decide +kernel
theorem d261_84 : decode Y261.2.1 84 = .ok (.istore_n 2, 1) := by decide +kernel
theorem d261_85 : decode Y261.2.1 85 = .ok (.iconst 0, 1) := by decide +kernel
theorem d261_86 : decode Y261.2.1 86 = .ok (.istore_n 3, 1) := by decide +kernel
theorem d261_87 : decode Y261.2.1 87 = .ok (.iconst 0, 1) := by decide +kernel
theorem d261_88 : decode Y261.2.1 88 = .ok (.istore 4, 2) := by decide +kernel
theorem d261_90 : decode Y261.2.1 90 = .ok (.iconst 1, 1) := by decide +kernel
theorem d261_91 : decode Y261.2.1 91 = .ok (.istore 5, 2) := by decide +kernel
theorem d261_93 : decode Y261.2.1 93 = .ok (.iload 5, 2) := by decide +kernel
theorem d261_95 : decode Y261.2.1 95 = .ok (.iconst 1, 1) := by decide +kernel
theorem d261_96 : decode Y261.2.1 96 = .ok (.aload_n 0, 1) := by decide +kernel
theorem d261_97 : decode Y261.2.1 97 = .ok (.getfield 310, 3) := by decide +kernel
theorem d261_100 : decode Y261.2.1 100 = .ok (.ishl, 1) := by decide +kernel
theorem d261_101 : decode Y261.2.1 101 = .ok (.if_icmp .ge 127, 3) := by decide +kernel
theorem d261_104 : decode Y261.2.1 104 = .ok (.iconst 0, 1) := by decide +kernel
theorem d261_105 : decode Y261.2.1 105 = .ok (.istore 6, 2) := by decide +kernel
theorem d261_107 : decode Y261.2.1 107 = .ok (.iconst 0, 1) := by decide +kernel
theorem d261_108 : decode Y261.2.1 108 = .ok (.istore 7, 2) := by decide +kernel
theorem d261_110 : decode Y261.2.1 110 = .ok (.iconst 0, 1) := by decide +kernel
theorem d261_111 : decode Y261.2.1 111 = .ok (.istore 8, 2) := by decide +kernel
theorem d261_113 : decode Y261.2.1 113 = .ok (.iload 8, 2) := by decide +kernel
theorem d261_115 : decode Y261.2.1 115 = .ok (.aload_n 0, 1) := by decide +kernel
theorem d261_116 : decode Y261.2.1 116 = .ok (.getfield 310, 3) := by decide +kernel
theorem d261_119 : decode Y261.2.1 119 = .ok (.if_icmp .ge 61, 3) := by decide +kernel
theorem d261_122 : decode Y261.2.1 122 = .ok (.iload 6, 2) := by decide +kernel
theorem d261_124 : decode Y261.2.1 124 = .ok (.iload 5, 2) := by decide +kernel
theorem d261_126 : decode Y261.2.1 126 = .ok (.iload 8, 2) := by decide +kernel
theorem d261_128 : decode Y261.2.1 128 = .ok (.invokestatic 216, 3) := by decide +kernel
theorem d261_131 : decode Y261.2.1 131 = .ok (.ifCond .eq 13, 3) := by decide +kernel
theorem d261_134 : decode Y261.2.1 134 = .ok (.aload_n 0, 1) := by decide +kernel
theorem d261_135 : decode Y261.2.1 135 = .ok (.getfield 55, 3) := by decide +kernel
theorem d261_138 : decode Y261.2.1 138 = .ok (.iload 8, 2) := by decide +kernel
theorem d261_140 : decode Y261.2.1 140 = .ok (.iaload, 1) := by decide +kernel
theorem d261_141 : decode Y261.2.1 141 = .ok (.goto 4, 3) := by decide +kernel
theorem d261_144 : decode Y261.2.1 144 = .ok (.iconst 0, 1) := by decide +kernel
theorem d261_145 : decode Y261.2.1 145 = .ok (.iadd, 1) := by decide +kernel
theorem d261_146 : decode Y261.2.1 146 = .ok (.istore 6, 2) := by decide +kernel
theorem d261_148 : decode Y261.2.1 148 = .ok (.iload 7, 2) := by decide +kernel
theorem d261_150 : decode Y261.2.1 150 = .ok (.iload 5, 2) := by decide +kernel
theorem d261_152 : decode Y261.2.1 152 = .ok (.iload 8, 2) := by decide +kernel
theorem d261_154 : decode Y261.2.1 154 = .ok (.invokestatic 216, 3) := by decide +kernel
theorem d261_157 : decode Y261.2.1 157 = .ok (.ifCond .eq 13, 3) := by decide +kernel
theorem d261_160 : decode Y261.2.1 160 = .ok (.aload_n 0, 1) := by decide +kernel
theorem d261_161 : decode Y261.2.1 161 = .ok (.getfield 58, 3) := by decide +kernel
theorem d261_164 : decode Y261.2.1 164 = .ok (.iload 8, 2) := by decide +kernel
theorem d261_166 : decode Y261.2.1 166 = .ok (.iaload, 1) := by decide +kernel
theorem d261_167 : decode Y261.2.1 167 = .ok (.goto 4, 3) := by decide +kernel
theorem d261_170 : decode Y261.2.1 170 = .ok (.iconst 0, 1) := by decide +kernel
theorem d261_171 : decode Y261.2.1 171 = .ok (.iadd, 1) := by decide +kernel
theorem d261_172 : decode Y261.2.1 172 = .ok (.istore 7, 2) := by decide +kernel
theorem d261_174 : decode Y261.2.1 174 = .ok (.iinc 8 1, 3) := by decide +kernel
theorem d261_177 : decode Y261.2.1 177 = .ok (.goto (-64), 3) := by decide +kernel
theorem d261_180 : decode Y261.2.1 180 = .ok (.iload 7, 2) := by decide +kernel
theorem d261_182 : decode Y261.2.1 182 = .ok (.aload_n 0, 1) := by decide +kernel
theorem d261_183 : decode Y261.2.1 183 = .ok (.iload_n 1, 1) := by decide +kernel
theorem d261_184 : decode Y261.2.1 184 = .ok (.invokevirtual 252, 3) := by decide +kernel
theorem d261_187 : decode Y261.2.1 187 = .ok (.if_icmp .gt 35, 3) := by decide +kernel
theorem d261_190 : decode Y261.2.1 190 = .ok (.iload 6, 2) := by decide +kernel
theorem d261_192 : decode Y261.2.1 192 = .ok (.iload_n 3, 1) := by decide +kernel
theorem d261_193 : decode Y261.2.1 193 = .ok (.if_icmp .lt 29, 3) := by decide +kernel
theorem d261_196 : decode Y261.2.1 196 = .ok (.iload 6, 2) := by decide +kernel
theorem d261_198 : decode Y261.2.1 198 = .ok (.iload_n 3, 1) := by decide +kernel
theorem d261_199 : decode Y261.2.1 199 = .ok (.if_icmp .ne 13, 3) := by decide +kernel
theorem d261_202 : decode Y261.2.1 202 = .ok (.iload 7, 2) := by decide +kernel
theorem d261_204 : decode Y261.2.1 204 = .ok (.iload 4, 2) := by decide +kernel
theorem d261_206 : decode Y261.2.1 206 = .ok (.if_icmp .lt 6, 3) := by decide +kernel
theorem d261_209 : decode Y261.2.1 209 = .ok (.goto 13, 3) := by decide +kernel
theorem d261_212 : decode Y261.2.1 212 = .ok (.iload 5, 2) := by decide +kernel
theorem d261_214 : decode Y261.2.1 214 = .ok (.istore_n 2, 1) := by decide +kernel
theorem d261_215 : decode Y261.2.1 215 = .ok (.iload 6, 2) := by decide +kernel
theorem d261_217 : decode Y261.2.1 217 = .ok (.istore_n 3, 1) := by decide +kernel
theorem d261_218 : decode Y261.2.1 218 = .ok (.iload 7, 2) := by decide +kernel
theorem d261_220 : decode Y261.2.1 220 = .ok (.istore 4, 2) := by decide +kernel
theorem d261_222 : decode Y261.2.1 222 = .ok (.iinc 5 1, 3) := by decide +kernel
theorem d261_225 : decode Y261.2.1 225 = .ok (.goto (-132), 3) := by decide +kernel
theorem d261_228 : decode Y261.2.1 228 = .ok (.aload_n 0, 1) := by decide +kernel
theorem d261_229 : decode Y261.2.1 229 = .ok (.iconst 0, 1) := by decide +kernel
theorem d261_230 : decode Y261.2.1 230 = .ok (.putfield 70, 3) := by decide +kernel
theorem d261_233 : decode Y261.2.1 233 = .ok (.aload_n 0, 1) := by decide +kernel
theorem d261_234 : decode Y261.2.1 234 = .ok (.iload_n 3, 1) := by decide +kernel
theorem d261_235 : decode Y261.2.1 235 = .ok (.i2l, 1) := by decide +kernel
theorem d261_236 : decode Y261.2.1 236 = .ok (.invokevirtual 194, 3) := by decide +kernel
theorem d261_239 : decode Y261.2.1 239 = .ok (.aload_n 0, 1) := by decide +kernel
theorem d261_240 : decode Y261.2.1 240 = .ok (.iload 4, 2) := by decide +kernel
theorem d261_242 : decode Y261.2.1 242 = .ok (.i2l, 1) := by decide +kernel
theorem d261_243 : decode Y261.2.1 243 = .ok (.invokevirtual 194, 3) := by decide +kernel
theorem d261_246 : decode Y261.2.1 246 = .ok (.iload_n 2, 1) := by decide +kernel
theorem d261_247 : decode Y261.2.1 247 = .ok (.ireturn, 1) := by decide +kernel
noncomputable def L261_37 (d : Nat) (a0 : Nat) (x1 : Int32) (x2 : Int32) (m : lt_m) : Option lt_r := lt_run d Y261 37 [some (.inr (.inr (some a0))), some (.inl x1), some (.inl x2), none, none, none, none, none, none] [] m
noncomputable def L261_93 (d : Nat) (a0 : Nat) (x1 : Int32) (x2 : Int32) (x3 : Int32) (x4 : Int32) (x5 : Int32) (o6 : Option ts_V) (o7 : Option ts_V) (o8 : Option ts_V) (m : lt_m) : Option lt_r := lt_run d Y261 93 [some (.inr (.inr (some a0))), some (.inl x1), some (.inl x2), some (.inl x3), some (.inl x4), some (.inl x5), o6, o7, o8] [] m
noncomputable def L261_113 (d : Nat) (a0 : Nat) (x1 : Int32) (x2 : Int32) (x3 : Int32) (x4 : Int32) (x5 : Int32) (x6 : Int32) (x7 : Int32) (x8 : Int32) (m : lt_m) : Option lt_r := lt_run d Y261 113 [some (.inr (.inr (some a0))), some (.inl x1), some (.inl x2), some (.inl x3), some (.inl x4), some (.inl x5), some (.inl x6), some (.inl x7), some (.inl x8)] [] m
noncomputable def L261_145 (d : Nat) (a0 : Nat) (x1 : Int32) (x2 : Int32) (x3 : Int32) (x4 : Int32) (x5 : Int32) (x6 : Int32) (x7 : Int32) (x8 : Int32) (xt0 : Int32) (xt1 : Int32) (m : lt_m) : Option lt_r := lt_run d Y261 145 [some (.inr (.inr (some a0))), some (.inl x1), some (.inl x2), some (.inl x3), some (.inl x4), some (.inl x5), some (.inl x6), some (.inl x7), some (.inl x8)] [.inl xt0, .inl xt1] m
theorem E261 (d : Nat) (a0 : Nat) (x1 : Int32) (h0 : ts_sh a0 = (0, 12)) (m : lt_m) : lt_ev (d + 1) 261 [.inr (.inr (some a0)), .inl x1] m = lt_cV (lt_ev d 262 [.inr (.inr (some a0))] (lm_i m a0 15 (0 : Int32))) (fun m1 => (if (m1.1 a0 18) = (-1 : Int32) then (lt_cI (lt_ev d 213 [.inr (.inr (some a0)), .inl x1] m1) (fun v1 m2 => (if ¬ v1 = 0 then (L261_37 d a0 x1 (0 : Int32) m2) else (some (some (.inl (-1 : Int32)), m2))))) else (some (some (.inl ((-21 : Int32) - (m1.1 a0 18))), m1)))) := by
  refine Eq.trans (lt_enter2 (ls := [some (.inr (.inr (some a0))), some (.inl x1), none, none, none, none, none, none, none]) hY261 (Nat.le_of_ble_eq_true rfl) (by rfl)) ?_
  refine Eq.trans (li_aload_n d261_0 (by rfl)) ?_
  refine Eq.trans (li_iconst d261_1 ic_0) ?_
  refine Eq.trans (li_puti d261_2 fa_12_67 h0 rfl rfl) ?_
  refine Eq.trans (li_aload_n d261_5 (by rfl)) ?_
  refine Eq.trans (li_ivV d261_6 ca_12_313 kd_262 kl_262 (by rfl) (by rfl) h0 (Nat.le_of_ble_eq_true rfl) (Nat.le_of_ble_eq_true rfl)) ?_
  refine lt_cV_c (fun m1 => ?_)
  refine Eq.trans (li_aload_n d261_9 (by rfl)) ?_
  refine Eq.trans (li_geti d261_10 fa_12_107 h0 rfl) ?_
  refine Eq.trans (li_iconst d261_13 ic_n1) ?_
  refine Eq.trans (li_icmp_eq (t := 25) d261_14 (by rfl)) ?_
  refine lt_ite (fun c1 => ?_) (fun c1 => ?_)
  · refine Eq.trans (li_aload_n d261_25 (by rfl)) ?_
    refine Eq.trans (li_iload_n d261_26 (by rfl)) ?_
    refine Eq.trans (li_ivI d261_27 ca_12_246 kd_213 kl_213 (by rfl) (by rfl) h0 (Nat.le_of_ble_eq_true rfl) (Nat.le_of_ble_eq_true rfl)) ?_
    refine lt_cI_c (fun v1 m2 => ?_)
    refine Eq.trans (li_if_ne (t := 35) d261_30 (by rfl)) ?_
    refine lt_ite (fun c2 => ?_) (fun c2 => ?_)
    · refine Eq.trans (li_iconst d261_35 ic_0) ?_
      refine Eq.trans (li_istore_n (ls' := [some (.inr (.inr (some a0))), some (.inl x1), some (.inl (0 : Int32)), none, none, none, none, none, none]) d261_36 (by decide) (by rfl)) ?_
      rfl
    · refine Eq.trans (li_iconst d261_33 ic_n1) ?_
      exact li_iret d261_34 rfl
  · refine Eq.trans (li_bipush d261_17 bi_n21) ?_
    refine Eq.trans (li_aload_n d261_19 (by rfl)) ?_
    refine Eq.trans (li_geti d261_20 fa_12_107 h0 rfl) ?_
    refine Eq.trans (li_isub d261_23) ?_
    exact li_iret d261_24 rfl
theorem E261_37 (d : Nat) (a0 : Nat) (x1 : Int32) (x2 : Int32) (h0 : ts_sh a0 = (0, 12)) (m : lt_m) : L261_37 d a0 x1 x2 m = if (m.1 a0 36) ≤ x2 then (L261_93 d a0 x1 (0 : Int32) (0 : Int32) (0 : Int32) (1 : Int32) none none none m) else (lt_cI (lt_ev d 218 [.inr (.inr (some a0)), .inl x1] m) (fun v1 m1 => (lt_gd (0 ≤ x2 ∧ (x2).toNatClampNeg < 8) (lt_gd (0 ≤ x2 ∧ (x2).toNatClampNeg < 8) (lt_gd (0 ≤ (m1.1 (a0 + 16) (x2).toNatClampNeg) ∧ ((m1.1 (a0 + 16) (x2).toNatClampNeg)).toNatClampNeg < 6) (lt_cI (lt_ev d 227 [.inl v1, .inl ((m1.1 (a0 + 14) (x2).toNatClampNeg) * (m1.1 (a0 + 6) ((m1.1 (a0 + 16) (x2).toNatClampNeg)).toNatClampNeg))] m1) (fun v2 m2 => (lt_gd (0 ≤ x2 ∧ (x2).toNatClampNeg < 8) (L261_37 d a0 x1 (x2 + (1 : Int32)) (lm_i m2 (a0 + 15) (x2).toNatClampNeg v2)))))))))) := by
  show lt_run d Y261 37 [some (.inr (.inr (some a0))), some (.inl x1), some (.inl x2), none, none, none, none, none, none] [] m = _
  refine Eq.trans (li_iload_n d261_37 (by rfl)) ?_
  refine Eq.trans (li_aload_n d261_38 (by rfl)) ?_
  refine Eq.trans (li_geti d261_39 fa_12_310 h0 rfl) ?_
  refine Eq.trans (li_icmp_ge (t := 83) d261_42 (by rfl)) ?_
  refine lt_ite (fun c1 => ?_) (fun c1 => ?_)
  · refine Eq.trans (li_iconst d261_83 ic_0) ?_
    refine Eq.trans (li_istore_n (ls' := [some (.inr (.inr (some a0))), some (.inl x1), some (.inl (0 : Int32)), none, none, none, none, none, none]) d261_84 (by decide) (by rfl)) ?_
    refine Eq.trans (li_iconst d261_85 ic_0) ?_
    refine Eq.trans (li_istore_n (ls' := [some (.inr (.inr (some a0))), some (.inl x1), some (.inl (0 : Int32)), some (.inl (0 : Int32)), none, none, none, none, none]) d261_86 (by decide) (by rfl)) ?_
    refine Eq.trans (li_iconst d261_87 ic_0) ?_
    refine Eq.trans (li_istore (ls' := [some (.inr (.inr (some a0))), some (.inl x1), some (.inl (0 : Int32)), some (.inl (0 : Int32)), some (.inl (0 : Int32)), none, none, none, none]) d261_88 (by decide) (by rfl)) ?_
    refine Eq.trans (li_iconst d261_90 ic_1) ?_
    refine Eq.trans (li_istore (ls' := [some (.inr (.inr (some a0))), some (.inl x1), some (.inl (0 : Int32)), some (.inl (0 : Int32)), some (.inl (0 : Int32)), some (.inl (1 : Int32)), none, none, none]) d261_91 (by decide) (by rfl)) ?_
    rfl
  · refine Eq.trans (li_aload_n d261_45 (by rfl)) ?_
    refine Eq.trans (li_getr d261_46 fa_12_58 h0 rfl rfl rfl (by decide)) ?_
    refine Eq.trans (li_iload_n d261_49 (by rfl)) ?_
    refine Eq.trans (li_aload_n d261_50 (by rfl)) ?_
    refine Eq.trans (li_iload_n d261_51 (by rfl)) ?_
    refine Eq.trans (li_ivI d261_52 ca_12_249 kd_218 kl_218 (by rfl) (by rfl) h0 (Nat.le_of_ble_eq_true rfl) (Nat.le_of_ble_eq_true rfl)) ?_
    refine lt_cI_c (fun v1 m1 => ?_)
    refine Eq.trans (li_aload_n d261_55 (by rfl)) ?_
    refine Eq.trans (li_getr d261_56 fa_12_55 h0 rfl rfl rfl (by decide)) ?_
    refine Eq.trans (li_iload_n d261_59 (by rfl)) ?_
    refine Eq.trans (li_iald d261_60 (sf_of h0 33 (by decide) (by decide))) ?_
    refine lt_gd_c (fun g1 => ?_)
    refine Eq.trans (li_aload_n d261_61 (by rfl)) ?_
    refine Eq.trans (li_getr d261_62 fa_12_25 h0 rfl rfl rfl (by decide)) ?_
    refine Eq.trans (li_aload_n d261_65 (by rfl)) ?_
    refine Eq.trans (li_getr d261_66 fa_12_61 h0 rfl rfl rfl (by decide)) ?_
    refine Eq.trans (li_iload_n d261_69 (by rfl)) ?_
    refine Eq.trans (li_iald d261_70 (sf_of h0 35 (by decide) (by decide))) ?_
    refine lt_gd_c (fun g2 => ?_)
    refine Eq.trans (li_iald d261_71 (sf_of h0 7 (by decide) (by decide))) ?_
    refine lt_gd_c (fun g3 => ?_)
    refine Eq.trans (li_imul d261_72) ?_
    refine Eq.trans (li_isI d261_73 bi_12_269 ca_12_269 kd_227 (by rfl) (by rfl) (Nat.le_of_ble_eq_true rfl) (Nat.le_of_ble_eq_true rfl)) ?_
    refine lt_cI_c (fun v2 m2 => ?_)
    refine Eq.trans (li_iast d261_76 (sf_of h0 34 (by decide) (by decide))) ?_
    refine lt_gd_c (fun g4 => ?_)
    refine Eq.trans (li_iinc (ls' := [some (.inr (.inr (some a0))), some (.inl x1), some (.inl (x2 + (1 : Int32))), none, none, none, none, none, none]) d261_77 (by rfl) (by decide) ic_1 (by rfl)) ?_
    refine Eq.trans (li_goto (t := 37) d261_80 (by rfl)) ?_
    rfl
theorem E261_93 (d : Nat) (a0 : Nat) (x1 : Int32) (x2 : Int32) (x3 : Int32) (x4 : Int32) (x5 : Int32) (o6 : Option ts_V) (o7 : Option ts_V) (o8 : Option ts_V) (h0 : ts_sh a0 = (0, 12)) (m : lt_m) : L261_93 d a0 x1 x2 x3 x4 x5 o6 o7 o8 m = if ((1 : Int32) <<< ((m.1 a0 36) &&& 31)) ≤ x5 then (lt_cV (lt_ev d 202 [.inr (.inr (some a0)), .inr (.inl ((x3).toInt64))] (lm_i m a0 14 (0 : Int32))) (fun m1 => (lt_cV (lt_ev d 202 [.inr (.inr (some a0)), .inr (.inl ((x4).toInt64))] m1) (fun m2 => (some (some (.inl x2), m2)))))) else (L261_113 d a0 x1 x2 x3 x4 x5 (0 : Int32) (0 : Int32) (0 : Int32) m) := by
  show lt_run d Y261 93 [some (.inr (.inr (some a0))), some (.inl x1), some (.inl x2), some (.inl x3), some (.inl x4), some (.inl x5), o6, o7, o8] [] m = _
  refine Eq.trans (li_iload d261_93 (by rfl)) ?_
  refine Eq.trans (li_iconst d261_95 ic_1) ?_
  refine Eq.trans (li_aload_n d261_96 (by rfl)) ?_
  refine Eq.trans (li_geti d261_97 fa_12_310 h0 rfl) ?_
  refine Eq.trans (li_ishl d261_100) ?_
  refine Eq.trans (li_icmp_ge (t := 228) d261_101 (by rfl)) ?_
  refine lt_ite (fun c1 => ?_) (fun c1 => ?_)
  · refine Eq.trans (li_aload_n d261_228 (by rfl)) ?_
    refine Eq.trans (li_iconst d261_229 ic_0) ?_
    refine Eq.trans (li_puti d261_230 fa_12_70 h0 rfl rfl) ?_
    refine Eq.trans (li_aload_n d261_233 (by rfl)) ?_
    refine Eq.trans (li_iload_n d261_234 (by rfl)) ?_
    refine Eq.trans (li_i2l d261_235) ?_
    refine Eq.trans (li_ivV d261_236 ca_12_194 kd_202 kl_202 (by rfl) (by rfl) h0 (Nat.le_of_ble_eq_true rfl) (Nat.le_of_ble_eq_true rfl)) ?_
    refine lt_cV_c (fun m1 => ?_)
    refine Eq.trans (li_aload_n d261_239 (by rfl)) ?_
    refine Eq.trans (li_iload d261_240 (by rfl)) ?_
    refine Eq.trans (li_i2l d261_242) ?_
    refine Eq.trans (li_ivV d261_243 ca_12_194 kd_202 kl_202 (by rfl) (by rfl) h0 (Nat.le_of_ble_eq_true rfl) (Nat.le_of_ble_eq_true rfl)) ?_
    refine lt_cV_c (fun m2 => ?_)
    refine Eq.trans (li_iload_n d261_246 (by rfl)) ?_
    exact li_iret d261_247 rfl
  · refine Eq.trans (li_iconst d261_104 ic_0) ?_
    refine Eq.trans (li_istore (ls' := [some (.inr (.inr (some a0))), some (.inl x1), some (.inl x2), some (.inl x3), some (.inl x4), some (.inl x5), some (.inl (0 : Int32)), o7, o8]) d261_105 (by decide) (by rfl)) ?_
    refine Eq.trans (li_iconst d261_107 ic_0) ?_
    refine Eq.trans (li_istore (ls' := [some (.inr (.inr (some a0))), some (.inl x1), some (.inl x2), some (.inl x3), some (.inl x4), some (.inl x5), some (.inl (0 : Int32)), some (.inl (0 : Int32)), o8]) d261_108 (by decide) (by rfl)) ?_
    refine Eq.trans (li_iconst d261_110 ic_0) ?_
    refine Eq.trans (li_istore (ls' := [some (.inr (.inr (some a0))), some (.inl x1), some (.inl x2), some (.inl x3), some (.inl x4), some (.inl x5), some (.inl (0 : Int32)), some (.inl (0 : Int32)), some (.inl (0 : Int32))]) d261_111 (by decide) (by rfl)) ?_
    rfl
theorem E261_113 (d : Nat) (a0 : Nat) (x1 : Int32) (x2 : Int32) (x3 : Int32) (x4 : Int32) (x5 : Int32) (x6 : Int32) (x7 : Int32) (x8 : Int32) (h0 : ts_sh a0 = (0, 12)) (m : lt_m) : L261_113 d a0 x1 x2 x3 x4 x5 x6 x7 x8 m = if (m.1 a0 36) ≤ x8 then (lt_cI (lt_ev d 219 [.inr (.inr (some a0)), .inl x1] m) (fun v1 m1 => (if v1 < x7 then (L261_93 d a0 x1 x2 x3 x4 (x5 + (1 : Int32)) (some (.inl x6)) (some (.inl x7)) (some (.inl x8)) m1) else (if x6 < x3 then (L261_93 d a0 x1 x2 x3 x4 (x5 + (1 : Int32)) (some (.inl x6)) (some (.inl x7)) (some (.inl x8)) m1) else (if ¬ x6 = x3 then (L261_93 d a0 x1 x5 x6 x7 (x5 + (1 : Int32)) (some (.inl x6)) (some (.inl x7)) (some (.inl x8)) m1) else (if x7 < x4 then (L261_93 d a0 x1 x5 x6 x7 (x5 + (1 : Int32)) (some (.inl x6)) (some (.inl x7)) (some (.inl x8)) m1) else (L261_93 d a0 x1 x2 x3 x4 (x5 + (1 : Int32)) (some (.inl x6)) (some (.inl x7)) (some (.inl x8)) m1))))))) else (lt_cI (lt_ev d 207 [.inl x5, .inl x8] m) (fun v2 m2 => (if v2 = 0 then (L261_145 d a0 x1 x2 x3 x4 x5 x6 x7 x8 (0 : Int32) x6 m2) else (lt_gd (0 ≤ x8 ∧ (x8).toNatClampNeg < 8) (L261_145 d a0 x1 x2 x3 x4 x5 x6 x7 x8 (m2.1 (a0 + 14) (x8).toNatClampNeg) x6 m2))))) := by
  show lt_run d Y261 113 [some (.inr (.inr (some a0))), some (.inl x1), some (.inl x2), some (.inl x3), some (.inl x4), some (.inl x5), some (.inl x6), some (.inl x7), some (.inl x8)] [] m = _
  refine Eq.trans (li_iload d261_113 (by rfl)) ?_
  refine Eq.trans (li_aload_n d261_115 (by rfl)) ?_
  refine Eq.trans (li_geti d261_116 fa_12_310 h0 rfl) ?_
  refine Eq.trans (li_icmp_ge (t := 180) d261_119 (by rfl)) ?_
  refine lt_ite (fun c1 => ?_) (fun c1 => ?_)
  · refine Eq.trans (li_iload d261_180 (by rfl)) ?_
    refine Eq.trans (li_aload_n d261_182 (by rfl)) ?_
    refine Eq.trans (li_iload_n d261_183 (by rfl)) ?_
    refine Eq.trans (li_ivI d261_184 ca_12_252 kd_219 kl_219 (by rfl) (by rfl) h0 (Nat.le_of_ble_eq_true rfl) (Nat.le_of_ble_eq_true rfl)) ?_
    refine lt_cI_c (fun v1 m1 => ?_)
    refine Eq.trans (li_icmp_gt (t := 222) d261_187 (by rfl)) ?_
    refine lt_ite (fun c2 => ?_) (fun c2 => ?_)
    · refine Eq.trans (li_iinc (ls' := [some (.inr (.inr (some a0))), some (.inl x1), some (.inl x2), some (.inl x3), some (.inl x4), some (.inl (x5 + (1 : Int32))), some (.inl x6), some (.inl x7), some (.inl x8)]) d261_222 (by rfl) (by decide) ic_1 (by rfl)) ?_
      refine Eq.trans (li_goto (t := 93) d261_225 (by rfl)) ?_
      rfl
    · refine Eq.trans (li_iload d261_190 (by rfl)) ?_
      refine Eq.trans (li_iload_n d261_192 (by rfl)) ?_
      refine Eq.trans (li_icmp_lt (t := 222) d261_193 (by rfl)) ?_
      refine lt_ite (fun c3 => ?_) (fun c3 => ?_)
      · refine Eq.trans (li_iinc (ls' := [some (.inr (.inr (some a0))), some (.inl x1), some (.inl x2), some (.inl x3), some (.inl x4), some (.inl (x5 + (1 : Int32))), some (.inl x6), some (.inl x7), some (.inl x8)]) d261_222 (by rfl) (by decide) ic_1 (by rfl)) ?_
        refine Eq.trans (li_goto (t := 93) d261_225 (by rfl)) ?_
        rfl
      · refine Eq.trans (li_iload d261_196 (by rfl)) ?_
        refine Eq.trans (li_iload_n d261_198 (by rfl)) ?_
        refine Eq.trans (li_icmp_ne (t := 212) d261_199 (by rfl)) ?_
        refine lt_ite (fun c4 => ?_) (fun c4 => ?_)
        · refine Eq.trans (li_iload d261_212 (by rfl)) ?_
          refine Eq.trans (li_istore_n (ls' := [some (.inr (.inr (some a0))), some (.inl x1), some (.inl x5), some (.inl x3), some (.inl x4), some (.inl x5), some (.inl x6), some (.inl x7), some (.inl x8)]) d261_214 (by decide) (by rfl)) ?_
          refine Eq.trans (li_iload d261_215 (by rfl)) ?_
          refine Eq.trans (li_istore_n (ls' := [some (.inr (.inr (some a0))), some (.inl x1), some (.inl x5), some (.inl x6), some (.inl x4), some (.inl x5), some (.inl x6), some (.inl x7), some (.inl x8)]) d261_217 (by decide) (by rfl)) ?_
          refine Eq.trans (li_iload d261_218 (by rfl)) ?_
          refine Eq.trans (li_istore (ls' := [some (.inr (.inr (some a0))), some (.inl x1), some (.inl x5), some (.inl x6), some (.inl x7), some (.inl x5), some (.inl x6), some (.inl x7), some (.inl x8)]) d261_220 (by decide) (by rfl)) ?_
          refine Eq.trans (li_iinc (ls' := [some (.inr (.inr (some a0))), some (.inl x1), some (.inl x5), some (.inl x6), some (.inl x7), some (.inl (x5 + (1 : Int32))), some (.inl x6), some (.inl x7), some (.inl x8)]) d261_222 (by rfl) (by decide) ic_1 (by rfl)) ?_
          refine Eq.trans (li_goto (t := 93) d261_225 (by rfl)) ?_
          rfl
        · refine Eq.trans (li_iload d261_202 (by rfl)) ?_
          refine Eq.trans (li_iload d261_204 (by rfl)) ?_
          refine Eq.trans (li_icmp_lt (t := 212) d261_206 (by rfl)) ?_
          refine lt_ite (fun c5 => ?_) (fun c5 => ?_)
          · refine Eq.trans (li_iload d261_212 (by rfl)) ?_
            refine Eq.trans (li_istore_n (ls' := [some (.inr (.inr (some a0))), some (.inl x1), some (.inl x5), some (.inl x3), some (.inl x4), some (.inl x5), some (.inl x6), some (.inl x7), some (.inl x8)]) d261_214 (by decide) (by rfl)) ?_
            refine Eq.trans (li_iload d261_215 (by rfl)) ?_
            refine Eq.trans (li_istore_n (ls' := [some (.inr (.inr (some a0))), some (.inl x1), some (.inl x5), some (.inl x6), some (.inl x4), some (.inl x5), some (.inl x6), some (.inl x7), some (.inl x8)]) d261_217 (by decide) (by rfl)) ?_
            refine Eq.trans (li_iload d261_218 (by rfl)) ?_
            refine Eq.trans (li_istore (ls' := [some (.inr (.inr (some a0))), some (.inl x1), some (.inl x5), some (.inl x6), some (.inl x7), some (.inl x5), some (.inl x6), some (.inl x7), some (.inl x8)]) d261_220 (by decide) (by rfl)) ?_
            refine Eq.trans (li_iinc (ls' := [some (.inr (.inr (some a0))), some (.inl x1), some (.inl x5), some (.inl x6), some (.inl x7), some (.inl (x5 + (1 : Int32))), some (.inl x6), some (.inl x7), some (.inl x8)]) d261_222 (by rfl) (by decide) ic_1 (by rfl)) ?_
            refine Eq.trans (li_goto (t := 93) d261_225 (by rfl)) ?_
            rfl
          · refine Eq.trans (li_goto (t := 222) d261_209 (by rfl)) ?_
            refine Eq.trans (li_iinc (ls' := [some (.inr (.inr (some a0))), some (.inl x1), some (.inl x2), some (.inl x3), some (.inl x4), some (.inl (x5 + (1 : Int32))), some (.inl x6), some (.inl x7), some (.inl x8)]) d261_222 (by rfl) (by decide) ic_1 (by rfl)) ?_
            refine Eq.trans (li_goto (t := 93) d261_225 (by rfl)) ?_
            rfl
  · refine Eq.trans (li_iload d261_122 (by rfl)) ?_
    refine Eq.trans (li_iload d261_124 (by rfl)) ?_
    refine Eq.trans (li_iload d261_126 (by rfl)) ?_
    refine Eq.trans (li_isI d261_128 bi_12_216 ca_12_216 kd_207 (by rfl) (by rfl) (Nat.le_of_ble_eq_true rfl) (Nat.le_of_ble_eq_true rfl)) ?_
    refine lt_cI_c (fun v2 m2 => ?_)
    refine Eq.trans (li_if_eq (t := 144) d261_131 (by rfl)) ?_
    refine lt_ite (fun c6 => ?_) (fun c6 => ?_)
    · refine Eq.trans (li_iconst d261_144 ic_0) ?_
      rfl
    · refine Eq.trans (li_aload_n d261_134 (by rfl)) ?_
      refine Eq.trans (li_getr d261_135 fa_12_55 h0 rfl rfl rfl (by decide)) ?_
      refine Eq.trans (li_iload d261_138 (by rfl)) ?_
      refine Eq.trans (li_iald d261_140 (sf_of h0 33 (by decide) (by decide))) ?_
      refine lt_gd_c (fun g1 => ?_)
      refine Eq.trans (li_goto (t := 145) d261_141 (by rfl)) ?_
      rfl
theorem E261_145 (d : Nat) (a0 : Nat) (x1 : Int32) (x2 : Int32) (x3 : Int32) (x4 : Int32) (x5 : Int32) (x6 : Int32) (x7 : Int32) (x8 : Int32) (xt0 : Int32) (xt1 : Int32) (h0 : ts_sh a0 = (0, 12)) (m : lt_m) : L261_145 d a0 x1 x2 x3 x4 x5 x6 x7 x8 xt0 xt1 m = lt_cI (lt_ev d 207 [.inl x5, .inl x8] m) (fun v1 m1 => (if v1 = 0 then (L261_113 d a0 x1 x2 x3 x4 x5 (xt1 + xt0) (x7 + (0 : Int32)) (x8 + (1 : Int32)) m1) else (lt_gd (0 ≤ x8 ∧ (x8).toNatClampNeg < 8) (L261_113 d a0 x1 x2 x3 x4 x5 (xt1 + xt0) (x7 + (m1.1 (a0 + 15) (x8).toNatClampNeg)) (x8 + (1 : Int32)) m1)))) := by
  show lt_run d Y261 145 [some (.inr (.inr (some a0))), some (.inl x1), some (.inl x2), some (.inl x3), some (.inl x4), some (.inl x5), some (.inl x6), some (.inl x7), some (.inl x8)] [.inl xt0, .inl xt1] m = _
  refine Eq.trans (li_iadd d261_145) ?_
  refine Eq.trans (li_istore (ls' := [some (.inr (.inr (some a0))), some (.inl x1), some (.inl x2), some (.inl x3), some (.inl x4), some (.inl x5), some (.inl (xt1 + xt0)), some (.inl x7), some (.inl x8)]) d261_146 (by decide) (by rfl)) ?_
  refine Eq.trans (li_iload d261_148 (by rfl)) ?_
  refine Eq.trans (li_iload d261_150 (by rfl)) ?_
  refine Eq.trans (li_iload d261_152 (by rfl)) ?_
  refine Eq.trans (li_isI d261_154 bi_12_216 ca_12_216 kd_207 (by rfl) (by rfl) (Nat.le_of_ble_eq_true rfl) (Nat.le_of_ble_eq_true rfl)) ?_
  refine lt_cI_c (fun v1 m1 => ?_)
  refine Eq.trans (li_if_eq (t := 170) d261_157 (by rfl)) ?_
  refine lt_ite (fun c1 => ?_) (fun c1 => ?_)
  · refine Eq.trans (li_iconst d261_170 ic_0) ?_
    refine Eq.trans (li_iadd d261_171) ?_
    refine Eq.trans (li_istore (ls' := [some (.inr (.inr (some a0))), some (.inl x1), some (.inl x2), some (.inl x3), some (.inl x4), some (.inl x5), some (.inl (xt1 + xt0)), some (.inl (x7 + (0 : Int32))), some (.inl x8)]) d261_172 (by decide) (by rfl)) ?_
    refine Eq.trans (li_iinc (ls' := [some (.inr (.inr (some a0))), some (.inl x1), some (.inl x2), some (.inl x3), some (.inl x4), some (.inl x5), some (.inl (xt1 + xt0)), some (.inl (x7 + (0 : Int32))), some (.inl (x8 + (1 : Int32)))]) d261_174 (by rfl) (by decide) ic_1 (by rfl)) ?_
    refine Eq.trans (li_goto (t := 113) d261_177 (by rfl)) ?_
    rfl
  · refine Eq.trans (li_aload_n d261_160 (by rfl)) ?_
    refine Eq.trans (li_getr d261_161 fa_12_58 h0 rfl rfl rfl (by decide)) ?_
    refine Eq.trans (li_iload d261_164 (by rfl)) ?_
    refine Eq.trans (li_iald d261_166 (sf_of h0 34 (by decide) (by decide))) ?_
    refine lt_gd_c (fun g1 => ?_)
    refine Eq.trans (li_goto (t := 171) d261_167 (by rfl)) ?_
    refine Eq.trans (li_iadd d261_171) ?_
    refine Eq.trans (li_istore (ls' := [some (.inr (.inr (some a0))), some (.inl x1), some (.inl x2), some (.inl x3), some (.inl x4), some (.inl x5), some (.inl (xt1 + xt0)), some (.inl (x7 + (m1.1 (a0 + 15) (x8).toNatClampNeg))), some (.inl x8)]) d261_172 (by decide) (by rfl)) ?_
    refine Eq.trans (li_iinc (ls' := [some (.inr (.inr (some a0))), some (.inl x1), some (.inl x2), some (.inl x3), some (.inl x4), some (.inl x5), some (.inl (xt1 + xt0)), some (.inl (x7 + (m1.1 (a0 + 15) (x8).toNatClampNeg))), some (.inl (x8 + (1 : Int32)))]) d261_174 (by rfl) (by decide) ic_1 (by rfl)) ?_
    refine Eq.trans (li_goto (t := 113) d261_177 (by rfl)) ?_
    rfl
/-! TransitSealsModel.readsLoads()V -/
theorem d262_0 : decode Y262.2.1 0 = .ok (.aload_n 0, 1) := by decide +kernel
theorem d262_1 : decode Y262.2.1 1 = .ok (.invokevirtual 148, 3) := by decide +kernel
theorem d262_4 : decode Y262.2.1 4 = .ok (.aload_n 0, 1) := by decide +kernel
theorem d262_5 : decode Y262.2.1 5 = .ok (.iconst 0, 1) := by decide +kernel
theorem d262_6 : decode Y262.2.1 6 = .ok (.putfield 310, 3) := by decide +kernel
theorem d262_9 : decode Y262.2.1 9 = .ok (.aload_n 0, 1) := by decide +kernel
theorem d262_10 : decode Y262.2.1 10 = .ok (.getfield 101, 3) := by decide +kernel
theorem d262_13 : decode Y262.2.1 13 = .ok (.ifCond .le 7, 3) := by decide +kernel
theorem d262_16 : decode Y262.2.1 16 = .ok (.iconst 1, 1) := by decide +kernel
theorem d262_17 : decode Y262.2.1 17 = .ok (.goto 4, 3) := by decide +kernel
theorem d262_20 : decode Y262.2.1 20 = .ok (.iconst 0, 1) := by decide +kernel
theorem d262_21 : decode Y262.2.1 21 = .ok (.istore_n 1, 1) := by decide +kernel
theorem d262_22 : decode Y262.2.1 22 = .ok (.iload_n 1, 1) := by decide +kernel
theorem d262_23 : decode Y262.2.1 23 = .ok (.ifCond .eq 115, 3) := by decide +kernel
theorem d262_26 : decode Y262.2.1 26 = .ok (.aload_n 0, 1) := by decide +kernel
theorem d262_27 : decode Y262.2.1 27 = .ok (.getfield 107, 3) := by decide +kernel
theorem d262_30 : decode Y262.2.1 30 = .ok (.iconst (-1), 1) := by decide +kernel
theorem d262_31 : decode Y262.2.1 31 = .ok (.if_icmp .ne 107, 3) := by decide +kernel
theorem d262_34 : decode Y262.2.1 34 = .ok (.aload_n 0, 1) := by decide +kernel
theorem d262_35 : decode Y262.2.1 35 = .ok (.getfield 61, 3) := by decide +kernel
theorem d262_38 : decode Y262.2.1 38 = .ok (.aload_n 0, 1) := by decide +kernel
theorem d262_39 : decode Y262.2.1 39 = .ok (.getfield 310, 3) := by decide +kernel
theorem d262_42 : decode Y262.2.1 42 = .ok (.aload_n 0, 1) := by decide +kernel
theorem d262_43 : decode Y262.2.1 43 = .ok (.iconst 0, 1) := by decide +kernel
theorem d262_44 : decode Y262.2.1 44 = .ok (.aload_n 0, 1) := by decide +kernel
theorem d262_45 : decode Y262.2.1 45 = .ok (.getfield 80, 3) := by decide +kernel
theorem d262_48 : decode Y262.2.1 48 = .ok (.iconst 1, 1) := by decide +kernel
theorem d262_49 : decode Y262.2.1 49 = .ok (.isub, 1) := by decide +kernel
theorem d262_50 : decode Y262.2.1 50 = .ok (.iconst 1, 1) := by decide +kernel
theorem d262_51 : decode Y262.2.1 51 = .ok (.invokevirtual 122, 3) := by decide +kernel
theorem d262_54 : decode Y262.2.1 54 = .ok (.iastore, 1) := by decide +kernel
theorem d262_55 : decode Y262.2.1 55 = .ok (.aload_n 0, 1) := by decide +kernel
theorem d262_56 : decode Y262.2.1 56 = .ok (.bipush 58, 2) := by decide +kernel
theorem d262_58 : decode Y262.2.1 58 = .ok (.invokevirtual 129, 3) := by decide +kernel
theorem d262_61 : decode Y262.2.1 61 = .ok (.aload_n 0, 1) := by decide +kernel
theorem d262_62 : decode Y262.2.1 62 = .ok (.getfield 55, 3) := by decide +kernel
theorem d262_65 : decode Y262.2.1 65 = .ok (.aload_n 0, 1) := by decide +kernel
theorem d262_66 : decode Y262.2.1 66 = .ok (.getfield 310, 3) := by decide +kernel
theorem d262_69 : decode Y262.2.1 69 = .ok (.aload_n 0, 1) := by decide +kernel
theorem d262_70 : decode Y262.2.1 70 = .ok (.iconst 1, 1) := by decide +kernel
theorem d262_71 : decode Y262.2.1 71 = .ok (.sipush 999, 3) := by decide +kernel
theorem d262_74 : decode Y262.2.1 74 = .ok (.iconst 3, 1) := by decide +kernel
theorem d262_75 : decode Y262.2.1 75 = .ok (.invokevirtual 122, 3) := by decide +kernel
theorem d262_78 : decode Y262.2.1 78 = .ok (.iastore, 1) := by decide +kernel
theorem d262_79 : decode Y262.2.1 79 = .ok (.aload_n 0, 1) := by decide +kernel
theorem d262_80 : decode Y262.2.1 80 = .ok (.dup, 1) := by decide +kernel
theorem d262_81 : decode Y262.2.1 81 = .ok (.getfield 310, 3) := by decide +kernel
theorem d262_84 : decode Y262.2.1 84 = .ok (.iconst 1, 1) := by decide +kernel
theorem d262_85 : decode Y262.2.1 85 = .ok (.iadd, 1) := by decide +kernel
theorem d262_86 : decode Y262.2.1 86 = .ok (.putfield 310, 3) := by decide +kernel
theorem d262_89 : decode Y262.2.1 89 = .ok (.aload_n 0, 1) := by decide +kernel
theorem d262_90 : decode Y262.2.1 90 = .ok (.getfield 107, 3) := by decide +kernel
theorem d262_93 : decode Y262.2.1 93 = .ok (.iconst (-1), 1) := by decide +kernel
theorem d262_94 : decode Y262.2.1 94 = .ok (.if_icmp .ne 25, 3) := by decide +kernel
theorem d262_97 : decode Y262.2.1 97 = .ok (.aload_n 0, 1) := by decide +kernel
theorem d262_98 : decode Y262.2.1 98 = .ok (.invokevirtual 110, 3) := by decide +kernel
theorem d262_101 : decode Y262.2.1 101 = .ok (.bipush 44, 2) := by decide +kernel
theorem d262_103 : decode Y262.2.1 103 = .ok (.if_icmp .ne 16, 3) := by decide +kernel
theorem d262_106 : decode Y262.2.1 106 = .ok (.aload_n 0, 1) := by decide +kernel
theorem d262_107 : decode Y262.2.1 107 = .ok (.getfield 310, 3) := by decide +kernel
theorem d262_110 : decode Y262.2.1 110 = .ok (.bipush 8, 2) := by decide +kernel
theorem d262_112 : decode Y262.2.1 112 = .ok (.if_icmp .ge 7, 3) := by decide +kernel
theorem d262_115 : decode Y262.2.1 115 = .ok (.iconst 1, 1) := by decide +kernel
theorem d262_116 : decode Y262.2.1 116 = .ok (.goto 4, 3) := by decide +kernel
theorem d262_119 : decode Y262.2.1 119 = .ok (.iconst 0, 1) := by decide +kernel
theorem d262_120 : decode Y262.2.1 120 = .ok (.istore_n 1, 1) := by decide +kernel
theorem d262_121 : decode Y262.2.1 121 = .ok (.iload_n 1, 1) := by decide +kernel
theorem d262_122 : decode Y262.2.1 122 = .ok (.ifCond .eq (-100), 3) := by decide +kernel
theorem d262_125 : decode Y262.2.1 125 = .ok (.aload_n 0, 1) := by decide +kernel
theorem d262_126 : decode Y262.2.1 126 = .ok (.dup, 1) := by decide +kernel
theorem d262_127 : decode Y262.2.1 127 = .ok (.getfield 104, 3) := by decide +kernel
theorem d262_130 : decode Y262.2.1 130 = .ok (.iconst 1, 1) := by decide +kernel
theorem d262_131 : decode Y262.2.1 131 = .ok (.iadd, 1) := by decide +kernel
theorem d262_132 : decode Y262.2.1 132 = .ok (.putfield 104, 3) := by decide +kernel
theorem d262_135 : decode Y262.2.1 135 = .ok (.goto (-113), 3) := by decide +kernel
theorem d262_138 : decode Y262.2.1 138 = .ok (.aload_n 0, 1) := by decide +kernel
theorem d262_139 : decode Y262.2.1 139 = .ok (.getfield 107, 3) := by decide +kernel
theorem d262_142 : decode Y262.2.1 142 = .ok (.iconst (-1), 1) := by decide +kernel
theorem d262_143 : decode Y262.2.1 143 = .ok (.if_icmp .ne 22, 3) := by decide +kernel
theorem d262_146 : decode Y262.2.1 146 = .ok (.aload_n 0, 1) := by decide +kernel
theorem d262_147 : decode Y262.2.1 147 = .ok (.getfield 104, 3) := by decide +kernel
theorem d262_150 : decode Y262.2.1 150 = .ok (.aload_n 0, 1) := by decide +kernel
theorem d262_151 : decode Y262.2.1 151 = .ok (.getfield 101, 3) := by decide +kernel
theorem d262_154 : decode Y262.2.1 154 = .ok (.if_icmp .ge 11, 3) := by decide +kernel
theorem d262_157 : decode Y262.2.1 157 = .ok (.aload_n 0, 1) := by decide +kernel
theorem d262_158 : decode Y262.2.1 158 = .ok (.aload_n 0, 1) := by decide +kernel
theorem d262_159 : decode Y262.2.1 159 = .ok (.getfield 104, 3) := by decide +kernel
theorem d262_162 : decode Y262.2.1 162 = .ok (.invokevirtual 114, 3) := by decide +kernel
theorem d262_165 : decode Y262.2.1 165 = .ok (.return_, 1) := by decide +kernel
noncomputable def L262_22 (d : Nat) (a0 : Nat) (x1 : Int32) (m : lt_m) : Option lt_r := lt_run d Y262 22 [some (.inr (.inr (some a0))), some (.inl x1)] [] m
noncomputable def L262_120 (d : Nat) (a0 : Nat) (x1 : Int32) (xt0 : Int32) (m : lt_m) : Option lt_r := lt_run d Y262 120 [some (.inr (.inr (some a0))), some (.inl x1)] [.inl xt0] m
noncomputable def L262_138 (d : Nat) (a0 : Nat) (x1 : Int32) (m : lt_m) : Option lt_r := lt_run d Y262 138 [some (.inr (.inr (some a0))), some (.inl x1)] [] m
theorem E262 (d : Nat) (a0 : Nat) (h0 : ts_sh a0 = (0, 12)) (m : lt_m) : lt_ev (d + 1) 262 [.inr (.inr (some a0))] m = lt_cV (lt_ev d 183 [.inr (.inr (some a0))] m) (fun m1 => (if ((lm_i m1 a0 36 (0 : Int32)).1 a0 16) ≤ 0 then (L262_22 d a0 (0 : Int32) (lm_i m1 a0 36 (0 : Int32))) else (L262_22 d a0 (1 : Int32) (lm_i m1 a0 36 (0 : Int32))))) := by
  refine Eq.trans (lt_enter2 (ls := [some (.inr (.inr (some a0))), none]) hY262 (Nat.le_of_ble_eq_true rfl) (by rfl)) ?_
  refine Eq.trans (li_aload_n d262_0 (by rfl)) ?_
  refine Eq.trans (li_ivV d262_1 ca_12_148 kd_183 kl_183 (by rfl) (by rfl) h0 (Nat.le_of_ble_eq_true rfl) (Nat.le_of_ble_eq_true rfl)) ?_
  refine lt_cV_c (fun m1 => ?_)
  refine Eq.trans (li_aload_n d262_4 (by rfl)) ?_
  refine Eq.trans (li_iconst d262_5 ic_0) ?_
  refine Eq.trans (li_puti d262_6 fa_12_310 h0 rfl rfl) ?_
  refine Eq.trans (li_aload_n d262_9 (by rfl)) ?_
  refine Eq.trans (li_geti d262_10 fa_12_101 h0 rfl) ?_
  refine Eq.trans (li_if_le (t := 20) d262_13 (by rfl)) ?_
  refine lt_ite (fun c1 => ?_) (fun c1 => ?_)
  · refine Eq.trans (li_iconst d262_20 ic_0) ?_
    refine Eq.trans (li_istore_n (ls' := [some (.inr (.inr (some a0))), some (.inl (0 : Int32))]) d262_21 (by decide) (by rfl)) ?_
    rfl
  · refine Eq.trans (li_iconst d262_16 ic_1) ?_
    refine Eq.trans (li_goto (t := 21) d262_17 (by rfl)) ?_
    refine Eq.trans (li_istore_n (ls' := [some (.inr (.inr (some a0))), some (.inl (1 : Int32))]) d262_21 (by decide) (by rfl)) ?_
    rfl
theorem E262_22 (d : Nat) (a0 : Nat) (x1 : Int32) (h0 : ts_sh a0 = (0, 12)) (m : lt_m) : L262_22 d a0 x1 m = if x1 = 0 then (L262_138 d a0 x1 m) else (if ¬ (m.1 a0 18) = (-1 : Int32) then (L262_138 d a0 x1 m) else (lt_cI (lt_ev d 188 [.inr (.inr (some a0)), .inl (0 : Int32), .inl ((m.1 a0 10) - (1 : Int32)), .inl (1 : Int32)] m) (fun v1 m1 => (lt_gd (0 ≤ (m.1 a0 36) ∧ ((m.1 a0 36)).toNatClampNeg < 8) (lt_cV (lt_ev d 189 [.inr (.inr (some a0)), .inl (58 : Int32)] (lm_i m1 (a0 + 16) ((m.1 a0 36)).toNatClampNeg v1)) (fun m2 => (lt_cI (lt_ev d 188 [.inr (.inr (some a0)), .inl (1 : Int32), .inl (999 : Int32), .inl (3 : Int32)] m2) (fun v2 m3 => (lt_gd (0 ≤ (m2.1 a0 36) ∧ ((m2.1 a0 36)).toNatClampNeg < 8) (if ¬ ((lm_i (lm_i m3 (a0 + 14) ((m2.1 a0 36)).toNatClampNeg v2) a0 36 (((lm_i m3 (a0 + 14) ((m2.1 a0 36)).toNatClampNeg v2).1 a0 36) + (1 : Int32))).1 a0 18) = (-1 : Int32) then (L262_120 d a0 x1 (0 : Int32) (lm_i (lm_i m3 (a0 + 14) ((m2.1 a0 36)).toNatClampNeg v2) a0 36 (((lm_i m3 (a0 + 14) ((m2.1 a0 36)).toNatClampNeg v2).1 a0 36) + (1 : Int32)))) else (lt_cI (lt_ev d 186 [.inr (.inr (some a0))] (lm_i (lm_i m3 (a0 + 14) ((m2.1 a0 36)).toNatClampNeg v2) a0 36 (((lm_i m3 (a0 + 14) ((m2.1 a0 36)).toNatClampNeg v2).1 a0 36) + (1 : Int32)))) (fun v3 m4 => (if ¬ v3 = (44 : Int32) then (L262_120 d a0 x1 (0 : Int32) m4) else (if (8 : Int32) ≤ (m4.1 a0 36) then (L262_120 d a0 x1 (0 : Int32) m4) else (L262_120 d a0 x1 (1 : Int32) m4))))))))))))))) := by
  show lt_run d Y262 22 [some (.inr (.inr (some a0))), some (.inl x1)] [] m = _
  refine Eq.trans (li_iload_n d262_22 (by rfl)) ?_
  refine Eq.trans (li_if_eq (t := 138) d262_23 (by rfl)) ?_
  refine lt_ite (fun c1 => ?_) (fun c1 => ?_)
  · rfl
  · refine Eq.trans (li_aload_n d262_26 (by rfl)) ?_
    refine Eq.trans (li_geti d262_27 fa_12_107 h0 rfl) ?_
    refine Eq.trans (li_iconst d262_30 ic_n1) ?_
    refine Eq.trans (li_icmp_ne (t := 138) d262_31 (by rfl)) ?_
    refine lt_ite (fun c2 => ?_) (fun c2 => ?_)
    · rfl
    · refine Eq.trans (li_aload_n d262_34 (by rfl)) ?_
      refine Eq.trans (li_getr d262_35 fa_12_61 h0 rfl rfl rfl (by decide)) ?_
      refine Eq.trans (li_aload_n d262_38 (by rfl)) ?_
      refine Eq.trans (li_geti d262_39 fa_12_310 h0 rfl) ?_
      refine Eq.trans (li_aload_n d262_42 (by rfl)) ?_
      refine Eq.trans (li_iconst d262_43 ic_0) ?_
      refine Eq.trans (li_aload_n d262_44 (by rfl)) ?_
      refine Eq.trans (li_geti d262_45 fa_12_80 h0 rfl) ?_
      refine Eq.trans (li_iconst d262_48 ic_1) ?_
      refine Eq.trans (li_isub d262_49) ?_
      refine Eq.trans (li_iconst d262_50 ic_1) ?_
      refine Eq.trans (li_ivI d262_51 ca_12_122 kd_188 kl_188 (by rfl) (by rfl) h0 (Nat.le_of_ble_eq_true rfl) (Nat.le_of_ble_eq_true rfl)) ?_
      refine lt_cI_c (fun v1 m1 => ?_)
      refine Eq.trans (li_iast d262_54 (sf_of h0 35 (by decide) (by decide))) ?_
      refine lt_gd_c (fun g1 => ?_)
      refine Eq.trans (li_aload_n d262_55 (by rfl)) ?_
      refine Eq.trans (li_bipush d262_56 bi_58) ?_
      refine Eq.trans (li_ivV d262_58 ca_12_129 kd_189 kl_189 (by rfl) (by rfl) h0 (Nat.le_of_ble_eq_true rfl) (Nat.le_of_ble_eq_true rfl)) ?_
      refine lt_cV_c (fun m2 => ?_)
      refine Eq.trans (li_aload_n d262_61 (by rfl)) ?_
      refine Eq.trans (li_getr d262_62 fa_12_55 h0 rfl rfl rfl (by decide)) ?_
      refine Eq.trans (li_aload_n d262_65 (by rfl)) ?_
      refine Eq.trans (li_geti d262_66 fa_12_310 h0 rfl) ?_
      refine Eq.trans (li_aload_n d262_69 (by rfl)) ?_
      refine Eq.trans (li_iconst d262_70 ic_1) ?_
      refine Eq.trans (li_sipush d262_71 si_999) ?_
      refine Eq.trans (li_iconst d262_74 ic_3) ?_
      refine Eq.trans (li_ivI d262_75 ca_12_122 kd_188 kl_188 (by rfl) (by rfl) h0 (Nat.le_of_ble_eq_true rfl) (Nat.le_of_ble_eq_true rfl)) ?_
      refine lt_cI_c (fun v2 m3 => ?_)
      refine Eq.trans (li_iast d262_78 (sf_of h0 33 (by decide) (by decide))) ?_
      refine lt_gd_c (fun g2 => ?_)
      refine Eq.trans (li_aload_n d262_79 (by rfl)) ?_
      refine Eq.trans (li_dup d262_80 rfl) ?_
      refine Eq.trans (li_geti d262_81 fa_12_310 h0 rfl) ?_
      refine Eq.trans (li_iconst d262_84 ic_1) ?_
      refine Eq.trans (li_iadd d262_85) ?_
      refine Eq.trans (li_puti d262_86 fa_12_310 h0 rfl rfl) ?_
      refine Eq.trans (li_aload_n d262_89 (by rfl)) ?_
      refine Eq.trans (li_geti d262_90 fa_12_107 h0 rfl) ?_
      refine Eq.trans (li_iconst d262_93 ic_n1) ?_
      refine Eq.trans (li_icmp_ne (t := 119) d262_94 (by rfl)) ?_
      refine lt_ite (fun c3 => ?_) (fun c3 => ?_)
      · refine Eq.trans (li_iconst d262_119 ic_0) ?_
        rfl
      · refine Eq.trans (li_aload_n d262_97 (by rfl)) ?_
        refine Eq.trans (li_ivI d262_98 ca_12_110 kd_186 kl_186 (by rfl) (by rfl) h0 (Nat.le_of_ble_eq_true rfl) (Nat.le_of_ble_eq_true rfl)) ?_
        refine lt_cI_c (fun v3 m4 => ?_)
        refine Eq.trans (li_bipush d262_101 bi_44) ?_
        refine Eq.trans (li_icmp_ne (t := 119) d262_103 (by rfl)) ?_
        refine lt_ite (fun c4 => ?_) (fun c4 => ?_)
        · refine Eq.trans (li_iconst d262_119 ic_0) ?_
          rfl
        · refine Eq.trans (li_aload_n d262_106 (by rfl)) ?_
          refine Eq.trans (li_geti d262_107 fa_12_310 h0 rfl) ?_
          refine Eq.trans (li_bipush d262_110 bi_8) ?_
          refine Eq.trans (li_icmp_ge (t := 119) d262_112 (by rfl)) ?_
          refine lt_ite (fun c5 => ?_) (fun c5 => ?_)
          · refine Eq.trans (li_iconst d262_119 ic_0) ?_
            rfl
          · refine Eq.trans (li_iconst d262_115 ic_1) ?_
            refine Eq.trans (li_goto (t := 120) d262_116 (by rfl)) ?_
            rfl
theorem E262_120 (d : Nat) (a0 : Nat) (x1 : Int32) (xt0 : Int32) (h0 : ts_sh a0 = (0, 12)) (m : lt_m) : L262_120 d a0 x1 xt0 m = if xt0 = 0 then (L262_22 d a0 xt0 m) else (L262_22 d a0 xt0 (lm_i m a0 17 ((m.1 a0 17) + (1 : Int32)))) := by
  show lt_run d Y262 120 [some (.inr (.inr (some a0))), some (.inl x1)] [.inl xt0] m = _
  refine Eq.trans (li_istore_n (ls' := [some (.inr (.inr (some a0))), some (.inl xt0)]) d262_120 (by decide) (by rfl)) ?_
  refine Eq.trans (li_iload_n d262_121 (by rfl)) ?_
  refine Eq.trans (li_if_eq (t := 22) d262_122 (by rfl)) ?_
  refine lt_ite (fun c1 => ?_) (fun c1 => ?_)
  · rfl
  · refine Eq.trans (li_aload_n d262_125 (by rfl)) ?_
    refine Eq.trans (li_dup d262_126 rfl) ?_
    refine Eq.trans (li_geti d262_127 fa_12_104 h0 rfl) ?_
    refine Eq.trans (li_iconst d262_130 ic_1) ?_
    refine Eq.trans (li_iadd d262_131) ?_
    refine Eq.trans (li_puti d262_132 fa_12_104 h0 rfl rfl) ?_
    refine Eq.trans (li_goto (t := 22) d262_135 (by rfl)) ?_
    rfl
theorem E262_138 (d : Nat) (a0 : Nat) (x1 : Int32) (h0 : ts_sh a0 = (0, 12)) (m : lt_m) : L262_138 d a0 x1 m = if ¬ (m.1 a0 18) = (-1 : Int32) then (some (none, m)) else (if (m.1 a0 16) ≤ (m.1 a0 17) then (some (none, m)) else (lt_cV (lt_ev d 187 [.inr (.inr (some a0)), .inl (m.1 a0 17)] m) (fun m1 => (some (none, m1))))) := by
  show lt_run d Y262 138 [some (.inr (.inr (some a0))), some (.inl x1)] [] m = _
  refine Eq.trans (li_aload_n d262_138 (by rfl)) ?_
  refine Eq.trans (li_geti d262_139 fa_12_107 h0 rfl) ?_
  refine Eq.trans (li_iconst d262_142 ic_n1) ?_
  refine Eq.trans (li_icmp_ne (t := 165) d262_143 (by rfl)) ?_
  refine lt_ite (fun c1 => ?_) (fun c1 => ?_)
  · exact li_vret d262_165 rfl
  · refine Eq.trans (li_aload_n d262_146 (by rfl)) ?_
    refine Eq.trans (li_geti d262_147 fa_12_104 h0 rfl) ?_
    refine Eq.trans (li_aload_n d262_150 (by rfl)) ?_
    refine Eq.trans (li_geti d262_151 fa_12_101 h0 rfl) ?_
    refine Eq.trans (li_icmp_ge (t := 165) d262_154 (by rfl)) ?_
    refine lt_ite (fun c2 => ?_) (fun c2 => ?_)
    · exact li_vret d262_165 rfl
    · refine Eq.trans (li_aload_n d262_157 (by rfl)) ?_
      refine Eq.trans (li_aload_n d262_158 (by rfl)) ?_
      refine Eq.trans (li_geti d262_159 fa_12_104 h0 rfl) ?_
      refine Eq.trans (li_ivV d262_162 ca_12_114 kd_187 kl_187 (by rfl) (by rfl) h0 (Nat.le_of_ble_eq_true rfl) (Nat.le_of_ble_eq_true rfl)) ?_
      refine lt_cV_c (fun m1 => ?_)
      exact li_vret d262_165 rfl
/-! TransitSealsModel.detour()I -/
theorem d263_0 : decode Y263.2.1 0 = .ok (.aload_n 0, 1) := by decide +kernel
theorem d263_1 : decode Y263.2.1 1 = .ok (.iconst 0, 1) := by decide +kernel
theorem d263_2 : decode Y263.2.1 2 = .ok (.putfield 67, 3) := by decide +kernel
theorem d263_5 : decode Y263.2.1 5 = .ok (.aload_n 0, 1) := by decide +kernel
theorem d263_6 : decode Y263.2.1 6 = .ok (.invokevirtual 261, 3) := by decide +kernel
theorem d263_9 : decode Y263.2.1 9 = .ok (.aload_n 0, 1) := by decide +kernel
theorem d263_10 : decode Y263.2.1 10 = .ok (.getfield 107, 3) := by decide +kernel
theorem d263_13 : decode Y263.2.1 13 = .ok (.iconst (-1), 1) := by decide +kernel
theorem d263_14 : decode Y263.2.1 14 = .ok (.if_icmp .eq 11, 3) := by decide +kernel
theorem d263_17 : decode Y263.2.1 17 = .ok (.bipush (-21), 2) := by decide +kernel
theorem d263_19 : decode Y263.2.1 19 = .ok (.aload_n 0, 1) := by decide +kernel
theorem d263_20 : decode Y263.2.1 20 = .ok (.getfield 107, 3) := by decide +kernel
theorem d263_23 : decode Y263.2.1 23 = .ok (.isub, 1) := by decide +kernel
theorem d263_24 : decode Y263.2.1 24 = .ok (.ireturn, 1) := by decide +kernel
theorem d263_25 : decode Y263.2.1 25 = .ok (.aload_n 0, 1) := by decide +kernel
theorem d263_26 : decode Y263.2.1 26 = .ok (.aload_n 0, 1) := by decide +kernel
theorem d263_27 : decode Y263.2.1 27 = .ok (.getfield 49, 3) := by decide +kernel
theorem d263_30 : decode Y263.2.1 30 = .ok (.aload_n 0, 1) := by decide +kernel
theorem d263_31 : decode Y263.2.1 31 = .ok (.getfield 161, 3) := by decide +kernel
theorem d263_34 : decode Y263.2.1 34 = .ok (.iconst 1, 1) := by decide +kernel
theorem d263_35 : decode Y263.2.1 35 = .ok (.isub, 1) := by decide +kernel
theorem d263_36 : decode Y263.2.1 36 = .ok (.iaload, 1) := by decide +kernel
theorem d263_37 : decode Y263.2.1 37 = .ok (.invokevirtual 191, 3) := by decide +kernel
theorem d263_40 : decode Y263.2.1 40 = .ok (.aload_n 0, 1) := by decide +kernel
theorem d263_41 : decode Y263.2.1 41 = .ok (.iconst 0, 1) := by decide +kernel
theorem d263_42 : decode Y263.2.1 42 = .ok (.putfield 70, 3) := by decide +kernel
theorem d263_45 : decode Y263.2.1 45 = .ok (.aload_n 0, 1) := by decide +kernel
theorem d263_46 : decode Y263.2.1 46 = .ok (.aload_n 0, 1) := by decide +kernel
theorem d263_47 : decode Y263.2.1 47 = .ok (.getfield 164, 3) := by decide +kernel
theorem d263_50 : decode Y263.2.1 50 = .ok (.i2l, 1) := by decide +kernel
theorem d263_51 : decode Y263.2.1 51 = .ok (.invokevirtual 194, 3) := by decide +kernel
theorem d263_54 : decode Y263.2.1 54 = .ok (.aload_n 0, 1) := by decide +kernel
theorem d263_55 : decode Y263.2.1 55 = .ok (.aload_n 0, 1) := by decide +kernel
theorem d263_56 : decode Y263.2.1 56 = .ok (.getfield 7, 3) := by decide +kernel
theorem d263_59 : decode Y263.2.1 59 = .ok (.iconst 0, 1) := by decide +kernel
theorem d263_60 : decode Y263.2.1 60 = .ok (.iaload, 1) := by decide +kernel
theorem d263_61 : decode Y263.2.1 61 = .ok (.iconst 2, 1) := by decide +kernel
theorem d263_62 : decode Y263.2.1 62 = .ok (.aload_n 0, 1) := by decide +kernel
theorem d263_63 : decode Y263.2.1 63 = .ok (.getfield 164, 3) := by decide +kernel
theorem d263_66 : decode Y263.2.1 66 = .ok (.imul, 1) := by decide +kernel
theorem d263_67 : decode Y263.2.1 67 = .ok (.iadd, 1) := by decide +kernel
theorem d263_68 : decode Y263.2.1 68 = .ok (.bipush 24, 2) := by decide +kernel
theorem d263_70 : decode Y263.2.1 70 = .ok (.iadd, 1) := by decide +kernel
theorem d263_71 : decode Y263.2.1 71 = .ok (.i2l, 1) := by decide +kernel
theorem d263_72 : decode Y263.2.1 72 = .ok (.invokevirtual 194, 3) := by decide +kernel
theorem d263_75 : decode Y263.2.1 75 = .ok (.aload_n 0, 1) := by decide +kernel
theorem d263_76 : decode Y263.2.1 76 = .ok (.getfield 164, 3) := by decide +kernel
theorem d263_79 : decode Y263.2.1 79 = .ok (.aload_n 0, 1) := by decide +kernel
theorem d263_80 : decode Y263.2.1 80 = .ok (.getfield 52, 3) := by decide +kernel
theorem d263_83 : decode Y263.2.1 83 = .ok (.aload_n 0, 1) := by decide +kernel
theorem d263_84 : decode Y263.2.1 84 = .ok (.getfield 49, 3) := by decide +kernel
theorem d263_87 : decode Y263.2.1 87 = .ok (.iconst 0, 1) := by decide +kernel
theorem d263_88 : decode Y263.2.1 88 = .ok (.iaload, 1) := by decide +kernel
theorem d263_89 : decode Y263.2.1 89 = .ok (.iaload, 1) := by decide +kernel
theorem d263_90 : decode Y263.2.1 90 = .ok (.isub, 1) := by decide +kernel
theorem d263_91 : decode Y263.2.1 91 = .ok (.ireturn, 1) := by decide +kernel
theorem E263 (d : Nat) (a0 : Nat) (h0 : ts_sh a0 = (0, 12)) (m : lt_m) : lt_ev (d + 1) 263 [.inr (.inr (some a0))] m = lt_cV (lt_ev d 224 [.inr (.inr (some a0))] (lm_i m a0 15 (0 : Int32))) (fun m1 => (if (m1.1 a0 18) = (-1 : Int32) then (lt_gd (0 ≤ ((m1.1 a0 26) - (1 : Int32)) ∧ (((m1.1 a0 26) - (1 : Int32))).toNatClampNeg < 8) (lt_cV (lt_ev d 201 [.inr (.inr (some a0)), .inl (m1.1 (a0 + 12) (((m1.1 a0 26) - (1 : Int32))).toNatClampNeg)] m1) (fun m2 => (lt_cV (lt_ev d 202 [.inr (.inr (some a0)), .inr (.inl ((((lm_i m2 a0 14 (0 : Int32)).1 a0 27)).toInt64))] (lm_i m2 a0 14 (0 : Int32))) (fun m3 => (lt_gd (0 ≤ (0 : Int32) ∧ ((0 : Int32)).toNatClampNeg < 626) (lt_cV (lt_ev d 202 [.inr (.inr (some a0)), .inr (.inl (((((m3.1 (a0 + 1) ((0 : Int32)).toNatClampNeg) + ((2 : Int32) * (m3.1 a0 27))) + (24 : Int32))).toInt64))] m3) (fun m4 => (lt_gd (0 ≤ (0 : Int32) ∧ ((0 : Int32)).toNatClampNeg < 8) (lt_gd (0 ≤ (m4.1 (a0 + 12) ((0 : Int32)).toNatClampNeg) ∧ ((m4.1 (a0 + 12) ((0 : Int32)).toNatClampNeg)).toNatClampNeg < 12) (some (some (.inl ((m4.1 a0 27) - (m4.1 (a0 + 13) ((m4.1 (a0 + 12) ((0 : Int32)).toNatClampNeg)).toNatClampNeg))), m4)))))))))))) else (some (some (.inl ((-21 : Int32) - (m1.1 a0 18))), m1)))) := by
  refine Eq.trans (lt_enter2 (ls := [some (.inr (.inr (some a0)))]) hY263 (Nat.le_of_ble_eq_true rfl) (by rfl)) ?_
  refine Eq.trans (li_aload_n d263_0 (by rfl)) ?_
  refine Eq.trans (li_iconst d263_1 ic_0) ?_
  refine Eq.trans (li_puti d263_2 fa_12_67 h0 rfl rfl) ?_
  refine Eq.trans (li_aload_n d263_5 (by rfl)) ?_
  refine Eq.trans (li_ivV d263_6 ca_12_261 kd_224 kl_224 (by rfl) (by rfl) h0 (Nat.le_of_ble_eq_true rfl) (Nat.le_of_ble_eq_true rfl)) ?_
  refine lt_cV_c (fun m1 => ?_)
  refine Eq.trans (li_aload_n d263_9 (by rfl)) ?_
  refine Eq.trans (li_geti d263_10 fa_12_107 h0 rfl) ?_
  refine Eq.trans (li_iconst d263_13 ic_n1) ?_
  refine Eq.trans (li_icmp_eq (t := 25) d263_14 (by rfl)) ?_
  refine lt_ite (fun c1 => ?_) (fun c1 => ?_)
  · refine Eq.trans (li_aload_n d263_25 (by rfl)) ?_
    refine Eq.trans (li_aload_n d263_26 (by rfl)) ?_
    refine Eq.trans (li_getr d263_27 fa_12_49 h0 rfl rfl rfl (by decide)) ?_
    refine Eq.trans (li_aload_n d263_30 (by rfl)) ?_
    refine Eq.trans (li_geti d263_31 fa_12_161 h0 rfl) ?_
    refine Eq.trans (li_iconst d263_34 ic_1) ?_
    refine Eq.trans (li_isub d263_35) ?_
    refine Eq.trans (li_iald d263_36 (sf_of h0 25 (by decide) (by decide))) ?_
    refine lt_gd_c (fun g1 => ?_)
    refine Eq.trans (li_ivV d263_37 ca_12_191 kd_201 kl_201 (by rfl) (by rfl) h0 (Nat.le_of_ble_eq_true rfl) (Nat.le_of_ble_eq_true rfl)) ?_
    refine lt_cV_c (fun m2 => ?_)
    refine Eq.trans (li_aload_n d263_40 (by rfl)) ?_
    refine Eq.trans (li_iconst d263_41 ic_0) ?_
    refine Eq.trans (li_puti d263_42 fa_12_70 h0 rfl rfl) ?_
    refine Eq.trans (li_aload_n d263_45 (by rfl)) ?_
    refine Eq.trans (li_aload_n d263_46 (by rfl)) ?_
    refine Eq.trans (li_geti d263_47 fa_12_164 h0 rfl) ?_
    refine Eq.trans (li_i2l d263_50) ?_
    refine Eq.trans (li_ivV d263_51 ca_12_194 kd_202 kl_202 (by rfl) (by rfl) h0 (Nat.le_of_ble_eq_true rfl) (Nat.le_of_ble_eq_true rfl)) ?_
    refine lt_cV_c (fun m3 => ?_)
    refine Eq.trans (li_aload_n d263_54 (by rfl)) ?_
    refine Eq.trans (li_aload_n d263_55 (by rfl)) ?_
    refine Eq.trans (li_getr d263_56 fa_12_7 h0 rfl rfl rfl (by decide)) ?_
    refine Eq.trans (li_iconst d263_59 ic_0) ?_
    refine Eq.trans (li_iald d263_60 (sf_of h0 0 (by decide) (by decide))) ?_
    refine lt_gd_c (fun g2 => ?_)
    refine Eq.trans (li_iconst d263_61 ic_2) ?_
    refine Eq.trans (li_aload_n d263_62 (by rfl)) ?_
    refine Eq.trans (li_geti d263_63 fa_12_164 h0 rfl) ?_
    refine Eq.trans (li_imul d263_66) ?_
    refine Eq.trans (li_iadd d263_67) ?_
    refine Eq.trans (li_bipush d263_68 bi_24) ?_
    refine Eq.trans (li_iadd d263_70) ?_
    refine Eq.trans (li_i2l d263_71) ?_
    refine Eq.trans (li_ivV d263_72 ca_12_194 kd_202 kl_202 (by rfl) (by rfl) h0 (Nat.le_of_ble_eq_true rfl) (Nat.le_of_ble_eq_true rfl)) ?_
    refine lt_cV_c (fun m4 => ?_)
    refine Eq.trans (li_aload_n d263_75 (by rfl)) ?_
    refine Eq.trans (li_geti d263_76 fa_12_164 h0 rfl) ?_
    refine Eq.trans (li_aload_n d263_79 (by rfl)) ?_
    refine Eq.trans (li_getr d263_80 fa_12_52 h0 rfl rfl rfl (by decide)) ?_
    refine Eq.trans (li_aload_n d263_83 (by rfl)) ?_
    refine Eq.trans (li_getr d263_84 fa_12_49 h0 rfl rfl rfl (by decide)) ?_
    refine Eq.trans (li_iconst d263_87 ic_0) ?_
    refine Eq.trans (li_iald d263_88 (sf_of h0 25 (by decide) (by decide))) ?_
    refine lt_gd_c (fun g3 => ?_)
    refine Eq.trans (li_iald d263_89 (sf_of h0 28 (by decide) (by decide))) ?_
    refine lt_gd_c (fun g4 => ?_)
    refine Eq.trans (li_isub d263_90) ?_
    exact li_iret d263_91 rfl
  · refine Eq.trans (li_bipush d263_17 bi_n21) ?_
    refine Eq.trans (li_aload_n d263_19 (by rfl)) ?_
    refine Eq.trans (li_geti d263_20 fa_12_107 h0 rfl) ?_
    refine Eq.trans (li_isub d263_23) ?_
    exact li_iret d263_24 rfl
/-! TransitSealsModel.risk(I)I -/
theorem d264_0 : decode Y264.2.1 0 = .ok (.aload_n 0, 1) := by decide +kernel
theorem d264_1 : decode Y264.2.1 1 = .ok (.iconst 0, 1) := by decide +kernel
theorem d264_2 : decode Y264.2.1 2 = .ok (.putfield 67, 3) := by decide +kernel
theorem d264_5 : decode Y264.2.1 5 = .ok (.aload_n 0, 1) := by decide +kernel
theorem d264_6 : decode Y264.2.1 6 = .ok (.iload_n 1, 1) := by decide +kernel
theorem d264_7 : decode Y264.2.1 7 = .ok (.invokevirtual 272, 3) := by decide +kernel
theorem d264_10 : decode Y264.2.1 10 = .ok (.ifCond .ne 5, 3) := by decide +kernel
theorem d264_13 : decode Y264.2.1 13 = .ok (.iconst (-1), 1) := by decide +kernel
theorem d264_14 : decode Y264.2.1 14 = .ok (.ireturn, 1) := by decide +kernel
theorem d264_15 : decode Y264.2.1 15 = .ok (.aload_n 0, 1) := by decide +kernel
theorem d264_16 : decode Y264.2.1 16 = .ok (.iload_n 1, 1) := by decide +kernel
theorem d264_17 : decode Y264.2.1 17 = .ok (.invokevirtual 179, 3) := by decide +kernel
theorem d264_20 : decode Y264.2.1 20 = .ok (.ifCond .ne 15, 3) := by decide +kernel
theorem d264_23 : decode Y264.2.1 23 = .ok (.aload_n 0, 1) := by decide +kernel
theorem d264_24 : decode Y264.2.1 24 = .ok (.iload_n 1, 1) := by decide +kernel
theorem d264_25 : decode Y264.2.1 25 = .ok (.invokevirtual 87, 3) := by decide +kernel
theorem d264_28 : decode Y264.2.1 28 = .ok (.iconst 1, 1) := by decide +kernel
theorem d264_29 : decode Y264.2.1 29 = .ok (.if_icmp .eq 6, 3) := by decide +kernel
theorem d264_32 : decode Y264.2.1 32 = .ok (.bipush (-2), 2) := by decide +kernel
theorem d264_34 : decode Y264.2.1 34 = .ok (.ireturn, 1) := by decide +kernel
theorem d264_35 : decode Y264.2.1 35 = .ok (.aload_n 0, 1) := by decide +kernel
theorem d264_36 : decode Y264.2.1 36 = .ok (.iconst 0, 1) := by decide +kernel
theorem d264_37 : decode Y264.2.1 37 = .ok (.putfield 70, 3) := by decide +kernel
theorem d264_40 : decode Y264.2.1 40 = .ok (.aload_n 0, 1) := by decide +kernel
theorem d264_41 : decode Y264.2.1 41 = .ok (.aload_n 0, 1) := by decide +kernel
theorem d264_42 : decode Y264.2.1 42 = .ok (.iload_n 1, 1) := by decide +kernel
theorem d264_43 : decode Y264.2.1 43 = .ok (.invokevirtual 284, 3) := by decide +kernel
theorem d264_46 : decode Y264.2.1 46 = .ok (.aload_n 0, 1) := by decide +kernel
theorem d264_47 : decode Y264.2.1 47 = .ok (.iload_n 1, 1) := by decide +kernel
theorem d264_48 : decode Y264.2.1 48 = .ok (.iconst 4, 1) := by decide +kernel
theorem d264_49 : decode Y264.2.1 49 = .ok (.invokevirtual 83, 3) := by decide +kernel
theorem d264_52 : decode Y264.2.1 52 = .ok (.isub, 1) := by decide +kernel
theorem d264_53 : decode Y264.2.1 53 = .ok (.i2l, 1) := by decide +kernel
theorem d264_54 : decode Y264.2.1 54 = .ok (.invokevirtual 194, 3) := by decide +kernel
theorem d264_57 : decode Y264.2.1 57 = .ok (.aload_n 0, 1) := by decide +kernel
theorem d264_58 : decode Y264.2.1 58 = .ok (.aload_n 0, 1) := by decide +kernel
theorem d264_59 : decode Y264.2.1 59 = .ok (.getfield 19, 3) := by decide +kernel
theorem d264_62 : decode Y264.2.1 62 = .ok (.aload_n 0, 1) := by decide +kernel
theorem d264_63 : decode Y264.2.1 63 = .ok (.iload_n 1, 1) := by decide +kernel
theorem d264_64 : decode Y264.2.1 64 = .ok (.invokevirtual 182, 3) := by decide +kernel
theorem d264_67 : decode Y264.2.1 67 = .ok (.iaload, 1) := by decide +kernel
theorem d264_68 : decode Y264.2.1 68 = .ok (.i2l, 1) := by decide +kernel
theorem d264_69 : decode Y264.2.1 69 = .ok (.invokevirtual 194, 3) := by decide +kernel
theorem d264_72 : decode Y264.2.1 72 = .ok (.aload_n 0, 1) := by decide +kernel
theorem d264_73 : decode Y264.2.1 73 = .ok (.iload_n 1, 1) := by decide +kernel
theorem d264_74 : decode Y264.2.1 74 = .ok (.invokevirtual 284, 3) := by decide +kernel
theorem d264_77 : decode Y264.2.1 77 = .ok (.ireturn, 1) := by decide +kernel
noncomputable def L264_35 (d : Nat) (a0 : Nat) (x1 : Int32) (m : lt_m) : Option lt_r := lt_run d Y264 35 [some (.inr (.inr (some a0))), some (.inl x1)] [] m
theorem E264 (d : Nat) (a0 : Nat) (x1 : Int32) (h0 : ts_sh a0 = (0, 12)) (m : lt_m) : lt_ev (d + 1) 264 [.inr (.inr (some a0)), .inl x1] m = lt_cI (lt_ev d 231 [.inr (.inr (some a0)), .inl x1] (lm_i m a0 15 (0 : Int32))) (fun v1 m1 => (if ¬ v1 = 0 then (lt_cI (lt_ev d 196 [.inr (.inr (some a0)), .inl x1] m1) (fun v2 m2 => (if ¬ v2 = 0 then (L264_35 d a0 x1 m2) else (lt_cI (lt_ev d 197 [.inr (.inr (some a0)), .inl x1] m2) (fun v3 m3 => (if v3 = (1 : Int32) then (L264_35 d a0 x1 m3) else (some (some (.inl (-2 : Int32)), m3)))))))) else (some (some (.inl (-1 : Int32)), m1)))) := by
  refine Eq.trans (lt_enter2 (ls := [some (.inr (.inr (some a0))), some (.inl x1)]) hY264 (Nat.le_of_ble_eq_true rfl) (by rfl)) ?_
  refine Eq.trans (li_aload_n d264_0 (by rfl)) ?_
  refine Eq.trans (li_iconst d264_1 ic_0) ?_
  refine Eq.trans (li_puti d264_2 fa_12_67 h0 rfl rfl) ?_
  refine Eq.trans (li_aload_n d264_5 (by rfl)) ?_
  refine Eq.trans (li_iload_n d264_6 (by rfl)) ?_
  refine Eq.trans (li_ivI d264_7 ca_12_272 kd_231 kl_231 (by rfl) (by rfl) h0 (Nat.le_of_ble_eq_true rfl) (Nat.le_of_ble_eq_true rfl)) ?_
  refine lt_cI_c (fun v1 m1 => ?_)
  refine Eq.trans (li_if_ne (t := 15) d264_10 (by rfl)) ?_
  refine lt_ite (fun c1 => ?_) (fun c1 => ?_)
  · refine Eq.trans (li_aload_n d264_15 (by rfl)) ?_
    refine Eq.trans (li_iload_n d264_16 (by rfl)) ?_
    refine Eq.trans (li_ivI d264_17 ca_12_179 kd_196 kl_196 (by rfl) (by rfl) h0 (Nat.le_of_ble_eq_true rfl) (Nat.le_of_ble_eq_true rfl)) ?_
    refine lt_cI_c (fun v2 m2 => ?_)
    refine Eq.trans (li_if_ne (t := 35) d264_20 (by rfl)) ?_
    refine lt_ite (fun c2 => ?_) (fun c2 => ?_)
    · rfl
    · refine Eq.trans (li_aload_n d264_23 (by rfl)) ?_
      refine Eq.trans (li_iload_n d264_24 (by rfl)) ?_
      refine Eq.trans (li_ivI d264_25 ca_12_87 kd_197 kl_197 (by rfl) (by rfl) h0 (Nat.le_of_ble_eq_true rfl) (Nat.le_of_ble_eq_true rfl)) ?_
      refine lt_cI_c (fun v3 m3 => ?_)
      refine Eq.trans (li_iconst d264_28 ic_1) ?_
      refine Eq.trans (li_icmp_eq (t := 35) d264_29 (by rfl)) ?_
      refine lt_ite (fun c3 => ?_) (fun c3 => ?_)
      · rfl
      · refine Eq.trans (li_bipush d264_32 bi_n2) ?_
        exact li_iret d264_34 rfl
  · refine Eq.trans (li_iconst d264_13 ic_n1) ?_
    exact li_iret d264_14 rfl
theorem E264_35 (d : Nat) (a0 : Nat) (x1 : Int32) (h0 : ts_sh a0 = (0, 12)) (m : lt_m) : L264_35 d a0 x1 m = lt_cI (lt_ev d 241 [.inr (.inr (some a0)), .inl x1] (lm_i m a0 14 (0 : Int32))) (fun v1 m1 => (lt_cI (lt_ev d 198 [.inr (.inr (some a0)), .inl x1, .inl (4 : Int32)] m1) (fun v2 m2 => (lt_cV (lt_ev d 202 [.inr (.inr (some a0)), .inr (.inl (((v1 - v2)).toInt64))] m2) (fun m3 => (lt_cI (lt_ev d 199 [.inr (.inr (some a0)), .inl x1] m3) (fun v3 m4 => (lt_gd (0 ≤ v3 ∧ (v3).toNatClampNeg < 12) (lt_cV (lt_ev d 202 [.inr (.inr (some a0)), .inr (.inl (((m4.1 (a0 + 4) (v3).toNatClampNeg)).toInt64))] m4) (fun m5 => (lt_cI (lt_ev d 241 [.inr (.inr (some a0)), .inl x1] m5) (fun v4 m6 => (some (some (.inl v4), m6)))))))))))))) := by
  show lt_run d Y264 35 [some (.inr (.inr (some a0))), some (.inl x1)] [] m = _
  refine Eq.trans (li_aload_n d264_35 (by rfl)) ?_
  refine Eq.trans (li_iconst d264_36 ic_0) ?_
  refine Eq.trans (li_puti d264_37 fa_12_70 h0 rfl rfl) ?_
  refine Eq.trans (li_aload_n d264_40 (by rfl)) ?_
  refine Eq.trans (li_aload_n d264_41 (by rfl)) ?_
  refine Eq.trans (li_iload_n d264_42 (by rfl)) ?_
  refine Eq.trans (li_ivI d264_43 ca_12_284 kd_241 kl_241 (by rfl) (by rfl) h0 (Nat.le_of_ble_eq_true rfl) (Nat.le_of_ble_eq_true rfl)) ?_
  refine lt_cI_c (fun v1 m1 => ?_)
  refine Eq.trans (li_aload_n d264_46 (by rfl)) ?_
  refine Eq.trans (li_iload_n d264_47 (by rfl)) ?_
  refine Eq.trans (li_iconst d264_48 ic_4) ?_
  refine Eq.trans (li_ivI d264_49 ca_12_83 kd_198 kl_198 (by rfl) (by rfl) h0 (Nat.le_of_ble_eq_true rfl) (Nat.le_of_ble_eq_true rfl)) ?_
  refine lt_cI_c (fun v2 m2 => ?_)
  refine Eq.trans (li_isub d264_52) ?_
  refine Eq.trans (li_i2l d264_53) ?_
  refine Eq.trans (li_ivV d264_54 ca_12_194 kd_202 kl_202 (by rfl) (by rfl) h0 (Nat.le_of_ble_eq_true rfl) (Nat.le_of_ble_eq_true rfl)) ?_
  refine lt_cV_c (fun m3 => ?_)
  refine Eq.trans (li_aload_n d264_57 (by rfl)) ?_
  refine Eq.trans (li_aload_n d264_58 (by rfl)) ?_
  refine Eq.trans (li_getr d264_59 fa_12_19 h0 rfl rfl rfl (by decide)) ?_
  refine Eq.trans (li_aload_n d264_62 (by rfl)) ?_
  refine Eq.trans (li_iload_n d264_63 (by rfl)) ?_
  refine Eq.trans (li_ivI d264_64 ca_12_182 kd_199 kl_199 (by rfl) (by rfl) h0 (Nat.le_of_ble_eq_true rfl) (Nat.le_of_ble_eq_true rfl)) ?_
  refine lt_cI_c (fun v3 m4 => ?_)
  refine Eq.trans (li_iald d264_67 (sf_of h0 5 (by decide) (by decide))) ?_
  refine lt_gd_c (fun g1 => ?_)
  refine Eq.trans (li_i2l d264_68) ?_
  refine Eq.trans (li_ivV d264_69 ca_12_194 kd_202 kl_202 (by rfl) (by rfl) h0 (Nat.le_of_ble_eq_true rfl) (Nat.le_of_ble_eq_true rfl)) ?_
  refine lt_cV_c (fun m5 => ?_)
  refine Eq.trans (li_aload_n d264_72 (by rfl)) ?_
  refine Eq.trans (li_iload_n d264_73 (by rfl)) ?_
  refine Eq.trans (li_ivI d264_74 ca_12_284 kd_241 kl_241 (by rfl) (by rfl) h0 (Nat.le_of_ble_eq_true rfl) (Nat.le_of_ble_eq_true rfl)) ?_
  refine lt_cI_c (fun v4 m6 => ?_)
  exact li_iret d264_77 rfl
/-! TransitSealsModel.tightest()I -/
theorem d265_0 : decode Y265.2.1 0 = .ok (.aload_n 0, 1) := by decide +kernel
theorem d265_1 : decode Y265.2.1 1 = .ok (.iconst 0, 1) := by decide +kernel
theorem d265_2 : decode Y265.2.1 2 = .ok (.putfield 67, 3) := by decide +kernel
theorem d265_5 : decode Y265.2.1 5 = .ok (.bipush (-2), 2) := by decide +kernel
theorem d265_7 : decode Y265.2.1 7 = .ok (.istore_n 1, 1) := by decide +kernel
theorem d265_8 : decode Y265.2.1 8 = .ok (.lconst 0, 1) := by decide +kernel
theorem d265_9 : decode Y265.2.1 9 = .ok (.lstore_n 2, 1) := by decide +kernel
theorem d265_10 : decode Y265.2.1 10 = .ok (.iconst 0, 1) := by decide +kernel
theorem d265_11 : decode Y265.2.1 11 = .ok (.istore 4, 2) := by decide +kernel
theorem d265_13 : decode Y265.2.1 13 = .ok (.iload 4, 2) := by decide +kernel
theorem d265_15 : decode Y265.2.1 15 = .ok (.aload_n 0, 1) := by decide +kernel
theorem d265_16 : decode Y265.2.1 16 = .ok (.getfield 7, 3) := by decide +kernel
theorem d265_19 : decode Y265.2.1 19 = .ok (.iconst 1, 1) := by decide +kernel
theorem d265_20 : decode Y265.2.1 20 = .ok (.iaload, 1) := by decide +kernel
theorem d265_21 : decode Y265.2.1 21 = .ok (.if_icmp .ge 65, 3) := by decide +kernel
theorem d265_24 : decode Y265.2.1 24 = .ok (.aload_n 0, 1) := by decide +kernel
theorem d265_25 : decode Y265.2.1 25 = .ok (.iload 4, 2) := by decide +kernel
theorem d265_27 : decode Y265.2.1 27 = .ok (.invokevirtual 234, 3) := by decide +kernel
theorem d265_30 : decode Y265.2.1 30 = .ok (.ifCond .ne 7, 3) := by decide +kernel
theorem d265_33 : decode Y265.2.1 33 = .ok (.lconst 0, 1) := by decide +kernel
theorem d265_34 : decode Y265.2.1 34 = .ok (.goto 22, 3) := by decide +kernel
theorem d265_37 : decode Y265.2.1 37 = .ok (.ldc2_w 316, 3) := by decide +kernel
theorem d265_40 : decode Y265.2.1 40 = .ok (.aload_n 0, 1) := by decide +kernel
theorem d265_41 : decode Y265.2.1 41 = .ok (.iload 4, 2) := by decide +kernel
theorem d265_43 : decode Y265.2.1 43 = .ok (.invokevirtual 237, 3) := by decide +kernel
theorem d265_46 : decode Y265.2.1 46 = .ok (.i2l, 1) := by decide +kernel
theorem d265_47 : decode Y265.2.1 47 = .ok (.lmul, 1) := by decide +kernel
theorem d265_48 : decode Y265.2.1 48 = .ok (.aload_n 0, 1) := by decide +kernel
theorem d265_49 : decode Y265.2.1 49 = .ok (.iload 4, 2) := by decide +kernel
theorem d265_51 : decode Y265.2.1 51 = .ok (.invokevirtual 234, 3) := by decide +kernel
theorem d265_54 : decode Y265.2.1 54 = .ok (.i2l, 1) := by decide +kernel
theorem d265_55 : decode Y265.2.1 55 = .ok (.ldiv, 1) := by decide +kernel
theorem d265_56 : decode Y265.2.1 56 = .ok (.lstore 5, 2) := by decide +kernel
theorem d265_58 : decode Y265.2.1 58 = .ok (.iload_n 1, 1) := by decide +kernel
theorem d265_59 : decode Y265.2.1 59 = .ok (.bipush (-2), 2) := by decide +kernel
theorem d265_61 : decode Y265.2.1 61 = .ok (.if_icmp .eq 13, 3) := by decide +kernel
theorem d265_64 : decode Y265.2.1 64 = .ok (.lload 5, 2) := by decide +kernel
theorem d265_66 : decode Y265.2.1 66 = .ok (.lload_n 2, 1) := by decide +kernel
theorem d265_67 : decode Y265.2.1 67 = .ok (.lcmp, 1) := by decide +kernel
theorem d265_68 : decode Y265.2.1 68 = .ok (.ifCond .gt 6, 3) := by decide +kernel
theorem d265_71 : decode Y265.2.1 71 = .ok (.goto 9, 3) := by decide +kernel
theorem d265_74 : decode Y265.2.1 74 = .ok (.iload 4, 2) := by decide +kernel
theorem d265_76 : decode Y265.2.1 76 = .ok (.istore_n 1, 1) := by decide +kernel
theorem d265_77 : decode Y265.2.1 77 = .ok (.lload 5, 2) := by decide +kernel
theorem d265_79 : decode Y265.2.1 79 = .ok (.lstore_n 2, 1) := by decide +kernel
theorem d265_80 : decode Y265.2.1 80 = .ok (.iinc 4 1, 3) := by decide +kernel
theorem d265_83 : decode Y265.2.1 83 = .ok (.goto (-70), 3) := by decide +kernel
theorem d265_86 : decode Y265.2.1 86 = .ok (.iload_n 1, 1) := by decide +kernel
theorem d265_87 : decode Y265.2.1 87 = .ok (.bipush (-2), 2) := by decide +kernel
theorem d265_89 : decode Y265.2.1 89 = .ok (.if_icmp .ne 6, 3) := by decide +kernel
theorem d265_92 : decode Y265.2.1 92 = .ok (.bipush (-2), 2) := by decide +kernel
theorem d265_94 : decode Y265.2.1 94 = .ok (.ireturn, 1) := by decide +kernel
theorem d265_95 : decode Y265.2.1 95 = .ok (.aload_n 0, 1) := by decide +kernel
theorem d265_96 : decode Y265.2.1 96 = .ok (.iconst 0, 1) := by decide +kernel
theorem d265_97 : decode Y265.2.1 97 = .ok (.putfield 70, 3) := by decide +kernel
theorem d265_100 : decode Y265.2.1 100 = .ok (.aload_n 0, 1) := by decide +kernel
theorem d265_101 : decode Y265.2.1 101 = .ok (.lload_n 2, 1) := by decide +kernel
theorem d265_102 : decode Y265.2.1 102 = .ok (.invokevirtual 194, 3) := by decide +kernel
theorem d265_105 : decode Y265.2.1 105 = .ok (.iload_n 1, 1) := by decide +kernel
theorem d265_106 : decode Y265.2.1 106 = .ok (.ireturn, 1) := by decide +kernel
noncomputable def L265_13 (d : Nat) (a0 : Nat) (x1 : Int32) (x2 : Int64) (x4 : Int32) (o5 : Option ts_V) (m : lt_m) : Option lt_r := lt_run d Y265 13 [some (.inr (.inr (some a0))), some (.inl x1), some (.inr (.inl x2)), none, some (.inl x4), o5, none] [] m
noncomputable def L265_56 (d : Nat) (a0 : Nat) (x1 : Int32) (x2 : Int64) (x4 : Int32) (o5 : Option ts_V) (xt0 : Int64) (m : lt_m) : Option lt_r := lt_run d Y265 56 [some (.inr (.inr (some a0))), some (.inl x1), some (.inr (.inl x2)), none, some (.inl x4), o5, none] [.inr (.inl xt0)] m
theorem E265 (d : Nat) (a0 : Nat) (h0 : ts_sh a0 = (0, 12)) (m : lt_m) : lt_ev (d + 1) 265 [.inr (.inr (some a0))] m = L265_13 d a0 (-2 : Int32) (0 : Int64) (0 : Int32) none (lm_i m a0 15 (0 : Int32)) := by
  refine Eq.trans (lt_enter2 (ls := [some (.inr (.inr (some a0))), none, none, none, none, none, none]) hY265 (Nat.le_of_ble_eq_true rfl) (by rfl)) ?_
  refine Eq.trans (li_aload_n d265_0 (by rfl)) ?_
  refine Eq.trans (li_iconst d265_1 ic_0) ?_
  refine Eq.trans (li_puti d265_2 fa_12_67 h0 rfl rfl) ?_
  refine Eq.trans (li_bipush d265_5 bi_n2) ?_
  refine Eq.trans (li_istore_n (ls' := [some (.inr (.inr (some a0))), some (.inl (-2 : Int32)), none, none, none, none, none]) d265_7 (by decide) (by rfl)) ?_
  refine Eq.trans (li_lconst (v := 0) d265_8 (by decide)) ?_
  refine Eq.trans (li_lstore_n (ls' := [some (.inr (.inr (some a0))), some (.inl (-2 : Int32)), some (.inr (.inl (0 : Int64))), none, none, none, none]) d265_9 (by decide) (by rfl)) ?_
  refine Eq.trans (li_iconst d265_10 ic_0) ?_
  refine Eq.trans (li_istore (ls' := [some (.inr (.inr (some a0))), some (.inl (-2 : Int32)), some (.inr (.inl (0 : Int64))), none, some (.inl (0 : Int32)), none, none]) d265_11 (by decide) (by rfl)) ?_
  rfl
theorem E265_13 (d : Nat) (a0 : Nat) (x1 : Int32) (x2 : Int64) (x4 : Int32) (o5 : Option ts_V) (h0 : ts_sh a0 = (0, 12)) (m : lt_m) : L265_13 d a0 x1 x2 x4 o5 m = lt_gd (0 ≤ (1 : Int32) ∧ ((1 : Int32)).toNatClampNeg < 626) (if (m.1 (a0 + 1) ((1 : Int32)).toNatClampNeg) ≤ x4 then (if ¬ x1 = (-2 : Int32) then (lt_cV (lt_ev d 202 [.inr (.inr (some a0)), .inr (.inl x2)] (lm_i m a0 14 (0 : Int32))) (fun m1 => (some (some (.inl x1), m1)))) else (some (some (.inl (-2 : Int32)), m))) else (lt_cI (lt_ev d 217 [.inr (.inr (some a0)), .inl x4] m) (fun v1 m2 => (if ¬ v1 = 0 then (lt_cI (lt_ev d 214 [.inr (.inr (some a0)), .inl x4] m2) (fun v2 m3 => (lt_cI (lt_ev d 217 [.inr (.inr (some a0)), .inl x4] m3) (fun v3 m4 => (lt_gd (¬ ((v3).toInt64) = 0) (L265_56 d a0 x1 x2 x4 (o5) (((1000 : Int64) * ((v2).toInt64)) / ((v3).toInt64)) m4)))))) else (L265_56 d a0 x1 x2 x4 (o5) (0 : Int64) m2))))) := by
  show lt_run d Y265 13 [some (.inr (.inr (some a0))), some (.inl x1), some (.inr (.inl x2)), none, some (.inl x4), o5, none] [] m = _
  refine Eq.trans (li_iload d265_13 (by rfl)) ?_
  refine Eq.trans (li_aload_n d265_15 (by rfl)) ?_
  refine Eq.trans (li_getr d265_16 fa_12_7 h0 rfl rfl rfl (by decide)) ?_
  refine Eq.trans (li_iconst d265_19 ic_1) ?_
  refine Eq.trans (li_iald d265_20 (sf_of h0 0 (by decide) (by decide))) ?_
  refine lt_gd_c (fun g1 => ?_)
  refine Eq.trans (li_icmp_ge (t := 86) d265_21 (by rfl)) ?_
  refine lt_ite (fun c1 => ?_) (fun c1 => ?_)
  · refine Eq.trans (li_iload_n d265_86 (by rfl)) ?_
    refine Eq.trans (li_bipush d265_87 bi_n2) ?_
    refine Eq.trans (li_icmp_ne (t := 95) d265_89 (by rfl)) ?_
    refine lt_ite (fun c2 => ?_) (fun c2 => ?_)
    · refine Eq.trans (li_aload_n d265_95 (by rfl)) ?_
      refine Eq.trans (li_iconst d265_96 ic_0) ?_
      refine Eq.trans (li_puti d265_97 fa_12_70 h0 rfl rfl) ?_
      refine Eq.trans (li_aload_n d265_100 (by rfl)) ?_
      refine Eq.trans (li_lload_n d265_101 (by rfl)) ?_
      refine Eq.trans (li_ivV d265_102 ca_12_194 kd_202 kl_202 (by rfl) (by rfl) h0 (Nat.le_of_ble_eq_true rfl) (Nat.le_of_ble_eq_true rfl)) ?_
      refine lt_cV_c (fun m1 => ?_)
      refine Eq.trans (li_iload_n d265_105 (by rfl)) ?_
      exact li_iret d265_106 rfl
    · refine Eq.trans (li_bipush d265_92 bi_n2) ?_
      exact li_iret d265_94 rfl
  · refine Eq.trans (li_aload_n d265_24 (by rfl)) ?_
    refine Eq.trans (li_iload d265_25 (by rfl)) ?_
    refine Eq.trans (li_ivI d265_27 ca_12_234 kd_217 kl_217 (by rfl) (by rfl) h0 (Nat.le_of_ble_eq_true rfl) (Nat.le_of_ble_eq_true rfl)) ?_
    refine lt_cI_c (fun v1 m2 => ?_)
    refine Eq.trans (li_if_ne (t := 37) d265_30 (by rfl)) ?_
    refine lt_ite (fun c3 => ?_) (fun c3 => ?_)
    · refine Eq.trans (li_ldc2_w d265_37 cJ_12_316) ?_
      refine Eq.trans (li_aload_n d265_40 (by rfl)) ?_
      refine Eq.trans (li_iload d265_41 (by rfl)) ?_
      refine Eq.trans (li_ivI d265_43 ca_12_237 kd_214 kl_214 (by rfl) (by rfl) h0 (Nat.le_of_ble_eq_true rfl) (Nat.le_of_ble_eq_true rfl)) ?_
      refine lt_cI_c (fun v2 m3 => ?_)
      refine Eq.trans (li_i2l d265_46) ?_
      refine Eq.trans (li_lmul d265_47) ?_
      refine Eq.trans (li_aload_n d265_48 (by rfl)) ?_
      refine Eq.trans (li_iload d265_49 (by rfl)) ?_
      refine Eq.trans (li_ivI d265_51 ca_12_234 kd_217 kl_217 (by rfl) (by rfl) h0 (Nat.le_of_ble_eq_true rfl) (Nat.le_of_ble_eq_true rfl)) ?_
      refine lt_cI_c (fun v3 m4 => ?_)
      refine Eq.trans (li_i2l d265_54) ?_
      refine Eq.trans (li_ldiv d265_55) ?_
      refine lt_gd_c (fun g2 => ?_)
      rfl
    · refine Eq.trans (li_lconst (v := 0) d265_33 (by decide)) ?_
      refine Eq.trans (li_goto (t := 56) d265_34 (by rfl)) ?_
      rfl
theorem E265_56 (d : Nat) (a0 : Nat) (x1 : Int32) (x2 : Int64) (x4 : Int32) (o5 : Option ts_V) (xt0 : Int64)  (m : lt_m) : L265_56 d a0 x1 x2 x4 o5 xt0 m = if x1 = (-2 : Int32) then (L265_13 d a0 x4 xt0 (x4 + (1 : Int32)) (some (.inr (.inl xt0))) m) else (if 0 < (lg_cmp xt0 x2) then (L265_13 d a0 x4 xt0 (x4 + (1 : Int32)) (some (.inr (.inl xt0))) m) else (L265_13 d a0 x1 x2 (x4 + (1 : Int32)) (some (.inr (.inl xt0))) m)) := by
  show lt_run d Y265 56 [some (.inr (.inr (some a0))), some (.inl x1), some (.inr (.inl x2)), none, some (.inl x4), o5, none] [.inr (.inl xt0)] m = _
  refine Eq.trans (li_lstore (ls' := [some (.inr (.inr (some a0))), some (.inl x1), some (.inr (.inl x2)), none, some (.inl x4), some (.inr (.inl xt0)), none]) d265_56 (by decide) (by rfl)) ?_
  refine Eq.trans (li_iload_n d265_58 (by rfl)) ?_
  refine Eq.trans (li_bipush d265_59 bi_n2) ?_
  refine Eq.trans (li_icmp_eq (t := 74) d265_61 (by rfl)) ?_
  refine lt_ite (fun c1 => ?_) (fun c1 => ?_)
  · refine Eq.trans (li_iload d265_74 (by rfl)) ?_
    refine Eq.trans (li_istore_n (ls' := [some (.inr (.inr (some a0))), some (.inl x4), some (.inr (.inl x2)), none, some (.inl x4), some (.inr (.inl xt0)), none]) d265_76 (by decide) (by rfl)) ?_
    refine Eq.trans (li_lload d265_77 (by rfl)) ?_
    refine Eq.trans (li_lstore_n (ls' := [some (.inr (.inr (some a0))), some (.inl x4), some (.inr (.inl xt0)), none, some (.inl x4), some (.inr (.inl xt0)), none]) d265_79 (by decide) (by rfl)) ?_
    refine Eq.trans (li_iinc (ls' := [some (.inr (.inr (some a0))), some (.inl x4), some (.inr (.inl xt0)), none, some (.inl (x4 + (1 : Int32))), some (.inr (.inl xt0)), none]) d265_80 (by rfl) (by decide) ic_1 (by rfl)) ?_
    refine Eq.trans (li_goto (t := 13) d265_83 (by rfl)) ?_
    rfl
  · refine Eq.trans (li_lload d265_64 (by rfl)) ?_
    refine Eq.trans (li_lload_n d265_66 (by rfl)) ?_
    refine Eq.trans (li_lcmp d265_67) ?_
    refine Eq.trans (li_if_gt (t := 74) d265_68 (by rfl)) ?_
    refine lt_ite (fun c2 => ?_) (fun c2 => ?_)
    · refine Eq.trans (li_iload d265_74 (by rfl)) ?_
      refine Eq.trans (li_istore_n (ls' := [some (.inr (.inr (some a0))), some (.inl x4), some (.inr (.inl x2)), none, some (.inl x4), some (.inr (.inl xt0)), none]) d265_76 (by decide) (by rfl)) ?_
      refine Eq.trans (li_lload d265_77 (by rfl)) ?_
      refine Eq.trans (li_lstore_n (ls' := [some (.inr (.inr (some a0))), some (.inl x4), some (.inr (.inl xt0)), none, some (.inl x4), some (.inr (.inl xt0)), none]) d265_79 (by decide) (by rfl)) ?_
      refine Eq.trans (li_iinc (ls' := [some (.inr (.inr (some a0))), some (.inl x4), some (.inr (.inl xt0)), none, some (.inl (x4 + (1 : Int32))), some (.inr (.inl xt0)), none]) d265_80 (by rfl) (by decide) ic_1 (by rfl)) ?_
      refine Eq.trans (li_goto (t := 13) d265_83 (by rfl)) ?_
      rfl
    · refine Eq.trans (li_goto (t := 80) d265_71 (by rfl)) ?_
      refine Eq.trans (li_iinc (ls' := [some (.inr (.inr (some a0))), some (.inl x1), some (.inr (.inl x2)), none, some (.inl (x4 + (1 : Int32))), some (.inr (.inl xt0)), none]) d265_80 (by rfl) (by decide) ic_1 (by rfl)) ?_
      refine Eq.trans (li_goto (t := 13) d265_83 (by rfl)) ?_
      rfl

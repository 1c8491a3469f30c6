/-! ===== equations of methods ===== -/
/-! TransitSealsModel.way(II)I -/
theorem d200_0 : decode Y200.2.1 0 = .ok (.aload_n 0, 1) := by decide +kernel
theorem d200_1 : decode Y200.2.1 1 = .ok (.iconst 0, 1) := by decide +kernel
theorem d200_2 : decode Y200.2.1 2 = .ok (.putfield 67, 3) := by decide +kernel
theorem d200_5 : decode Y200.2.1 5 = .ok (.aload_n 0, 1) := by decide +kernel
theorem d200_6 : decode Y200.2.1 6 = .ok (.iload_n 1, 1) := by decide +kernel
theorem d200_7 : decode Y200.2.1 7 = .ok (.invokevirtual 174, 3) := by decide +kernel
theorem d200_10 : decode Y200.2.1 10 = .ok (.ifCond .eq 11, 3) := by decide +kernel
theorem d200_13 : decode Y200.2.1 13 = .ok (.aload_n 0, 1) := by decide +kernel
theorem d200_14 : decode Y200.2.1 14 = .ok (.iload_n 2, 1) := by decide +kernel
theorem d200_15 : decode Y200.2.1 15 = .ok (.invokevirtual 174, 3) := by decide +kernel
theorem d200_18 : decode Y200.2.1 18 = .ok (.ifCond .ne 5, 3) := by decide +kernel
theorem d200_21 : decode Y200.2.1 21 = .ok (.iconst (-1), 1) := by decide +kernel
theorem d200_22 : decode Y200.2.1 22 = .ok (.ireturn, 1) := by decide +kernel
theorem d200_23 : decode Y200.2.1 23 = .ok (.aload_n 0, 1) := by decide +kernel
theorem d200_24 : decode Y200.2.1 24 = .ok (.iload_n 2, 1) := by decide +kernel
theorem d200_25 : decode Y200.2.1 25 = .ok (.invokevirtual 191, 3) := by decide +kernel
theorem d200_28 : decode Y200.2.1 28 = .ok (.aload_n 0, 1) := by decide +kernel
theorem d200_29 : decode Y200.2.1 29 = .ok (.getfield 52, 3) := by decide +kernel
theorem d200_32 : decode Y200.2.1 32 = .ok (.iload_n 1, 1) := by decide +kernel
theorem d200_33 : decode Y200.2.1 33 = .ok (.iaload, 1) := by decide +kernel
theorem d200_34 : decode Y200.2.1 34 = .ok (.ldc 185, 2) := by decide +kernel
theorem d200_36 : decode Y200.2.1 36 = .ok (.if_icmp .lt 6, 3) := by decide +kernel
theorem d200_39 : decode Y200.2.1 39 = .ok (.bipush (-2), 2) := by decide +kernel
theorem d200_41 : decode Y200.2.1 41 = .ok (.ireturn, 1) := by decide +kernel
theorem d200_42 : decode Y200.2.1 42 = .ok (.aload_n 0, 1) := by decide +kernel
theorem d200_43 : decode Y200.2.1 43 = .ok (.iconst 0, 1) := by decide +kernel
theorem d200_44 : decode Y200.2.1 44 = .ok (.putfield 70, 3) := by decide +kernel
theorem d200_47 : decode Y200.2.1 47 = .ok (.iload_n 1, 1) := by decide +kernel
theorem d200_48 : decode Y200.2.1 48 = .ok (.istore_n 3, 1) := by decide +kernel
theorem d200_49 : decode Y200.2.1 49 = .ok (.aload_n 0, 1) := by decide +kernel
theorem d200_50 : decode Y200.2.1 50 = .ok (.iload_n 3, 1) := by decide +kernel
theorem d200_51 : decode Y200.2.1 51 = .ok (.i2l, 1) := by decide +kernel
theorem d200_52 : decode Y200.2.1 52 = .ok (.invokevirtual 194, 3) := by decide +kernel
theorem d200_55 : decode Y200.2.1 55 = .ok (.iload_n 3, 1) := by decide +kernel
theorem d200_56 : decode Y200.2.1 56 = .ok (.iload_n 2, 1) := by decide +kernel
theorem d200_57 : decode Y200.2.1 57 = .ok (.if_icmp .eq 58, 3) := by decide +kernel
theorem d200_60 : decode Y200.2.1 60 = .ok (.iconst 0, 1) := by decide +kernel
theorem d200_61 : decode Y200.2.1 61 = .ok (.istore 4, 2) := by decide +kernel
theorem d200_63 : decode Y200.2.1 63 = .ok (.aload_n 0, 1) := by decide +kernel
theorem d200_64 : decode Y200.2.1 64 = .ok (.iload_n 3, 1) := by decide +kernel
theorem d200_65 : decode Y200.2.1 65 = .ok (.iload 4, 2) := by decide +kernel
theorem d200_67 : decode Y200.2.1 67 = .ok (.invokevirtual 167, 3) := by decide +kernel
theorem d200_70 : decode Y200.2.1 70 = .ok (.ifCond .eq 27, 3) := by decide +kernel
theorem d200_73 : decode Y200.2.1 73 = .ok (.aload_n 0, 1) := by decide +kernel
theorem d200_74 : decode Y200.2.1 74 = .ok (.iload_n 3, 1) := by decide +kernel
theorem d200_75 : decode Y200.2.1 75 = .ok (.iload 4, 2) := by decide +kernel
theorem d200_77 : decode Y200.2.1 77 = .ok (.invokevirtual 167, 3) := by decide +kernel
theorem d200_80 : decode Y200.2.1 80 = .ok (.aload_n 0, 1) := by decide +kernel
theorem d200_81 : decode Y200.2.1 81 = .ok (.getfield 52, 3) := by decide +kernel
theorem d200_84 : decode Y200.2.1 84 = .ok (.iload 4, 2) := by decide +kernel
theorem d200_86 : decode Y200.2.1 86 = .ok (.iaload, 1) := by decide +kernel
theorem d200_87 : decode Y200.2.1 87 = .ok (.iadd, 1) := by decide +kernel
theorem d200_88 : decode Y200.2.1 88 = .ok (.aload_n 0, 1) := by decide +kernel
theorem d200_89 : decode Y200.2.1 89 = .ok (.getfield 52, 3) := by decide +kernel
theorem d200_92 : decode Y200.2.1 92 = .ok (.iload_n 3, 1) := by decide +kernel
theorem d200_93 : decode Y200.2.1 93 = .ok (.iaload, 1) := by decide +kernel
theorem d200_94 : decode Y200.2.1 94 = .ok (.if_icmp .eq 9, 3) := by decide +kernel
theorem d200_97 : decode Y200.2.1 97 = .ok (.iinc 4 1, 3) := by decide +kernel
theorem d200_100 : decode Y200.2.1 100 = .ok (.goto (-37), 3) := by decide +kernel
theorem d200_103 : decode Y200.2.1 103 = .ok (.iload 4, 2) := by decide +kernel
theorem d200_105 : decode Y200.2.1 105 = .ok (.istore_n 3, 1) := by decide +kernel
theorem d200_106 : decode Y200.2.1 106 = .ok (.aload_n 0, 1) := by decide +kernel
theorem d200_107 : decode Y200.2.1 107 = .ok (.iload_n 3, 1) := by decide +kernel
theorem d200_108 : decode Y200.2.1 108 = .ok (.i2l, 1) := by decide +kernel
theorem d200_109 : decode Y200.2.1 109 = .ok (.invokevirtual 194, 3) := by decide +kernel
theorem d200_112 : decode Y200.2.1 112 = .ok (.goto (-57), 3) := by decide +kernel
theorem d200_115 : decode Y200.2.1 115 = .ok (.aload_n 0, 1) := by decide +kernel
theorem d200_116 : decode Y200.2.1 116 = .ok (.getfield 52, 3) := by decide +kernel
theorem d200_119 : decode Y200.2.1 119 = .ok (.iload_n 1, 1) := by decide +kernel
theorem d200_120 : decode Y200.2.1 120 = .ok (.iaload, 1) := by decide +kernel
theorem d200_121 : decode Y200.2.1 121 = .ok (.ireturn, 1) := by decide +kernel
noncomputable def L200_55 (d : Nat) (a0 : Nat) (x1 : Int32) (x2 : Int32) (x3 : Int32) (o4 : Option ts_V) (m : lt_m) : Option lt_r := lt_run d Y200 55 [some (.inr (.inr (some a0))), some (.inl x1), some (.inl x2), some (.inl x3), o4] [] m
noncomputable def L200_63 (d : Nat) (a0 : Nat) (x1 : Int32) (x2 : Int32) (x3 : Int32) (x4 : Int32) (m : lt_m) : Option lt_r := lt_run d Y200 63 [some (.inr (.inr (some a0))), some (.inl x1), some (.inl x2), some (.inl x3), some (.inl x4)] [] m
theorem E200 (d : Nat) (a0 : Nat) (x1 : Int32) (x2 : Int32) (h0 : ts_sh a0 = (0, 12)) (m : lt_m) : lt_ev (d + 1) 200 [.inr (.inr (some a0)), .inl x1, .inl x2] m = lt_cI (lt_ev d 193 [.inr (.inr (some a0)), .inl x1] (lm_i m a0 15 (0 : Int32))) (fun v1 m1 => (if v1 = 0 then (some (some (.inl (-1 : Int32)), m1)) else (lt_cI (lt_ev d 193 [.inr (.inr (some a0)), .inl x2] m1) (fun v2 m2 => (if ¬ v2 = 0 then (lt_cV (lt_ev d 201 [.inr (.inr (some a0)), .inl x2] m2) (fun m3 => (lt_gd (0 ≤ x1 ∧ (x1).toNatClampNeg < 12) (if (m3.1 (a0 + 13) (x1).toNatClampNeg) < (1000000000 : Int32) then (lt_cV (lt_ev d 202 [.inr (.inr (some a0)), .inr (.inl ((x1).toInt64))] (lm_i m3 a0 14 (0 : Int32))) (fun m4 => (L200_55 d a0 x1 x2 x1 none m4))) else (some (some (.inl (-2 : Int32)), m3)))))) else (some (some (.inl (-1 : Int32)), m2))))))) := by
  refine Eq.trans (lt_enter2 (ls := [some (.inr (.inr (some a0))), some (.inl x1), some (.inl x2), none, none]) hY200 (Nat.le_of_ble_eq_true rfl) (by rfl)) ?_
  refine Eq.trans (li_aload_n d200_0 (by rfl)) ?_
  refine Eq.trans (li_iconst d200_1 ic_0) ?_
  refine Eq.trans (li_puti d200_2 fa_12_67 h0 rfl rfl) ?_
  refine Eq.trans (li_aload_n d200_5 (by rfl)) ?_
  refine Eq.trans (li_iload_n d200_6 (by rfl)) ?_
  refine Eq.trans (li_ivI d200_7 ca_12_174 kd_193 kl_193 (by rfl) (by rfl) h0 (Nat.le_of_ble_eq_true rfl) (Nat.le_of_ble_eq_true rfl)) ?_
  refine lt_cI_c (fun v1 m1 => ?_)
  refine Eq.trans (li_if_eq (t := 21) d200_10 (by rfl)) ?_
  refine lt_ite (fun c1 => ?_) (fun c1 => ?_)
  · refine Eq.trans (li_iconst d200_21 ic_n1) ?_
    exact li_iret d200_22 rfl
  · refine Eq.trans (li_aload_n d200_13 (by rfl)) ?_
    refine Eq.trans (li_iload_n d200_14 (by rfl)) ?_
    refine Eq.trans (li_ivI d200_15 ca_12_174 kd_193 kl_193 (by rfl) (by rfl) h0 (Nat.le_of_ble_eq_true rfl) (Nat.le_of_ble_eq_true rfl)) ?_
    refine lt_cI_c (fun v2 m2 => ?_)
    refine Eq.trans (li_if_ne (t := 23) d200_18 (by rfl)) ?_
    refine lt_ite (fun c2 => ?_) (fun c2 => ?_)
    · refine Eq.trans (li_aload_n d200_23 (by rfl)) ?_
      refine Eq.trans (li_iload_n d200_24 (by rfl)) ?_
      refine Eq.trans (li_ivV d200_25 ca_12_191 kd_201 kl_201 (by rfl) (by rfl) h0 (Nat.le_of_ble_eq_true rfl) (Nat.le_of_ble_eq_true rfl)) ?_
      refine lt_cV_c (fun m3 => ?_)
      refine Eq.trans (li_aload_n d200_28 (by rfl)) ?_
      refine Eq.trans (li_getr d200_29 fa_12_52 h0 rfl rfl rfl (by decide)) ?_
      refine Eq.trans (li_iload_n d200_32 (by rfl)) ?_
      refine Eq.trans (li_iald d200_33 (sf_of h0 28 (by decide) (by decide))) ?_
      refine lt_gd_c (fun g1 => ?_)
      refine Eq.trans (li_ldc d200_34 cI_12_185) ?_
      refine Eq.trans (li_icmp_lt (t := 42) d200_36 (by rfl)) ?_
      refine lt_ite (fun c3 => ?_) (fun c3 => ?_)
      · refine Eq.trans (li_aload_n d200_42 (by rfl)) ?_
        refine Eq.trans (li_iconst d200_43 ic_0) ?_
        refine Eq.trans (li_puti d200_44 fa_12_70 h0 rfl rfl) ?_
        refine Eq.trans (li_iload_n d200_47 (by rfl)) ?_
        refine Eq.trans (li_istore_n (ls' := [some (.inr (.inr (some a0))), some (.inl x1), some (.inl x2), some (.inl x1), none]) d200_48 (by decide) (by rfl)) ?_
        refine Eq.trans (li_aload_n d200_49 (by rfl)) ?_
        refine Eq.trans (li_iload_n d200_50 (by rfl)) ?_
        refine Eq.trans (li_i2l d200_51) ?_
        refine Eq.trans (li_ivV d200_52 ca_12_194 kd_202 kl_202 (by rfl) (by rfl) h0 (Nat.le_of_ble_eq_true rfl) (Nat.le_of_ble_eq_true rfl)) ?_
        refine lt_cV_c (fun m4 => ?_)
        rfl
      · refine Eq.trans (li_bipush d200_39 bi_n2) ?_
        exact li_iret d200_41 rfl
    · refine Eq.trans (li_iconst d200_21 ic_n1) ?_
      exact li_iret d200_22 rfl
theorem E200_55 (d : Nat) (a0 : Nat) (x1 : Int32) (x2 : Int32) (x3 : Int32) (o4 : Option ts_V) (h0 : ts_sh a0 = (0, 12)) (m : lt_m) : L200_55 d a0 x1 x2 x3 o4 m = if x3 = x2 then (lt_gd (0 ≤ x1 ∧ (x1).toNatClampNeg < 12) (some (some (.inl (m.1 (a0 + 13) (x1).toNatClampNeg)), m))) else (L200_63 d a0 x1 x2 x3 (0 : Int32) m) := by
  show lt_run d Y200 55 [some (.inr (.inr (some a0))), some (.inl x1), some (.inl x2), some (.inl x3), o4] [] m = _
  refine Eq.trans (li_iload_n d200_55 (by rfl)) ?_
  refine Eq.trans (li_iload_n d200_56 (by rfl)) ?_
  refine Eq.trans (li_icmp_eq (t := 115) d200_57 (by rfl)) ?_
  refine lt_ite (fun c1 => ?_) (fun c1 => ?_)
  · refine Eq.trans (li_aload_n d200_115 (by rfl)) ?_
    refine Eq.trans (li_getr d200_116 fa_12_52 h0 rfl rfl rfl (by decide)) ?_
    refine Eq.trans (li_iload_n d200_119 (by rfl)) ?_
    refine Eq.trans (li_iald d200_120 (sf_of h0 28 (by decide) (by decide))) ?_
    refine lt_gd_c (fun g1 => ?_)
    exact li_iret d200_121 rfl
  · refine Eq.trans (li_iconst d200_60 ic_0) ?_
    refine Eq.trans (li_istore (ls' := [some (.inr (.inr (some a0))), some (.inl x1), some (.inl x2), some (.inl x3), some (.inl (0 : Int32))]) d200_61 (by decide) (by rfl)) ?_
    rfl
theorem E200_63 (d : Nat) (a0 : Nat) (x1 : Int32) (x2 : Int32) (x3 : Int32) (x4 : Int32) (h0 : ts_sh a0 = (0, 12)) (m : lt_m) : L200_63 d a0 x1 x2 x3 x4 m = lt_cI (lt_ev d 194 [.inr (.inr (some a0)), .inl x3, .inl x4] m) (fun v1 m1 => (if v1 = 0 then (L200_63 d a0 x1 x2 x3 (x4 + (1 : Int32)) m1) else (lt_cI (lt_ev d 194 [.inr (.inr (some a0)), .inl x3, .inl x4] m1) (fun v2 m2 => (lt_gd (0 ≤ x4 ∧ (x4).toNatClampNeg < 12) (lt_gd (0 ≤ x3 ∧ (x3).toNatClampNeg < 12) (if (v2 + (m2.1 (a0 + 13) (x4).toNatClampNeg)) = (m2.1 (a0 + 13) (x3).toNatClampNeg) then (lt_cV (lt_ev d 202 [.inr (.inr (some a0)), .inr (.inl ((x4).toInt64))] m2) (fun m3 => (L200_55 d a0 x1 x2 x4 (some (.inl x4)) m3))) else (L200_63 d a0 x1 x2 x3 (x4 + (1 : Int32)) m2)))))))) := by
  show lt_run d Y200 63 [some (.inr (.inr (some a0))), some (.inl x1), some (.inl x2), some (.inl x3), some (.inl x4)] [] m = _
  refine Eq.trans (li_aload_n d200_63 (by rfl)) ?_
  refine Eq.trans (li_iload_n d200_64 (by rfl)) ?_
  refine Eq.trans (li_iload d200_65 (by rfl)) ?_
  refine Eq.trans (li_ivI d200_67 ca_12_167 kd_194 kl_194 (by rfl) (by rfl) h0 (Nat.le_of_ble_eq_true rfl) (Nat.le_of_ble_eq_true rfl)) ?_
  refine lt_cI_c (fun v1 m1 => ?_)
  refine Eq.trans (li_if_eq (t := 97) d200_70 (by rfl)) ?_
  refine lt_ite (fun c1 => ?_) (fun c1 => ?_)
  · refine Eq.trans (li_iinc (ls' := [some (.inr (.inr (some a0))), some (.inl x1), some (.inl x2), some (.inl x3), some (.inl (x4 + (1 : Int32)))]) d200_97 (by rfl) (by decide) ic_1 (by rfl)) ?_
    refine Eq.trans (li_goto (t := 63) d200_100 (by rfl)) ?_
    rfl
  · refine Eq.trans (li_aload_n d200_73 (by rfl)) ?_
    refine Eq.trans (li_iload_n d200_74 (by rfl)) ?_
    refine Eq.trans (li_iload d200_75 (by rfl)) ?_
    refine Eq.trans (li_ivI d200_77 ca_12_167 kd_194 kl_194 (by rfl) (by rfl) h0 (Nat.le_of_ble_eq_true rfl) (Nat.le_of_ble_eq_true rfl)) ?_
    refine lt_cI_c (fun v2 m2 => ?_)
    refine Eq.trans (li_aload_n d200_80 (by rfl)) ?_
    refine Eq.trans (li_getr d200_81 fa_12_52 h0 rfl rfl rfl (by decide)) ?_
    refine Eq.trans (li_iload d200_84 (by rfl)) ?_
    refine Eq.trans (li_iald d200_86 (sf_of h0 28 (by decide) (by decide))) ?_
    refine lt_gd_c (fun g1 => ?_)
    refine Eq.trans (li_iadd d200_87) ?_
    refine Eq.trans (li_aload_n d200_88 (by rfl)) ?_
    refine Eq.trans (li_getr d200_89 fa_12_52 h0 rfl rfl rfl (by decide)) ?_
    refine Eq.trans (li_iload_n d200_92 (by rfl)) ?_
    refine Eq.trans (li_iald d200_93 (sf_of h0 28 (by decide) (by decide))) ?_
    refine lt_gd_c (fun g2 => ?_)
    refine Eq.trans (li_icmp_eq (t := 103) d200_94 (by rfl)) ?_
    refine lt_ite (fun c2 => ?_) (fun c2 => ?_)
    · refine Eq.trans (li_iload d200_103 (by rfl)) ?_
      refine Eq.trans (li_istore_n (ls' := [some (.inr (.inr (some a0))), some (.inl x1), some (.inl x2), some (.inl x4), some (.inl x4)]) d200_105 (by decide) (by rfl)) ?_
      refine Eq.trans (li_aload_n d200_106 (by rfl)) ?_
      refine Eq.trans (li_iload_n d200_107 (by rfl)) ?_
      refine Eq.trans (li_i2l d200_108) ?_
      refine Eq.trans (li_ivV d200_109 ca_12_194 kd_202 kl_202 (by rfl) (by rfl) h0 (Nat.le_of_ble_eq_true rfl) (Nat.le_of_ble_eq_true rfl)) ?_
      refine lt_cV_c (fun m3 => ?_)
      refine Eq.trans (li_goto (t := 55) d200_112 (by rfl)) ?_
      rfl
    · refine Eq.trans (li_iinc (ls' := [some (.inr (.inr (some a0))), some (.inl x1), some (.inl x2), some (.inl x3), some (.inl (x4 + (1 : Int32)))]) d200_97 (by rfl) (by decide) ic_1 (by rfl)) ?_
      refine Eq.trans (li_goto (t := 63) d200_100 (by rfl)) ?_
      rfl
/-! TransitSealsModel.goesTo(I)V -/
theorem d201_0 : decode Y201.2.1 0 = .ok (.iconst 0, 1) := by decide +kernel
theorem d201_1 : decode Y201.2.1 1 = .ok (.istore_n 2, 1) := by decide +kernel
theorem d201_2 : decode Y201.2.1 2 = .ok (.iload_n 2, 1) := by decide +kernel
theorem d201_3 : decode Y201.2.1 3 = .ok (.aload_n 0, 1) := by decide +kernel
theorem d201_4 : decode Y201.2.1 4 = .ok (.getfield 28, 3) := by decide +kernel
theorem d201_7 : decode Y201.2.1 7 = .ok (.if_icmp .ge 26, 3) := by decide +kernel
theorem d201_10 : decode Y201.2.1 10 = .ok (.aload_n 0, 1) := by decide +kernel
theorem d201_11 : decode Y201.2.1 11 = .ok (.getfield 52, 3) := by decide +kernel
theorem d201_14 : decode Y201.2.1 14 = .ok (.iload_n 2, 1) := by decide +kernel
theorem d201_15 : decode Y201.2.1 15 = .ok (.iload_n 2, 1) := by decide +kernel
theorem d201_16 : decode Y201.2.1 16 = .ok (.iload_n 1, 1) := by decide +kernel
theorem d201_17 : decode Y201.2.1 17 = .ok (.if_icmp .ne 7, 3) := by decide +kernel
theorem d201_20 : decode Y201.2.1 20 = .ok (.iconst 0, 1) := by decide +kernel
theorem d201_21 : decode Y201.2.1 21 = .ok (.goto 5, 3) := by decide +kernel
theorem d201_24 : decode Y201.2.1 24 = .ok (.ldc 185, 2) := by decide +kernel
theorem d201_26 : decode Y201.2.1 26 = .ok (.iastore, 1) := by decide +kernel
theorem d201_27 : decode Y201.2.1 27 = .ok (.iinc 2 1, 3) := by decide +kernel
theorem d201_30 : decode Y201.2.1 30 = .ok (.goto (-28), 3) := by decide +kernel
theorem d201_33 : decode Y201.2.1 33 = .ok (.iconst 0, 1) := by decide +kernel
theorem d201_34 : decode Y201.2.1 34 = .ok (.istore_n 2, 1) := by decide +kernel
theorem d201_35 : decode Y201.2.1 35 = .ok (.iload_n 2, 1) := by decide +kernel
theorem d201_36 : decode Y201.2.1 36 = .ok (.aload_n 0, 1) := by decide +kernel
theorem d201_37 : decode Y201.2.1 37 = .ok (.getfield 28, 3) := by decide +kernel
theorem d201_40 : decode Y201.2.1 40 = .ok (.if_icmp .ge 83, 3) := by decide +kernel
theorem d201_43 : decode Y201.2.1 43 = .ok (.iconst 0, 1) := by decide +kernel
theorem d201_44 : decode Y201.2.1 44 = .ok (.istore_n 3, 1) := by decide +kernel
theorem d201_45 : decode Y201.2.1 45 = .ok (.iload_n 3, 1) := by decide +kernel
theorem d201_46 : decode Y201.2.1 46 = .ok (.aload_n 0, 1) := by decide +kernel
theorem d201_47 : decode Y201.2.1 47 = .ok (.getfield 28, 3) := by decide +kernel
theorem d201_50 : decode Y201.2.1 50 = .ok (.if_icmp .ge 67, 3) := by decide +kernel
theorem d201_53 : decode Y201.2.1 53 = .ok (.iconst 0, 1) := by decide +kernel
theorem d201_54 : decode Y201.2.1 54 = .ok (.istore 4, 2) := by decide +kernel
theorem d201_56 : decode Y201.2.1 56 = .ok (.iload 4, 2) := by decide +kernel
theorem d201_58 : decode Y201.2.1 58 = .ok (.aload_n 0, 1) := by decide +kernel
theorem d201_59 : decode Y201.2.1 59 = .ok (.getfield 28, 3) := by decide +kernel
theorem d201_62 : decode Y201.2.1 62 = .ok (.if_icmp .ge 49, 3) := by decide +kernel
theorem d201_65 : decode Y201.2.1 65 = .ok (.aload_n 0, 1) := by decide +kernel
theorem d201_66 : decode Y201.2.1 66 = .ok (.iload_n 3, 1) := by decide +kernel
theorem d201_67 : decode Y201.2.1 67 = .ok (.iload 4, 2) := by decide +kernel
theorem d201_69 : decode Y201.2.1 69 = .ok (.invokevirtual 167, 3) := by decide +kernel
theorem d201_72 : decode Y201.2.1 72 = .ok (.ifCond .le 33, 3) := by decide +kernel
theorem d201_75 : decode Y201.2.1 75 = .ok (.aload_n 0, 1) := by decide +kernel
theorem d201_76 : decode Y201.2.1 76 = .ok (.getfield 52, 3) := by decide +kernel
theorem d201_79 : decode Y201.2.1 79 = .ok (.iload_n 3, 1) := by decide +kernel
theorem d201_80 : decode Y201.2.1 80 = .ok (.aload_n 0, 1) := by decide +kernel
theorem d201_81 : decode Y201.2.1 81 = .ok (.getfield 52, 3) := by decide +kernel
theorem d201_84 : decode Y201.2.1 84 = .ok (.iload_n 3, 1) := by decide +kernel
theorem d201_85 : decode Y201.2.1 85 = .ok (.iaload, 1) := by decide +kernel
theorem d201_86 : decode Y201.2.1 86 = .ok (.aload_n 0, 1) := by decide +kernel
theorem d201_87 : decode Y201.2.1 87 = .ok (.iload_n 3, 1) := by decide +kernel
theorem d201_88 : decode Y201.2.1 88 = .ok (.iload 4, 2) := by decide +kernel
theorem d201_90 : decode Y201.2.1 90 = .ok (.invokevirtual 167, 3) := by decide +kernel
theorem d201_93 : decode Y201.2.1 93 = .ok (.aload_n 0, 1) := by decide +kernel
theorem d201_94 : decode Y201.2.1 94 = .ok (.getfield 52, 3) := by decide +kernel
theorem d201_97 : decode Y201.2.1 97 = .ok (.iload 4, 2) := by decide +kernel
theorem d201_99 : decode Y201.2.1 99 = .ok (.iaload, 1) := by decide +kernel
theorem d201_100 : decode Y201.2.1 100 = .ok (.iadd, 1) := by decide +kernel
theorem d201_101 : decode Y201.2.1 101 = .ok (.invokestatic 186, 3) := by decide +kernel
theorem d201_104 : decode Y201.2.1 104 = .ok (.iastore, 1) := by decide +kernel
theorem d201_105 : decode Y201.2.1 105 = .ok (.iinc 4 1, 3) := by decide +kernel
theorem d201_108 : decode Y201.2.1 108 = .ok (.goto (-52), 3) := by decide +kernel
theorem d201_111 : decode Y201.2.1 111 = .ok (.iinc 3 1, 3) := by decide +kernel
theorem d201_114 : decode Y201.2.1 114 = .ok (.goto (-69), 3) := by decide +kernel
theorem d201_117 : decode Y201.2.1 117 = .ok (.iinc 2 1, 3) := by decide +kernel
theorem d201_120 : decode Y201.2.1 120 = .ok (.goto (-85), 3) := by decide +kernel
theorem d201_123 : decode Y201.2.1 123 = .ok (.return_, 1) := by decide +kernel
noncomputable def L201_2 (d : Nat) (a0 : Nat) (x1 : Int32) (x2 : Int32) (m : lt_m) : Option lt_r := lt_run d Y201 2 [some (.inr (.inr (some a0))), some (.inl x1), some (.inl x2), none, none] [] m
noncomputable def L201_35 (d : Nat) (a0 : Nat) (x1 : Int32) (x2 : Int32) (o3 : Option ts_V) (o4 : Option ts_V) (m : lt_m) : Option lt_r := lt_run d Y201 35 [some (.inr (.inr (some a0))), some (.inl x1), some (.inl x2), o3, o4] [] m
noncomputable def L201_45 (d : Nat) (a0 : Nat) (x1 : Int32) (x2 : Int32) (x3 : Int32) (o4 : Option ts_V) (m : lt_m) : Option lt_r := lt_run d Y201 45 [some (.inr (.inr (some a0))), some (.inl x1), some (.inl x2), some (.inl x3), o4] [] m
noncomputable def L201_56 (d : Nat) (a0 : Nat) (x1 : Int32) (x2 : Int32) (x3 : Int32) (x4 : Int32) (m : lt_m) : Option lt_r := lt_run d Y201 56 [some (.inr (.inr (some a0))), some (.inl x1), some (.inl x2), some (.inl x3), some (.inl x4)] [] m
theorem E201 (d : Nat) (a0 : Nat) (x1 : Int32) (h0 : ts_sh a0 = (0, 12)) (m : lt_m) : lt_ev (d + 1) 201 [.inr (.inr (some a0)), .inl x1] m = L201_2 d a0 x1 (0 : Int32) m := by
  refine Eq.trans (lt_enter2 (ls := [some (.inr (.inr (some a0))), some (.inl x1), none, none, none]) hY201 (Nat.le_of_ble_eq_true rfl) (by rfl)) ?_
  refine Eq.trans (li_iconst d201_0 ic_0) ?_
  refine Eq.trans (li_istore_n (ls' := [some (.inr (.inr (some a0))), some (.inl x1), some (.inl (0 : Int32)), none, none]) d201_1 (by decide) (by rfl)) ?_
  rfl
theorem E201_2 (d : Nat) (a0 : Nat) (x1 : Int32) (x2 : Int32) (h0 : ts_sh a0 = (0, 12)) (m : lt_m) : L201_2 d a0 x1 x2 m = if (m.1 a0 8) ≤ x2 then (L201_35 d a0 x1 (0 : Int32) none none m) else (if ¬ x2 = x1 then (lt_gd (0 ≤ x2 ∧ (x2).toNatClampNeg < 12) (L201_2 d a0 x1 (x2 + (1 : Int32)) (lm_i m (a0 + 13) (x2).toNatClampNeg (1000000000 : Int32)))) else (lt_gd (0 ≤ x2 ∧ (x2).toNatClampNeg < 12) (L201_2 d a0 x1 (x2 + (1 : Int32)) (lm_i m (a0 + 13) (x2).toNatClampNeg (0 : Int32))))) := by
  show lt_run d Y201 2 [some (.inr (.inr (some a0))), some (.inl x1), some (.inl x2), none, none] [] m = _
  refine Eq.trans (li_iload_n d201_2 (by rfl)) ?_
  refine Eq.trans (li_aload_n d201_3 (by rfl)) ?_
  refine Eq.trans (li_geti d201_4 fa_12_28 h0 rfl) ?_
  refine Eq.trans (li_icmp_ge (t := 33) d201_7 (by rfl)) ?_
  refine lt_ite (fun c1 => ?_) (fun c1 => ?_)
  · refine Eq.trans (li_iconst d201_33 ic_0) ?_
    refine Eq.trans (li_istore_n (ls' := [some (.inr (.inr (some a0))), some (.inl x1), some (.inl (0 : Int32)), none, none]) d201_34 (by decide) (by rfl)) ?_
    rfl
  · refine Eq.trans (li_aload_n d201_10 (by rfl)) ?_
    refine Eq.trans (li_getr d201_11 fa_12_52 h0 rfl rfl rfl (by decide)) ?_
    refine Eq.trans (li_iload_n d201_14 (by rfl)) ?_
    refine Eq.trans (li_iload_n d201_15 (by rfl)) ?_
    refine Eq.trans (li_iload_n d201_16 (by rfl)) ?_
    refine Eq.trans (li_icmp_ne (t := 24) d201_17 (by rfl)) ?_
    refine lt_ite (fun c2 => ?_) (fun c2 => ?_)
    · refine Eq.trans (li_ldc d201_24 cI_12_185) ?_
      refine Eq.trans (li_iast d201_26 (sf_of h0 28 (by decide) (by decide))) ?_
      refine lt_gd_c (fun g1 => ?_)
      refine Eq.trans (li_iinc (ls' := [some (.inr (.inr (some a0))), some (.inl x1), some (.inl (x2 + (1 : Int32))), none, none]) d201_27 (by rfl) (by decide) ic_1 (by rfl)) ?_
      refine Eq.trans (li_goto (t := 2) d201_30 (by rfl)) ?_
      rfl
    · refine Eq.trans (li_iconst d201_20 ic_0) ?_
      refine Eq.trans (li_goto (t := 26) d201_21 (by rfl)) ?_
      refine Eq.trans (li_iast d201_26 (sf_of h0 28 (by decide) (by decide))) ?_
      refine lt_gd_c (fun g2 => ?_)
      refine Eq.trans (li_iinc (ls' := [some (.inr (.inr (some a0))), some (.inl x1), some (.inl (x2 + (1 : Int32))), none, none]) d201_27 (by rfl) (by decide) ic_1 (by rfl)) ?_
      refine Eq.trans (li_goto (t := 2) d201_30 (by rfl)) ?_
      rfl
theorem E201_35 (d : Nat) (a0 : Nat) (x1 : Int32) (x2 : Int32) (o3 : Option ts_V) (o4 : Option ts_V) (h0 : ts_sh a0 = (0, 12)) (m : lt_m) : L201_35 d a0 x1 x2 o3 o4 m = if (m.1 a0 8) ≤ x2 then (some (none, m)) else (L201_45 d a0 x1 x2 (0 : Int32) (o4) m) := by
  show lt_run d Y201 35 [some (.inr (.inr (some a0))), some (.inl x1), some (.inl x2), o3, o4] [] m = _
  refine Eq.trans (li_iload_n d201_35 (by rfl)) ?_
  refine Eq.trans (li_aload_n d201_36 (by rfl)) ?_
  refine Eq.trans (li_geti d201_37 fa_12_28 h0 rfl) ?_
  refine Eq.trans (li_icmp_ge (t := 123) d201_40 (by rfl)) ?_
  refine lt_ite (fun c1 => ?_) (fun c1 => ?_)
  · exact li_vret d201_123 rfl
  · refine Eq.trans (li_iconst d201_43 ic_0) ?_
    refine Eq.trans (li_istore_n (ls' := [some (.inr (.inr (some a0))), some (.inl x1), some (.inl x2), some (.inl (0 : Int32)), o4]) d201_44 (by decide) (by rfl)) ?_
    rfl
theorem E201_45 (d : Nat) (a0 : Nat) (x1 : Int32) (x2 : Int32) (x3 : Int32) (o4 : Option ts_V) (h0 : ts_sh a0 = (0, 12)) (m : lt_m) : L201_45 d a0 x1 x2 x3 o4 m = if (m.1 a0 8) ≤ x3 then (L201_35 d a0 x1 (x2 + (1 : Int32)) (some (.inl x3)) (o4) m) else (L201_56 d a0 x1 x2 x3 (0 : Int32) m) := by
  show lt_run d Y201 45 [some (.inr (.inr (some a0))), some (.inl x1), some (.inl x2), some (.inl x3), o4] [] m = _
  refine Eq.trans (li_iload_n d201_45 (by rfl)) ?_
  refine Eq.trans (li_aload_n d201_46 (by rfl)) ?_
  refine Eq.trans (li_geti d201_47 fa_12_28 h0 rfl) ?_
  refine Eq.trans (li_icmp_ge (t := 117) d201_50 (by rfl)) ?_
  refine lt_ite (fun c1 => ?_) (fun c1 => ?_)
  · refine Eq.trans (li_iinc (ls' := [some (.inr (.inr (some a0))), some (.inl x1), some (.inl (x2 + (1 : Int32))), some (.inl x3), o4]) d201_117 (by rfl) (by decide) ic_1 (by rfl)) ?_
    refine Eq.trans (li_goto (t := 35) d201_120 (by rfl)) ?_
    rfl
  · refine Eq.trans (li_iconst d201_53 ic_0) ?_
    refine Eq.trans (li_istore (ls' := [some (.inr (.inr (some a0))), some (.inl x1), some (.inl x2), some (.inl x3), some (.inl (0 : Int32))]) d201_54 (by decide) (by rfl)) ?_
    rfl
theorem E201_56 (d : Nat) (a0 : Nat) (x1 : Int32) (x2 : Int32) (x3 : Int32) (x4 : Int32) (h0 : ts_sh a0 = (0, 12)) (m : lt_m) : L201_56 d a0 x1 x2 x3 x4 m = if (m.1 a0 8) ≤ x4 then (L201_45 d a0 x1 x2 (x3 + (1 : Int32)) (some (.inl x4)) m) else (lt_cI (lt_ev d 194 [.inr (.inr (some a0)), .inl x3, .inl x4] m) (fun v1 m1 => (if v1 ≤ 0 then (L201_56 d a0 x1 x2 x3 (x4 + (1 : Int32)) m1) else (lt_gd (0 ≤ x3 ∧ (x3).toNatClampNeg < 12) (lt_cI (lt_ev d 194 [.inr (.inr (some a0)), .inl x3, .inl x4] m1) (fun v2 m2 => (lt_gd (0 ≤ x4 ∧ (x4).toNatClampNeg < 12) (lt_gd (0 ≤ x3 ∧ (x3).toNatClampNeg < 12) (L201_56 d a0 x1 x2 x3 (x4 + (1 : Int32)) (lm_i m2 (a0 + 13) (x3).toNatClampNeg (lm_min (m1.1 (a0 + 13) (x3).toNatClampNeg) (v2 + (m2.1 (a0 + 13) (x4).toNatClampNeg))))))))))))) := by
  show lt_run d Y201 56 [some (.inr (.inr (some a0))), some (.inl x1), some (.inl x2), some (.inl x3), some (.inl x4)] [] m = _
  refine Eq.trans (li_iload d201_56 (by rfl)) ?_
  refine Eq.trans (li_aload_n d201_58 (by rfl)) ?_
  refine Eq.trans (li_geti d201_59 fa_12_28 h0 rfl) ?_
  refine Eq.trans (li_icmp_ge (t := 111) d201_62 (by rfl)) ?_
  refine lt_ite (fun c1 => ?_) (fun c1 => ?_)
  · refine Eq.trans (li_iinc (ls' := [some (.inr (.inr (some a0))), some (.inl x1), some (.inl x2), some (.inl (x3 + (1 : Int32))), some (.inl x4)]) d201_111 (by rfl) (by decide) ic_1 (by rfl)) ?_
    refine Eq.trans (li_goto (t := 45) d201_114 (by rfl)) ?_
    rfl
  · refine Eq.trans (li_aload_n d201_65 (by rfl)) ?_
    refine Eq.trans (li_iload_n d201_66 (by rfl)) ?_
    refine Eq.trans (li_iload d201_67 (by rfl)) ?_
    refine Eq.trans (li_ivI d201_69 ca_12_167 kd_194 kl_194 (by rfl) (by rfl) h0 (Nat.le_of_ble_eq_true rfl) (Nat.le_of_ble_eq_true rfl)) ?_
    refine lt_cI_c (fun v1 m1 => ?_)
    refine Eq.trans (li_if_le (t := 105) d201_72 (by rfl)) ?_
    refine lt_ite (fun c2 => ?_) (fun c2 => ?_)
    · refine Eq.trans (li_iinc (ls' := [some (.inr (.inr (some a0))), some (.inl x1), some (.inl x2), some (.inl x3), some (.inl (x4 + (1 : Int32)))]) d201_105 (by rfl) (by decide) ic_1 (by rfl)) ?_
      refine Eq.trans (li_goto (t := 56) d201_108 (by rfl)) ?_
      rfl
    · refine Eq.trans (li_aload_n d201_75 (by rfl)) ?_
      refine Eq.trans (li_getr d201_76 fa_12_52 h0 rfl rfl rfl (by decide)) ?_
      refine Eq.trans (li_iload_n d201_79 (by rfl)) ?_
      refine Eq.trans (li_aload_n d201_80 (by rfl)) ?_
      refine Eq.trans (li_getr d201_81 fa_12_52 h0 rfl rfl rfl (by decide)) ?_
      refine Eq.trans (li_iload_n d201_84 (by rfl)) ?_
      refine Eq.trans (li_iald d201_85 (sf_of h0 28 (by decide) (by decide))) ?_
      refine lt_gd_c (fun g1 => ?_)
      refine Eq.trans (li_aload_n d201_86 (by rfl)) ?_
      refine Eq.trans (li_iload_n d201_87 (by rfl)) ?_
      refine Eq.trans (li_iload d201_88 (by rfl)) ?_
      refine Eq.trans (li_ivI d201_90 ca_12_167 kd_194 kl_194 (by rfl) (by rfl) h0 (Nat.le_of_ble_eq_true rfl) (Nat.le_of_ble_eq_true rfl)) ?_
      refine lt_cI_c (fun v2 m2 => ?_)
      refine Eq.trans (li_aload_n d201_93 (by rfl)) ?_
      refine Eq.trans (li_getr d201_94 fa_12_52 h0 rfl rfl rfl (by decide)) ?_
      refine Eq.trans (li_iload d201_97 (by rfl)) ?_
      refine Eq.trans (li_iald d201_99 (sf_of h0 28 (by decide) (by decide))) ?_
      refine lt_gd_c (fun g2 => ?_)
      refine Eq.trans (li_iadd d201_100) ?_
      refine Eq.trans (li_min d201_101 bi_12_186 (Nat.le_of_ble_eq_true rfl)) ?_
      refine Eq.trans (li_iast d201_104 (sf_of h0 28 (by decide) (by decide))) ?_
      refine lt_gd_c (fun g3 => ?_)
      refine Eq.trans (li_iinc (ls' := [some (.inr (.inr (some a0))), some (.inl x1), some (.inl x2), some (.inl x3), some (.inl (x4 + (1 : Int32)))]) d201_105 (by rfl) (by decide) ic_1 (by rfl)) ?_
      refine Eq.trans (li_goto (t := 56) d201_108 (by rfl)) ?_
      rfl
/-! TransitSealsModel.tell(J)V -/
theorem d202_0 : decode Y202.2.1 0 = .ok (.aload_n 0, 1) := by decide +kernel
theorem d202_1 : decode Y202.2.1 1 = .ok (.getfield 36, 3) := by decide +kernel
theorem d202_4 : decode Y202.2.1 4 = .ok (.aload_n 0, 1) := by decide +kernel
theorem d202_5 : decode Y202.2.1 5 = .ok (.getfield 70, 3) := by decide +kernel
theorem d202_8 : decode Y202.2.1 8 = .ok (.lload_n 1, 1) := by decide +kernel
theorem d202_9 : decode Y202.2.1 9 = .ok (.lastore, 1) := by decide +kernel
theorem d202_10 : decode Y202.2.1 10 = .ok (.aload_n 0, 1) := by decide +kernel
theorem d202_11 : decode Y202.2.1 11 = .ok (.dup, 1) := by decide +kernel
theorem d202_12 : decode Y202.2.1 12 = .ok (.getfield 70, 3) := by decide +kernel
theorem d202_15 : decode Y202.2.1 15 = .ok (.iconst 1, 1) := by decide +kernel
theorem d202_16 : decode Y202.2.1 16 = .ok (.iadd, 1) := by decide +kernel
theorem d202_17 : decode Y202.2.1 17 = .ok (.putfield 70, 3) := by decide +kernel
theorem d202_20 : decode Y202.2.1 20 = .ok (.return_, 1) := by decide +kernel
theorem E202 (d : Nat) (a0 : Nat) (x1 : Int64) (h0 : ts_sh a0 = (0, 12)) (m : lt_m) : lt_ev (d + 1) 202 [.inr (.inr (some a0)), .inr (.inl x1)] m = lt_gd (0 ≤ (m.1 a0 14) ∧ ((m.1 a0 14)).toNatClampNeg < 32) (some (none, (lm_i (lm_l m (a0 + 8) ((m.1 a0 14)).toNatClampNeg x1) a0 14 (((lm_l m (a0 + 8) ((m.1 a0 14)).toNatClampNeg x1).1 a0 14) + (1 : Int32))))) := by
  refine Eq.trans (lt_enter2 (ls := [some (.inr (.inr (some a0))), some (.inr (.inl x1)), none]) hY202 (Nat.le_of_ble_eq_true rfl) (by rfl)) ?_
  refine Eq.trans (li_aload_n d202_0 (by rfl)) ?_
  refine Eq.trans (li_getr d202_1 fa_12_36 h0 rfl rfl rfl (by decide)) ?_
  refine Eq.trans (li_aload_n d202_4 (by rfl)) ?_
  refine Eq.trans (li_geti d202_5 fa_12_70 h0 rfl) ?_
  refine Eq.trans (li_lload_n d202_8 (by rfl)) ?_
  refine Eq.trans (li_last d202_9 (sf_of h0 13 (by decide) (by decide))) ?_
  refine lt_gd_c (fun g1 => ?_)
  refine Eq.trans (li_aload_n d202_10 (by rfl)) ?_
  refine Eq.trans (li_dup d202_11 rfl) ?_
  refine Eq.trans (li_geti d202_12 fa_12_70 h0 rfl) ?_
  refine Eq.trans (li_iconst d202_15 ic_1) ?_
  refine Eq.trans (li_iadd d202_16) ?_
  refine Eq.trans (li_puti d202_17 fa_12_70 h0 rfl rfl) ?_
  exact li_vret d202_20 rfl
/-! TransitSealsModel.routes(II)I -/
theorem d203_0 : decode Y203.2.1 0 = .ok (.aload_n 0, 1) := by decide +kernel
theorem d203_1 : decode Y203.2.1 1 = .ok (.iconst 0, 1) := by decide +kernel
theorem d203_2 : decode Y203.2.1 2 = .ok (.putfield 67, 3) := by decide +kernel
theorem d203_5 : decode Y203.2.1 5 = .ok (.aload_n 0, 1) := by decide +kernel
theorem d203_6 : decode Y203.2.1 6 = .ok (.iload_n 1, 1) := by decide +kernel
theorem d203_7 : decode Y203.2.1 7 = .ok (.invokevirtual 174, 3) := by decide +kernel
theorem d203_10 : decode Y203.2.1 10 = .ok (.ifCond .eq 16, 3) := by decide +kernel
theorem d203_13 : decode Y203.2.1 13 = .ok (.aload_n 0, 1) := by decide +kernel
theorem d203_14 : decode Y203.2.1 14 = .ok (.iload_n 2, 1) := by decide +kernel
theorem d203_15 : decode Y203.2.1 15 = .ok (.invokevirtual 174, 3) := by decide +kernel
theorem d203_18 : decode Y203.2.1 18 = .ok (.ifCond .eq 8, 3) := by decide +kernel
theorem d203_21 : decode Y203.2.1 21 = .ok (.iload_n 1, 1) := by decide +kernel
theorem d203_22 : decode Y203.2.1 22 = .ok (.iload_n 2, 1) := by decide +kernel
theorem d203_23 : decode Y203.2.1 23 = .ok (.if_icmp .ne 5, 3) := by decide +kernel
theorem d203_26 : decode Y203.2.1 26 = .ok (.iconst (-1), 1) := by decide +kernel
theorem d203_27 : decode Y203.2.1 27 = .ok (.ireturn, 1) := by decide +kernel
theorem d203_28 : decode Y203.2.1 28 = .ok (.aload_n 0, 1) := by decide +kernel
theorem d203_29 : decode Y203.2.1 29 = .ok (.iload_n 1, 1) := by decide +kernel
theorem d203_30 : decode Y203.2.1 30 = .ok (.iload_n 2, 1) := by decide +kernel
theorem d203_31 : decode Y203.2.1 31 = .ok (.invokevirtual 224, 3) := by decide +kernel
theorem d203_34 : decode Y203.2.1 34 = .ok (.ifCond .ne 6, 3) := by decide +kernel
theorem d203_37 : decode Y203.2.1 37 = .ok (.bipush (-2), 2) := by decide +kernel
theorem d203_39 : decode Y203.2.1 39 = .ok (.ireturn, 1) := by decide +kernel
theorem d203_40 : decode Y203.2.1 40 = .ok (.aload_n 0, 1) := by decide +kernel
theorem d203_41 : decode Y203.2.1 41 = .ok (.iconst 0, 1) := by decide +kernel
theorem d203_42 : decode Y203.2.1 42 = .ok (.putfield 70, 3) := by decide +kernel
theorem d203_45 : decode Y203.2.1 45 = .ok (.aload_n 0, 1) := by decide +kernel
theorem d203_46 : decode Y203.2.1 46 = .ok (.aload_n 0, 1) := by decide +kernel
theorem d203_47 : decode Y203.2.1 47 = .ok (.getfield 201, 3) := by decide +kernel
theorem d203_50 : decode Y203.2.1 50 = .ok (.i2l, 1) := by decide +kernel
theorem d203_51 : decode Y203.2.1 51 = .ok (.invokevirtual 194, 3) := by decide +kernel
theorem d203_54 : decode Y203.2.1 54 = .ok (.aload_n 0, 1) := by decide +kernel
theorem d203_55 : decode Y203.2.1 55 = .ok (.aload_n 0, 1) := by decide +kernel
theorem d203_56 : decode Y203.2.1 56 = .ok (.getfield 204, 3) := by decide +kernel
theorem d203_59 : decode Y203.2.1 59 = .ok (.i2l, 1) := by decide +kernel
theorem d203_60 : decode Y203.2.1 60 = .ok (.invokevirtual 194, 3) := by decide +kernel
theorem d203_63 : decode Y203.2.1 63 = .ok (.aload_n 0, 1) := by decide +kernel
theorem d203_64 : decode Y203.2.1 64 = .ok (.getfield 198, 3) := by decide +kernel
theorem d203_67 : decode Y203.2.1 67 = .ok (.ireturn, 1) := by decide +kernel
theorem E203 (d : Nat) (a0 : Nat) (x1 : Int32) (x2 : Int32) (h0 : ts_sh a0 = (0, 12)) (m : lt_m) : lt_ev (d + 1) 203 [.inr (.inr (some a0)), .inl x1, .inl x2] m = lt_cI (lt_ev d 193 [.inr (.inr (some a0)), .inl x1] (lm_i m a0 15 (0 : Int32))) (fun v1 m1 => (if v1 = 0 then (some (some (.inl (-1 : Int32)), m1)) else (lt_cI (lt_ev d 193 [.inr (.inr (some a0)), .inl x2] m1) (fun v2 m2 => (if v2 = 0 then (some (some (.inl (-1 : Int32)), m2)) else (if ¬ x1 = x2 then (lt_cI (lt_ev d 204 [.inr (.inr (some a0)), .inl x1, .inl x2] m2) (fun v3 m3 => (if ¬ v3 = 0 then (lt_cV (lt_ev d 202 [.inr (.inr (some a0)), .inr (.inl ((((lm_i m3 a0 14 (0 : Int32)).1 a0 30)).toInt64))] (lm_i m3 a0 14 (0 : Int32))) (fun m4 => (lt_cV (lt_ev d 202 [.inr (.inr (some a0)), .inr (.inl (((m4.1 a0 31)).toInt64))] m4) (fun m5 => (some (some (.inl (m5.1 a0 29)), m5)))))) else (some (some (.inl (-2 : Int32)), m3))))) else (some (some (.inl (-1 : Int32)), m2)))))))) := by
  refine Eq.trans (lt_enter2 (ls := [some (.inr (.inr (some a0))), some (.inl x1), some (.inl x2)]) hY203 (Nat.le_of_ble_eq_true rfl) (by rfl)) ?_
  refine Eq.trans (li_aload_n d203_0 (by rfl)) ?_
  refine Eq.trans (li_iconst d203_1 ic_0) ?_
  refine Eq.trans (li_puti d203_2 fa_12_67 h0 rfl rfl) ?_
  refine Eq.trans (li_aload_n d203_5 (by rfl)) ?_
  refine Eq.trans (li_iload_n d203_6 (by rfl)) ?_
  refine Eq.trans (li_ivI d203_7 ca_12_174 kd_193 kl_193 (by rfl) (by rfl) h0 (Nat.le_of_ble_eq_true rfl) (Nat.le_of_ble_eq_true rfl)) ?_
  refine lt_cI_c (fun v1 m1 => ?_)
  refine Eq.trans (li_if_eq (t := 26) d203_10 (by rfl)) ?_
  refine lt_ite (fun c1 => ?_) (fun c1 => ?_)
  · refine Eq.trans (li_iconst d203_26 ic_n1) ?_
    exact li_iret d203_27 rfl
  · refine Eq.trans (li_aload_n d203_13 (by rfl)) ?_
    refine Eq.trans (li_iload_n d203_14 (by rfl)) ?_
    refine Eq.trans (li_ivI d203_15 ca_12_174 kd_193 kl_193 (by rfl) (by rfl) h0 (Nat.le_of_ble_eq_true rfl) (Nat.le_of_ble_eq_true rfl)) ?_
    refine lt_cI_c (fun v2 m2 => ?_)
    refine Eq.trans (li_if_eq (t := 26) d203_18 (by rfl)) ?_
    refine lt_ite (fun c2 => ?_) (fun c2 => ?_)
    · refine Eq.trans (li_iconst d203_26 ic_n1) ?_
      exact li_iret d203_27 rfl
    · refine Eq.trans (li_iload_n d203_21 (by rfl)) ?_
      refine Eq.trans (li_iload_n d203_22 (by rfl)) ?_
      refine Eq.trans (li_icmp_ne (t := 28) d203_23 (by rfl)) ?_
      refine lt_ite (fun c3 => ?_) (fun c3 => ?_)
      · refine Eq.trans (li_aload_n d203_28 (by rfl)) ?_
        refine Eq.trans (li_iload_n d203_29 (by rfl)) ?_
        refine Eq.trans (li_iload_n d203_30 (by rfl)) ?_
        refine Eq.trans (li_ivI d203_31 ca_12_224 kd_204 kl_204 (by rfl) (by rfl) h0 (Nat.le_of_ble_eq_true rfl) (Nat.le_of_ble_eq_true rfl)) ?_
        refine lt_cI_c (fun v3 m3 => ?_)
        refine Eq.trans (li_if_ne (t := 40) d203_34 (by rfl)) ?_
        refine lt_ite (fun c4 => ?_) (fun c4 => ?_)
        · refine Eq.trans (li_aload_n d203_40 (by rfl)) ?_
          refine Eq.trans (li_iconst d203_41 ic_0) ?_
          refine Eq.trans (li_puti d203_42 fa_12_70 h0 rfl rfl) ?_
          refine Eq.trans (li_aload_n d203_45 (by rfl)) ?_
          refine Eq.trans (li_aload_n d203_46 (by rfl)) ?_
          refine Eq.trans (li_geti d203_47 fa_12_201 h0 rfl) ?_
          refine Eq.trans (li_i2l d203_50) ?_
          refine Eq.trans (li_ivV d203_51 ca_12_194 kd_202 kl_202 (by rfl) (by rfl) h0 (Nat.le_of_ble_eq_true rfl) (Nat.le_of_ble_eq_true rfl)) ?_
          refine lt_cV_c (fun m4 => ?_)
          refine Eq.trans (li_aload_n d203_54 (by rfl)) ?_
          refine Eq.trans (li_aload_n d203_55 (by rfl)) ?_
          refine Eq.trans (li_geti d203_56 fa_12_204 h0 rfl) ?_
          refine Eq.trans (li_i2l d203_59) ?_
          refine Eq.trans (li_ivV d203_60 ca_12_194 kd_202 kl_202 (by rfl) (by rfl) h0 (Nat.le_of_ble_eq_true rfl) (Nat.le_of_ble_eq_true rfl)) ?_
          refine lt_cV_c (fun m5 => ?_)
          refine Eq.trans (li_aload_n d203_63 (by rfl)) ?_
          refine Eq.trans (li_geti d203_64 fa_12_198 h0 rfl) ?_
          exact li_iret d203_67 rfl
        · refine Eq.trans (li_bipush d203_37 bi_n2) ?_
          exact li_iret d203_39 rfl
      · refine Eq.trans (li_iconst d203_26 ic_n1) ?_
        exact li_iret d203_27 rfl
/-! TransitSealsModel.findsRoutes(II)Z -/
theorem d204_0 : decode Y204.2.1 0 = .ok (.aload_n 0, 1) := by decide +kernel
theorem d204_1 : decode Y204.2.1 1 = .ok (.iconst 0, 1) := by decide +kernel
theorem d204_2 : decode Y204.2.1 2 = .ok (.putfield 198, 3) := by decide +kernel
theorem d204_5 : decode Y204.2.1 5 = .ok (.aload_n 0, 1) := by decide +kernel
theorem d204_6 : decode Y204.2.1 6 = .ok (.iconst 0, 1) := by decide +kernel
theorem d204_7 : decode Y204.2.1 7 = .ok (.putfield 204, 3) := by decide +kernel
theorem d204_10 : decode Y204.2.1 10 = .ok (.aload_n 0, 1) := by decide +kernel
theorem d204_11 : decode Y204.2.1 11 = .ok (.iconst 1, 1) := by decide +kernel
theorem d204_12 : decode Y204.2.1 12 = .ok (.aload_n 0, 1) := by decide +kernel
theorem d204_13 : decode Y204.2.1 13 = .ok (.getfield 28, 3) := by decide +kernel
theorem d204_16 : decode Y204.2.1 16 = .ok (.ishl, 1) := by decide +kernel
theorem d204_17 : decode Y204.2.1 17 = .ok (.iconst 1, 1) := by decide +kernel
theorem d204_18 : decode Y204.2.1 18 = .ok (.isub, 1) := by decide +kernel
theorem d204_19 : decode Y204.2.1 19 = .ok (.putfield 210, 3) := by decide +kernel
theorem d204_22 : decode Y204.2.1 22 = .ok (.aload_n 0, 1) := by decide +kernel
theorem d204_23 : decode Y204.2.1 23 = .ok (.iload_n 1, 1) := by decide +kernel
theorem d204_24 : decode Y204.2.1 24 = .ok (.iload_n 2, 1) := by decide +kernel
theorem d204_25 : decode Y204.2.1 25 = .ok (.iconst 1, 1) := by decide +kernel
theorem d204_26 : decode Y204.2.1 26 = .ok (.iload_n 1, 1) := by decide +kernel
theorem d204_27 : decode Y204.2.1 27 = .ok (.ishl, 1) := by decide +kernel
theorem d204_28 : decode Y204.2.1 28 = .ok (.iconst 0, 1) := by decide +kernel
theorem d204_29 : decode Y204.2.1 29 = .ok (.invokevirtual 220, 3) := by decide +kernel
theorem d204_32 : decode Y204.2.1 32 = .ok (.aload_n 0, 1) := by decide +kernel
theorem d204_33 : decode Y204.2.1 33 = .ok (.getfield 198, 3) := by decide +kernel
theorem d204_36 : decode Y204.2.1 36 = .ok (.ifCond .le 7, 3) := by decide +kernel
theorem d204_39 : decode Y204.2.1 39 = .ok (.iconst 1, 1) := by decide +kernel
theorem d204_40 : decode Y204.2.1 40 = .ok (.goto 4, 3) := by decide +kernel
theorem d204_43 : decode Y204.2.1 43 = .ok (.iconst 0, 1) := by decide +kernel
theorem d204_44 : decode Y204.2.1 44 = .ok (.ireturn, 1) := by decide +kernel
theorem E204 (d : Nat) (a0 : Nat) (x1 : Int32) (x2 : Int32) (h0 : ts_sh a0 = (0, 12)) (m : lt_m) : lt_ev (d + 1) 204 [.inr (.inr (some a0)), .inl x1, .inl x2] m = lt_let (lm_i (lm_i (lm_i m a0 29 (0 : Int32)) a0 31 (0 : Int32)) a0 32 (((1 : Int32) <<< (((lm_i (lm_i m a0 29 (0 : Int32)) a0 31 (0 : Int32)).1 a0 8) &&& 31)) - (1 : Int32))) (fun m1 => (lt_cV (lt_ev d 205 [.inr (.inr (some a0)), .inl x1, .inl x2, .inl ((1 : Int32) <<< (x1 &&& 31)), .inl (0 : Int32)] m1) (fun m2 => (if (m2.1 a0 29) ≤ 0 then (some (some (.inl (0 : Int32)), m2)) else (some (some (.inl (1 : Int32)), m2)))))) := by
  refine Eq.trans (lt_enter2 (ls := [some (.inr (.inr (some a0))), some (.inl x1), some (.inl x2)]) hY204 (Nat.le_of_ble_eq_true rfl) (by rfl)) ?_
  refine Eq.trans (li_aload_n d204_0 (by rfl)) ?_
  refine Eq.trans (li_iconst d204_1 ic_0) ?_
  refine Eq.trans (li_puti d204_2 fa_12_198 h0 rfl rfl) ?_
  refine Eq.trans (li_aload_n d204_5 (by rfl)) ?_
  refine Eq.trans (li_iconst d204_6 ic_0) ?_
  refine Eq.trans (li_puti d204_7 fa_12_204 h0 rfl rfl) ?_
  refine Eq.trans (li_aload_n d204_10 (by rfl)) ?_
  refine Eq.trans (li_iconst d204_11 ic_1) ?_
  refine Eq.trans (li_aload_n d204_12 (by rfl)) ?_
  refine Eq.trans (li_geti d204_13 fa_12_28 h0 rfl) ?_
  refine Eq.trans (li_ishl d204_16) ?_
  refine Eq.trans (li_iconst d204_17 ic_1) ?_
  refine Eq.trans (li_isub d204_18) ?_
  refine Eq.trans (li_puti d204_19 fa_12_210 h0 rfl rfl) ?_
  refine lt_let_x (F := fun m1 => lt_run d Y204 22 [some (.inr (.inr (some a0))), some (.inl x1), some (.inl x2)] [] m1) (fun m1 => ?_)
  refine Eq.trans (li_aload_n d204_22 (by rfl)) ?_
  refine Eq.trans (li_iload_n d204_23 (by rfl)) ?_
  refine Eq.trans (li_iload_n d204_24 (by rfl)) ?_
  refine Eq.trans (li_iconst d204_25 ic_1) ?_
  refine Eq.trans (li_iload_n d204_26 (by rfl)) ?_
  refine Eq.trans (li_ishl d204_27) ?_
  refine Eq.trans (li_iconst d204_28 ic_0) ?_
  refine Eq.trans (li_ivV d204_29 ca_12_220 kd_205 kl_205 (by rfl) (by rfl) h0 (Nat.le_of_ble_eq_true rfl) (Nat.le_of_ble_eq_true rfl)) ?_
  refine lt_cV_c (fun m2 => ?_)
  refine Eq.trans (li_aload_n d204_32 (by rfl)) ?_
  refine Eq.trans (li_geti d204_33 fa_12_198 h0 rfl) ?_
  refine Eq.trans (li_if_le (t := 43) d204_36 (by rfl)) ?_
  refine lt_ite (fun c1 => ?_) (fun c1 => ?_)
  · refine Eq.trans (li_iconst d204_43 ic_0) ?_
    exact li_zret d204_44 rfl (by decide)
  · refine Eq.trans (li_iconst d204_39 ic_1) ?_
    refine Eq.trans (li_goto (t := 44) d204_40 (by rfl)) ?_
    exact li_zret d204_44 rfl (by decide)
/-! TransitSealsModel.walks(IIII)V -/
theorem d205_0 : decode Y205.2.1 0 = .ok (.iload_n 1, 1) := by decide +kernel
theorem d205_1 : decode Y205.2.1 1 = .ok (.iload_n 2, 1) := by decide +kernel
theorem d205_2 : decode Y205.2.1 2 = .ok (.if_icmp .ne 62, 3) := by decide +kernel
theorem d205_5 : decode Y205.2.1 5 = .ok (.aload_n 0, 1) := by decide +kernel
theorem d205_6 : decode Y205.2.1 6 = .ok (.aload_n 0, 1) := by decide +kernel
theorem d205_7 : decode Y205.2.1 7 = .ok (.getfield 198, 3) := by decide +kernel
theorem d205_10 : decode Y205.2.1 10 = .ok (.ifCond .ne 8, 3) := by decide +kernel
theorem d205_13 : decode Y205.2.1 13 = .ok (.iload 4, 2) := by decide +kernel
theorem d205_15 : decode Y205.2.1 15 = .ok (.goto 12, 3) := by decide +kernel
theorem d205_18 : decode Y205.2.1 18 = .ok (.aload_n 0, 1) := by decide +kernel
theorem d205_19 : decode Y205.2.1 19 = .ok (.getfield 201, 3) := by decide +kernel
theorem d205_22 : decode Y205.2.1 22 = .ok (.iload 4, 2) := by decide +kernel
theorem d205_24 : decode Y205.2.1 24 = .ok (.invokestatic 186, 3) := by decide +kernel
theorem d205_27 : decode Y205.2.1 27 = .ok (.putfield 201, 3) := by decide +kernel
theorem d205_30 : decode Y205.2.1 30 = .ok (.aload_n 0, 1) := by decide +kernel
theorem d205_31 : decode Y205.2.1 31 = .ok (.aload_n 0, 1) := by decide +kernel
theorem d205_32 : decode Y205.2.1 32 = .ok (.getfield 204, 3) := by decide +kernel
theorem d205_35 : decode Y205.2.1 35 = .ok (.iload 4, 2) := by decide +kernel
theorem d205_37 : decode Y205.2.1 37 = .ok (.invokestatic 207, 3) := by decide +kernel
theorem d205_40 : decode Y205.2.1 40 = .ok (.putfield 204, 3) := by decide +kernel
theorem d205_43 : decode Y205.2.1 43 = .ok (.aload_n 0, 1) := by decide +kernel
theorem d205_44 : decode Y205.2.1 44 = .ok (.dup, 1) := by decide +kernel
theorem d205_45 : decode Y205.2.1 45 = .ok (.getfield 210, 3) := by decide +kernel
theorem d205_48 : decode Y205.2.1 48 = .ok (.iload_n 3, 1) := by decide +kernel
theorem d205_49 : decode Y205.2.1 49 = .ok (.iand, 1) := by decide +kernel
theorem d205_50 : decode Y205.2.1 50 = .ok (.putfield 210, 3) := by decide +kernel
theorem d205_53 : decode Y205.2.1 53 = .ok (.aload_n 0, 1) := by decide +kernel
theorem d205_54 : decode Y205.2.1 54 = .ok (.dup, 1) := by decide +kernel
theorem d205_55 : decode Y205.2.1 55 = .ok (.getfield 198, 3) := by decide +kernel
theorem d205_58 : decode Y205.2.1 58 = .ok (.iconst 1, 1) := by decide +kernel
theorem d205_59 : decode Y205.2.1 59 = .ok (.iadd, 1) := by decide +kernel
theorem d205_60 : decode Y205.2.1 60 = .ok (.putfield 198, 3) := by decide +kernel
theorem d205_63 : decode Y205.2.1 63 = .ok (.return_, 1) := by decide +kernel
theorem d205_64 : decode Y205.2.1 64 = .ok (.iload_n 3, 1) := by decide +kernel
theorem d205_65 : decode Y205.2.1 65 = .ok (.invokestatic 213, 3) := by decide +kernel
theorem d205_68 : decode Y205.2.1 68 = .ok (.bipush 8, 2) := by decide +kernel
theorem d205_70 : decode Y205.2.1 70 = .ok (.if_icmp .ne 4, 3) := by decide +kernel
theorem d205_73 : decode Y205.2.1 73 = .ok (.return_, 1) := by decide +kernel
theorem d205_74 : decode Y205.2.1 74 = .ok (.iconst 0, 1) := by decide +kernel
theorem d205_75 : decode Y205.2.1 75 = .ok (.istore 5, 2) := by decide +kernel
theorem d205_77 : decode Y205.2.1 77 = .ok (.iload 5, 2) := by decide +kernel
theorem d205_79 : decode Y205.2.1 79 = .ok (.aload_n 0, 1) := by decide +kernel
theorem d205_80 : decode Y205.2.1 80 = .ok (.getfield 28, 3) := by decide +kernel
theorem d205_83 : decode Y205.2.1 83 = .ok (.if_icmp .ge 54, 3) := by decide +kernel
theorem d205_86 : decode Y205.2.1 86 = .ok (.iload_n 3, 1) := by decide +kernel
theorem d205_87 : decode Y205.2.1 87 = .ok (.iload 5, 2) := by decide +kernel
theorem d205_89 : decode Y205.2.1 89 = .ok (.invokestatic 216, 3) := by decide +kernel
theorem d205_92 : decode Y205.2.1 92 = .ok (.ifCond .ne 39, 3) := by decide +kernel
theorem d205_95 : decode Y205.2.1 95 = .ok (.aload_n 0, 1) := by decide +kernel
theorem d205_96 : decode Y205.2.1 96 = .ok (.iload_n 1, 1) := by decide +kernel
theorem d205_97 : decode Y205.2.1 97 = .ok (.iload 5, 2) := by decide +kernel
theorem d205_99 : decode Y205.2.1 99 = .ok (.invokevirtual 167, 3) := by decide +kernel
theorem d205_102 : decode Y205.2.1 102 = .ok (.ifCond .ne 6, 3) := by decide +kernel
theorem d205_105 : decode Y205.2.1 105 = .ok (.goto 26, 3) := by decide +kernel
theorem d205_108 : decode Y205.2.1 108 = .ok (.aload_n 0, 1) := by decide +kernel
theorem d205_109 : decode Y205.2.1 109 = .ok (.iload 5, 2) := by decide +kernel
theorem d205_111 : decode Y205.2.1 111 = .ok (.iload_n 2, 1) := by decide +kernel
theorem d205_112 : decode Y205.2.1 112 = .ok (.iload_n 3, 1) := by decide +kernel
theorem d205_113 : decode Y205.2.1 113 = .ok (.iconst 1, 1) := by decide +kernel
theorem d205_114 : decode Y205.2.1 114 = .ok (.iload 5, 2) := by decide +kernel
theorem d205_116 : decode Y205.2.1 116 = .ok (.ishl, 1) := by decide +kernel
theorem d205_117 : decode Y205.2.1 117 = .ok (.ior, 1) := by decide +kernel
theorem d205_118 : decode Y205.2.1 118 = .ok (.iload 4, 2) := by decide +kernel
theorem d205_120 : decode Y205.2.1 120 = .ok (.aload_n 0, 1) := by decide +kernel
theorem d205_121 : decode Y205.2.1 121 = .ok (.iload_n 1, 1) := by decide +kernel
theorem d205_122 : decode Y205.2.1 122 = .ok (.iload 5, 2) := by decide +kernel
theorem d205_124 : decode Y205.2.1 124 = .ok (.invokevirtual 167, 3) := by decide +kernel
theorem d205_127 : decode Y205.2.1 127 = .ok (.iadd, 1) := by decide +kernel
theorem d205_128 : decode Y205.2.1 128 = .ok (.invokevirtual 220, 3) := by decide +kernel
theorem d205_131 : decode Y205.2.1 131 = .ok (.iinc 5 1, 3) := by decide +kernel
theorem d205_134 : decode Y205.2.1 134 = .ok (.goto (-57), 3) := by decide +kernel
theorem d205_137 : decode Y205.2.1 137 = .ok (.return_, 1) := by decide +kernel
noncomputable def L205_27 (d : Nat) (a0 : Nat) (x1 : Int32) (x2 : Int32) (x3 : Int32) (x4 : Int32) (xt0 : Int32) (m : lt_m) : Option lt_r := lt_run d Y205 27 [some (.inr (.inr (some a0))), some (.inl x1), some (.inl x2), some (.inl x3), some (.inl x4), none] [.inl xt0, .inr (.inr (some a0))] m
noncomputable def L205_77 (d : Nat) (a0 : Nat) (x1 : Int32) (x2 : Int32) (x3 : Int32) (x4 : Int32) (x5 : Int32) (m : lt_m) : Option lt_r := lt_run d Y205 77 [some (.inr (.inr (some a0))), some (.inl x1), some (.inl x2), some (.inl x3), some (.inl x4), some (.inl x5)] [] m
theorem E205 (d : Nat) (a0 : Nat) (x1 : Int32) (x2 : Int32) (x3 : Int32) (x4 : Int32) (h0 : ts_sh a0 = (0, 12)) (m : lt_m) : lt_ev (d + 1) 205 [.inr (.inr (some a0)), .inl x1, .inl x2, .inl x3, .inl x4] m = if ¬ x1 = x2 then (lt_cI (lt_ev d 206 [.inl x3] m) (fun v1 m1 => (if ¬ v1 = (8 : Int32) then (L205_77 d a0 x1 x2 x3 x4 (0 : Int32) m1) else (some (none, m1))))) else (if ¬ (m.1 a0 29) = 0 then (L205_27 d a0 x1 x2 x3 x4 (lm_min (m.1 a0 30) x4) m) else (L205_27 d a0 x1 x2 x3 x4 x4 m)) := by
  refine Eq.trans (lt_enter2 (ls := [some (.inr (.inr (some a0))), some (.inl x1), some (.inl x2), some (.inl x3), some (.inl x4), none]) hY205 (Nat.le_of_ble_eq_true rfl) (by rfl)) ?_
  refine Eq.trans (li_iload_n d205_0 (by rfl)) ?_
  refine Eq.trans (li_iload_n d205_1 (by rfl)) ?_
  refine Eq.trans (li_icmp_ne (t := 64) d205_2 (by rfl)) ?_
  refine lt_ite (fun c1 => ?_) (fun c1 => ?_)
  · refine Eq.trans (li_iload_n d205_64 (by rfl)) ?_
    refine Eq.trans (li_isI d205_65 bi_12_213 ca_12_213 kd_206 (by rfl) (by rfl) (Nat.le_of_ble_eq_true rfl) (Nat.le_of_ble_eq_true rfl)) ?_
    refine lt_cI_c (fun v1 m1 => ?_)
    refine Eq.trans (li_bipush d205_68 bi_8) ?_
    refine Eq.trans (li_icmp_ne (t := 74) d205_70 (by rfl)) ?_
    refine lt_ite (fun c2 => ?_) (fun c2 => ?_)
    · refine Eq.trans (li_iconst d205_74 ic_0) ?_
      refine Eq.trans (li_istore (ls' := [some (.inr (.inr (some a0))), some (.inl x1), some (.inl x2), some (.inl x3), some (.inl x4), some (.inl (0 : Int32))]) d205_75 (by decide) (by rfl)) ?_
      rfl
    · exact li_vret d205_73 rfl
  · refine Eq.trans (li_aload_n d205_5 (by rfl)) ?_
    refine Eq.trans (li_aload_n d205_6 (by rfl)) ?_
    refine Eq.trans (li_geti d205_7 fa_12_198 h0 rfl) ?_
    refine Eq.trans (li_if_ne (t := 18) d205_10 (by rfl)) ?_
    refine lt_ite (fun c3 => ?_) (fun c3 => ?_)
    · refine Eq.trans (li_aload_n d205_18 (by rfl)) ?_
      refine Eq.trans (li_geti d205_19 fa_12_201 h0 rfl) ?_
      refine Eq.trans (li_iload d205_22 (by rfl)) ?_
      refine Eq.trans (li_min d205_24 bi_12_186 (Nat.le_of_ble_eq_true rfl)) ?_
      rfl
    · refine Eq.trans (li_iload d205_13 (by rfl)) ?_
      refine Eq.trans (li_goto (t := 27) d205_15 (by rfl)) ?_
      rfl
theorem E205_27 (d : Nat) (a0 : Nat) (x1 : Int32) (x2 : Int32) (x3 : Int32) (x4 : Int32) (xt0 : Int32) (h0 : ts_sh a0 = (0, 12)) (m : lt_m) : L205_27 d a0 x1 x2 x3 x4 xt0 m = lt_let (lm_i (lm_i (lm_i m a0 30 xt0) a0 31 (lm_max ((lm_i m a0 30 xt0).1 a0 31) x4)) a0 32 (((lm_i (lm_i m a0 30 xt0) a0 31 (lm_max ((lm_i m a0 30 xt0).1 a0 31) x4)).1 a0 32) &&& x3)) (fun m1 => (some (none, (lm_i m1 a0 29 ((m1.1 a0 29) + (1 : Int32)))))) := by
  show lt_run d Y205 27 [some (.inr (.inr (some a0))), some (.inl x1), some (.inl x2), some (.inl x3), some (.inl x4), none] [.inl xt0, .inr (.inr (some a0))] m = _
  refine Eq.trans (li_puti d205_27 fa_12_201 h0 rfl rfl) ?_
  refine Eq.trans (li_aload_n d205_30 (by rfl)) ?_
  refine Eq.trans (li_aload_n d205_31 (by rfl)) ?_
  refine Eq.trans (li_geti d205_32 fa_12_204 h0 rfl) ?_
  refine Eq.trans (li_iload d205_35 (by rfl)) ?_
  refine Eq.trans (li_max d205_37 bi_12_207 (Nat.le_of_ble_eq_true rfl)) ?_
  refine Eq.trans (li_puti d205_40 fa_12_204 h0 rfl rfl) ?_
  refine Eq.trans (li_aload_n d205_43 (by rfl)) ?_
  refine Eq.trans (li_dup d205_44 rfl) ?_
  refine Eq.trans (li_geti d205_45 fa_12_210 h0 rfl) ?_
  refine Eq.trans (li_iload_n d205_48 (by rfl)) ?_
  refine Eq.trans (li_iand d205_49) ?_
  refine Eq.trans (li_puti d205_50 fa_12_210 h0 rfl rfl) ?_
  refine lt_let_x (F := fun m1 => lt_run d Y205 53 [some (.inr (.inr (some a0))), some (.inl x1), some (.inl x2), some (.inl x3), some (.inl x4), none] [] m1) (fun m1 => ?_)
  refine Eq.trans (li_aload_n d205_53 (by rfl)) ?_
  refine Eq.trans (li_dup d205_54 rfl) ?_
  refine Eq.trans (li_geti d205_55 fa_12_198 h0 rfl) ?_
  refine Eq.trans (li_iconst d205_58 ic_1) ?_
  refine Eq.trans (li_iadd d205_59) ?_
  refine Eq.trans (li_puti d205_60 fa_12_198 h0 rfl rfl) ?_
  exact li_vret d205_63 rfl
theorem E205_77 (d : Nat) (a0 : Nat) (x1 : Int32) (x2 : Int32) (x3 : Int32) (x4 : Int32) (x5 : Int32) (h0 : ts_sh a0 = (0, 12)) (m : lt_m) : L205_77 d a0 x1 x2 x3 x4 x5 m = if (m.1 a0 8) ≤ x5 then (some (none, m)) else (lt_cI (lt_ev d 207 [.inl x3, .inl x5] m) (fun v1 m1 => (if ¬ v1 = 0 then (L205_77 d a0 x1 x2 x3 x4 (x5 + (1 : Int32)) m1) else (lt_cI (lt_ev d 194 [.inr (.inr (some a0)), .inl x1, .inl x5] m1) (fun v2 m2 => (if ¬ v2 = 0 then (lt_cI (lt_ev d 194 [.inr (.inr (some a0)), .inl x1, .inl x5] m2) (fun v3 m3 => (lt_cV (lt_ev d 205 [.inr (.inr (some a0)), .inl x5, .inl x2, .inl (x3 ||| ((1 : Int32) <<< (x5 &&& 31))), .inl (x4 + v3)] m3) (fun m4 => (L205_77 d a0 x1 x2 x3 x4 (x5 + (1 : Int32)) m4))))) else (L205_77 d a0 x1 x2 x3 x4 (x5 + (1 : Int32)) m2))))))) := by
  show lt_run d Y205 77 [some (.inr (.inr (some a0))), some (.inl x1), some (.inl x2), some (.inl x3), some (.inl x4), some (.inl x5)] [] m = _
  refine Eq.trans (li_iload d205_77 (by rfl)) ?_
  refine Eq.trans (li_aload_n d205_79 (by rfl)) ?_
  refine Eq.trans (li_geti d205_80 fa_12_28 h0 rfl) ?_
  refine Eq.trans (li_icmp_ge (t := 137) d205_83 (by rfl)) ?_
  refine lt_ite (fun c1 => ?_) (fun c1 => ?_)
  · exact li_vret d205_137 rfl
  · refine Eq.trans (li_iload_n d205_86 (by rfl)) ?_
    refine Eq.trans (li_iload d205_87 (by rfl)) ?_
    refine Eq.trans (li_isI d205_89 bi_12_216 ca_12_216 kd_207 (by rfl) (by rfl) (Nat.le_of_ble_eq_true rfl) (Nat.le_of_ble_eq_true rfl)) ?_
    refine lt_cI_c (fun v1 m1 => ?_)
    refine Eq.trans (li_if_ne (t := 131) d205_92 (by rfl)) ?_
    refine lt_ite (fun c2 => ?_) (fun c2 => ?_)
    · refine Eq.trans (li_iinc (ls' := [some (.inr (.inr (some a0))), some (.inl x1), some (.inl x2), some (.inl x3), some (.inl x4), some (.inl (x5 + (1 : Int32)))]) d205_131 (by rfl) (by decide) ic_1 (by rfl)) ?_
      refine Eq.trans (li_goto (t := 77) d205_134 (by rfl)) ?_
      rfl
    · refine Eq.trans (li_aload_n d205_95 (by rfl)) ?_
      refine Eq.trans (li_iload_n d205_96 (by rfl)) ?_
      refine Eq.trans (li_iload d205_97 (by rfl)) ?_
      refine Eq.trans (li_ivI d205_99 ca_12_167 kd_194 kl_194 (by rfl) (by rfl) h0 (Nat.le_of_ble_eq_true rfl) (Nat.le_of_ble_eq_true rfl)) ?_
      refine lt_cI_c (fun v2 m2 => ?_)
      refine Eq.trans (li_if_ne (t := 108) d205_102 (by rfl)) ?_
      refine lt_ite (fun c3 => ?_) (fun c3 => ?_)
      · refine Eq.trans (li_aload_n d205_108 (by rfl)) ?_
        refine Eq.trans (li_iload d205_109 (by rfl)) ?_
        refine Eq.trans (li_iload_n d205_111 (by rfl)) ?_
        refine Eq.trans (li_iload_n d205_112 (by rfl)) ?_
        refine Eq.trans (li_iconst d205_113 ic_1) ?_
        refine Eq.trans (li_iload d205_114 (by rfl)) ?_
        refine Eq.trans (li_ishl d205_116) ?_
        refine Eq.trans (li_ior d205_117) ?_
        refine Eq.trans (li_iload d205_118 (by rfl)) ?_
        refine Eq.trans (li_aload_n d205_120 (by rfl)) ?_
        refine Eq.trans (li_iload_n d205_121 (by rfl)) ?_
        refine Eq.trans (li_iload d205_122 (by rfl)) ?_
        refine Eq.trans (li_ivI d205_124 ca_12_167 kd_194 kl_194 (by rfl) (by rfl) h0 (Nat.le_of_ble_eq_true rfl) (Nat.le_of_ble_eq_true rfl)) ?_
        refine lt_cI_c (fun v3 m3 => ?_)
        refine Eq.trans (li_iadd d205_127) ?_
        refine Eq.trans (li_ivV d205_128 ca_12_220 kd_205 kl_205 (by rfl) (by rfl) h0 (Nat.le_of_ble_eq_true rfl) (Nat.le_of_ble_eq_true rfl)) ?_
        refine lt_cV_c (fun m4 => ?_)
        refine Eq.trans (li_iinc (ls' := [some (.inr (.inr (some a0))), some (.inl x1), some (.inl x2), some (.inl x3), some (.inl x4), some (.inl (x5 + (1 : Int32)))]) d205_131 (by rfl) (by decide) ic_1 (by rfl)) ?_
        refine Eq.trans (li_goto (t := 77) d205_134 (by rfl)) ?_
        rfl
      · refine Eq.trans (li_goto (t := 131) d205_105 (by rfl)) ?_
        refine Eq.trans (li_iinc (ls' := [some (.inr (.inr (some a0))), some (.inl x1), some (.inl x2), some (.inl x3), some (.inl x4), some (.inl (x5 + (1 : Int32)))]) d205_131 (by rfl) (by decide) ic_1 (by rfl)) ?_
        refine Eq.trans (li_goto (t := 77) d205_134 (by rfl)) ?_
        rfl
/-! TransitSealsModel.ones(I)I -/
theorem d206_0 : decode Y206.2.1 0 = .ok (.iconst 0, 1) := by decide +kernel
theorem d206_1 : decode Y206.2.1 1 = .ok (.istore_n 1, 1) := by decide +kernel
theorem d206_2 : decode Y206.2.1 2 = .ok (.iload_n 0, 1) := by decide +kernel
theorem d206_3 : decode Y206.2.1 3 = .ok (.istore_n 2, 1) := by decide +kernel
theorem d206_4 : decode Y206.2.1 4 = .ok (.iload_n 2, 1) := by decide +kernel
theorem d206_5 : decode Y206.2.1 5 = .ok (.ifCond .eq 15, 3) := by decide +kernel
theorem d206_8 : decode Y206.2.1 8 = .ok (.iinc 1 1, 3) := by decide +kernel
theorem d206_11 : decode Y206.2.1 11 = .ok (.iload_n 2, 1) := by decide +kernel
theorem d206_12 : decode Y206.2.1 12 = .ok (.iload_n 2, 1) := by decide +kernel
theorem d206_13 : decode Y206.2.1 13 = .ok (.iconst 1, 1) := by decide +kernel
theorem d206_14 : decode Y206.2.1 14 = .ok (.isub, 1) := by decide +kernel
theorem d206_15 : decode Y206.2.1 15 = .ok (.iand, 1) := by decide +kernel
theorem d206_16 : decode Y206.2.1 16 = .ok (.istore_n 2, 1) := by decide +kernel
theorem d206_17 : decode Y206.2.1 17 = .ok (.goto (-13), 3) := by decide +kernel
theorem d206_20 : decode Y206.2.1 20 = .ok (.iload_n 1, 1) := by decide +kernel
theorem d206_21 : decode Y206.2.1 21 = .ok (.ireturn, 1) := by decide +kernel
noncomputable def L206_4 (d : Nat) (x0 : Int32) (x1 : Int32) (x2 : Int32) (m : lt_m) : Option lt_r := lt_run d Y206 4 [some (.inl x0), some (.inl x1), some (.inl x2)] [] m
theorem E206 (d : Nat) (x0 : Int32)  (m : lt_m) : lt_ev (d + 1) 206 [.inl x0] m = L206_4 d x0 (0 : Int32) x0 m := by
  refine Eq.trans (lt_enter2 (ls := [some (.inl x0), none, none]) hY206 (Nat.le_of_ble_eq_true rfl) (by rfl)) ?_
  refine Eq.trans (li_iconst d206_0 ic_0) ?_
  refine Eq.trans (li_istore_n (ls' := [some (.inl x0), some (.inl (0 : Int32)), none]) d206_1 (by decide) (by rfl)) ?_
  refine Eq.trans (li_iload_n d206_2 (by rfl)) ?_
  refine Eq.trans (li_istore_n (ls' := [some (.inl x0), some (.inl (0 : Int32)), some (.inl x0)]) d206_3 (by decide) (by rfl)) ?_
  rfl
theorem E206_4 (d : Nat) (x0 : Int32) (x1 : Int32) (x2 : Int32)  (m : lt_m) : L206_4 d x0 x1 x2 m = if x2 = 0 then (some (some (.inl x1), m)) else (L206_4 d x0 (x1 + (1 : Int32)) (x2 &&& (x2 - (1 : Int32))) m) := by
  show lt_run d Y206 4 [some (.inl x0), some (.inl x1), some (.inl x2)] [] m = _
  refine Eq.trans (li_iload_n d206_4 (by rfl)) ?_
  refine Eq.trans (li_if_eq (t := 20) d206_5 (by rfl)) ?_
  refine lt_ite (fun c1 => ?_) (fun c1 => ?_)
  · refine Eq.trans (li_iload_n d206_20 (by rfl)) ?_
    exact li_iret d206_21 rfl
  · refine Eq.trans (li_iinc (ls' := [some (.inl x0), some (.inl (x1 + (1 : Int32))), some (.inl x2)]) d206_8 (by rfl) (by decide) ic_1 (by rfl)) ?_
    refine Eq.trans (li_iload_n d206_11 (by rfl)) ?_
    refine Eq.trans (li_iload_n d206_12 (by rfl)) ?_
    refine Eq.trans (li_iconst d206_13 ic_1) ?_
    refine Eq.trans (li_isub d206_14) ?_
    refine Eq.trans (li_iand d206_15) ?_
    refine Eq.trans (li_istore_n (ls' := [some (.inl x0), some (.inl (x1 + (1 : Int32))), some (.inl (x2 &&& (x2 - (1 : Int32))))]) d206_16 (by decide) (by rfl)) ?_
    refine Eq.trans (li_goto (t := 4) d206_17 (by rfl)) ?_
    rfl
/-! TransitSealsModel.has(II)Z -/
theorem d207_0 : decode Y207.2.1 0 = .ok (.iload_n 0, 1) := by decide +kernel
theorem d207_1 : decode Y207.2.1 1 = .ok (.iload_n 1, 1) := by decide +kernel
theorem d207_2 : decode Y207.2.1 2 = .ok (.ishr, 1) := by decide +kernel
theorem d207_3 : decode Y207.2.1 3 = .ok (.iconst 1, 1) := by decide +kernel
theorem d207_4 : decode Y207.2.1 4 = .ok (.iand, 1) := by decide +kernel
theorem d207_5 : decode Y207.2.1 5 = .ok (.iconst 1, 1) := by decide +kernel
theorem d207_6 : decode Y207.2.1 6 = .ok (.if_icmp .ne 7, 3) := by decide +kernel
theorem d207_9 : decode Y207.2.1 9 = .ok (.iconst 1, 1) := by decide +kernel
theorem d207_10 : decode Y207.2.1 10 = .ok (.goto 4, 3) := by decide +kernel
theorem d207_13 : decode Y207.2.1 13 = .ok (.iconst 0, 1) := by decide +kernel
theorem d207_14 : decode Y207.2.1 14 = .ok (.ireturn, 1) := by decide +kernel
theorem E207 (d : Nat) (x0 : Int32) (x1 : Int32)  (m : lt_m) : lt_ev (d + 1) 207 [.inl x0, .inl x1] m = if ¬ ((x0 >>> (x1 &&& 31)) &&& (1 : Int32)) = (1 : Int32) then (some (some (.inl (0 : Int32)), m)) else (some (some (.inl (1 : Int32)), m)) := by
  refine Eq.trans (lt_enter2 (ls := [some (.inl x0), some (.inl x1)]) hY207 (Nat.le_of_ble_eq_true rfl) (by rfl)) ?_
  refine Eq.trans (li_iload_n d207_0 (by rfl)) ?_
  refine Eq.trans (li_iload_n d207_1 (by rfl)) ?_
  refine Eq.trans (li_ishr d207_2) ?_
  refine Eq.trans (li_iconst d207_3 ic_1) ?_
  refine Eq.trans (li_iand d207_4) ?_
  refine Eq.trans (li_iconst d207_5 ic_1) ?_
  refine Eq.trans (li_icmp_ne (t := 13) d207_6 (by rfl)) ?_
  refine lt_ite (fun c1 => ?_) (fun c1 => ?_)
  · refine Eq.trans (li_iconst d207_13 ic_0) ?_
    exact li_zret d207_14 rfl (by decide)
  · refine Eq.trans (li_iconst d207_9 ic_1) ?_
    refine Eq.trans (li_goto (t := 14) d207_10 (by rfl)) ?_
    exact li_zret d207_14 rfl (by decide)
/-! TransitSealsModel.gates(II)I -/
theorem d208_0 : decode Y208.2.1 0 = .ok (.aload_n 0, 1) := by decide +kernel
theorem d208_1 : decode Y208.2.1 1 = .ok (.iconst 0, 1) := by decide +kernel
theorem d208_2 : decode Y208.2.1 2 = .ok (.putfield 67, 3) := by decide +kernel
theorem d208_5 : decode Y208.2.1 5 = .ok (.aload_n 0, 1) := by decide +kernel
theorem d208_6 : decode Y208.2.1 6 = .ok (.iload_n 1, 1) := by decide +kernel
theorem d208_7 : decode Y208.2.1 7 = .ok (.invokevirtual 174, 3) := by decide +kernel
theorem d208_10 : decode Y208.2.1 10 = .ok (.ifCond .eq 16, 3) := by decide +kernel
theorem d208_13 : decode Y208.2.1 13 = .ok (.aload_n 0, 1) := by decide +kernel
theorem d208_14 : decode Y208.2.1 14 = .ok (.iload_n 2, 1) := by decide +kernel
theorem d208_15 : decode Y208.2.1 15 = .ok (.invokevirtual 174, 3) := by decide +kernel
theorem d208_18 : decode Y208.2.1 18 = .ok (.ifCond .eq 8, 3) := by decide +kernel
theorem d208_21 : decode Y208.2.1 21 = .ok (.iload_n 1, 1) := by decide +kernel
theorem d208_22 : decode Y208.2.1 22 = .ok (.iload_n 2, 1) := by decide +kernel
theorem d208_23 : decode Y208.2.1 23 = .ok (.if_icmp .ne 5, 3) := by decide +kernel
theorem d208_26 : decode Y208.2.1 26 = .ok (.iconst (-1), 1) := by decide +kernel
theorem d208_27 : decode Y208.2.1 27 = .ok (.ireturn, 1) := by decide +kernel
theorem d208_28 : decode Y208.2.1 28 = .ok (.aload_n 0, 1) := by decide +kernel
theorem d208_29 : decode Y208.2.1 29 = .ok (.iload_n 1, 1) := by decide +kernel
theorem d208_30 : decode Y208.2.1 30 = .ok (.iload_n 2, 1) := by decide +kernel
theorem d208_31 : decode Y208.2.1 31 = .ok (.invokevirtual 224, 3) := by decide +kernel
theorem d208_34 : decode Y208.2.1 34 = .ok (.ifCond .ne 6, 3) := by decide +kernel
theorem d208_37 : decode Y208.2.1 37 = .ok (.bipush (-2), 2) := by decide +kernel
theorem d208_39 : decode Y208.2.1 39 = .ok (.ireturn, 1) := by decide +kernel
theorem d208_40 : decode Y208.2.1 40 = .ok (.aload_n 0, 1) := by decide +kernel
theorem d208_41 : decode Y208.2.1 41 = .ok (.getfield 210, 3) := by decide +kernel
theorem d208_44 : decode Y208.2.1 44 = .ok (.iconst 1, 1) := by decide +kernel
theorem d208_45 : decode Y208.2.1 45 = .ok (.iload_n 1, 1) := by decide +kernel
theorem d208_46 : decode Y208.2.1 46 = .ok (.ishl, 1) := by decide +kernel
theorem d208_47 : decode Y208.2.1 47 = .ok (.iconst 1, 1) := by decide +kernel
theorem d208_48 : decode Y208.2.1 48 = .ok (.iload_n 2, 1) := by decide +kernel
theorem d208_49 : decode Y208.2.1 49 = .ok (.ishl, 1) := by decide +kernel
theorem d208_50 : decode Y208.2.1 50 = .ok (.ior, 1) := by decide +kernel
theorem d208_51 : decode Y208.2.1 51 = .ok (.iconst (-1), 1) := by decide +kernel
theorem d208_52 : decode Y208.2.1 52 = .ok (.ixor, 1) := by decide +kernel
theorem d208_53 : decode Y208.2.1 53 = .ok (.iand, 1) := by decide +kernel
theorem d208_54 : decode Y208.2.1 54 = .ok (.istore_n 3, 1) := by decide +kernel
theorem d208_55 : decode Y208.2.1 55 = .ok (.aload_n 0, 1) := by decide +kernel
theorem d208_56 : decode Y208.2.1 56 = .ok (.iconst 0, 1) := by decide +kernel
theorem d208_57 : decode Y208.2.1 57 = .ok (.putfield 70, 3) := by decide +kernel
theorem d208_60 : decode Y208.2.1 60 = .ok (.aload_n 0, 1) := by decide +kernel
theorem d208_61 : decode Y208.2.1 61 = .ok (.iload_n 3, 1) := by decide +kernel
theorem d208_62 : decode Y208.2.1 62 = .ok (.invokestatic 213, 3) := by decide +kernel
theorem d208_65 : decode Y208.2.1 65 = .ok (.i2l, 1) := by decide +kernel
theorem d208_66 : decode Y208.2.1 66 = .ok (.invokevirtual 194, 3) := by decide +kernel
theorem d208_69 : decode Y208.2.1 69 = .ok (.iload_n 3, 1) := by decide +kernel
theorem d208_70 : decode Y208.2.1 70 = .ok (.ireturn, 1) := by decide +kernel
theorem E208 (d : Nat) (a0 : Nat) (x1 : Int32) (x2 : Int32) (h0 : ts_sh a0 = (0, 12)) (m : lt_m) : lt_ev (d + 1) 208 [.inr (.inr (some a0)), .inl x1, .inl x2] m = lt_cI (lt_ev d 193 [.inr (.inr (some a0)), .inl x1] (lm_i m a0 15 (0 : Int32))) (fun v1 m1 => (if v1 = 0 then (some (some (.inl (-1 : Int32)), m1)) else (lt_cI (lt_ev d 193 [.inr (.inr (some a0)), .inl x2] m1) (fun v2 m2 => (if v2 = 0 then (some (some (.inl (-1 : Int32)), m2)) else (if ¬ x1 = x2 then (lt_cI (lt_ev d 204 [.inr (.inr (some a0)), .inl x1, .inl x2] m2) (fun v3 m3 => (if ¬ v3 = 0 then (lt_cI (lt_ev d 206 [.inl ((m3.1 a0 32) &&& ((((1 : Int32) <<< (x1 &&& 31)) ||| ((1 : Int32) <<< (x2 &&& 31))) ^^^ (-1 : Int32)))] (lm_i m3 a0 14 (0 : Int32))) (fun v4 m4 => (lt_cV (lt_ev d 202 [.inr (.inr (some a0)), .inr (.inl ((v4).toInt64))] m4) (fun m5 => (some (some (.inl ((m3.1 a0 32) &&& ((((1 : Int32) <<< (x1 &&& 31)) ||| ((1 : Int32) <<< (x2 &&& 31))) ^^^ (-1 : Int32)))), m5)))))) else (some (some (.inl (-2 : Int32)), m3))))) else (some (some (.inl (-1 : Int32)), m2)))))))) := by
  refine Eq.trans (lt_enter2 (ls := [some (.inr (.inr (some a0))), some (.inl x1), some (.inl x2), none]) hY208 (Nat.le_of_ble_eq_true rfl) (by rfl)) ?_
  refine Eq.trans (li_aload_n d208_0 (by rfl)) ?_
  refine Eq.trans (li_iconst d208_1 ic_0) ?_
  refine Eq.trans (li_puti d208_2 fa_12_67 h0 rfl rfl) ?_
  refine Eq.trans (li_aload_n d208_5 (by rfl)) ?_
  refine Eq.trans (li_iload_n d208_6 (by rfl)) ?_
  refine Eq.trans (li_ivI d208_7 ca_12_174 kd_193 kl_193 (by rfl) (by rfl) h0 (Nat.le_of_ble_eq_true rfl) (Nat.le_of_ble_eq_true rfl)) ?_
  refine lt_cI_c (fun v1 m1 => ?_)
  refine Eq.trans (li_if_eq (t := 26) d208_10 (by rfl)) ?_
  refine lt_ite (fun c1 => ?_) (fun c1 => ?_)
  · refine Eq.trans (li_iconst d208_26 ic_n1) ?_
    exact li_iret d208_27 rfl
  · refine Eq.trans (li_aload_n d208_13 (by rfl)) ?_
    refine Eq.trans (li_iload_n d208_14 (by rfl)) ?_
    refine Eq.trans (li_ivI d208_15 ca_12_174 kd_193 kl_193 (by rfl) (by rfl) h0 (Nat.le_of_ble_eq_true rfl) (Nat.le_of_ble_eq_true rfl)) ?_
    refine lt_cI_c (fun v2 m2 => ?_)
    refine Eq.trans (li_if_eq (t := 26) d208_18 (by rfl)) ?_
    refine lt_ite (fun c2 => ?_) (fun c2 => ?_)
    · refine Eq.trans (li_iconst d208_26 ic_n1) ?_
      exact li_iret d208_27 rfl
    · refine Eq.trans (li_iload_n d208_21 (by rfl)) ?_
      refine Eq.trans (li_iload_n d208_22 (by rfl)) ?_
      refine Eq.trans (li_icmp_ne (t := 28) d208_23 (by rfl)) ?_
      refine lt_ite (fun c3 => ?_) (fun c3 => ?_)
      · refine Eq.trans (li_aload_n d208_28 (by rfl)) ?_
        refine Eq.trans (li_iload_n d208_29 (by rfl)) ?_
        refine Eq.trans (li_iload_n d208_30 (by rfl)) ?_
        refine Eq.trans (li_ivI d208_31 ca_12_224 kd_204 kl_204 (by rfl) (by rfl) h0 (Nat.le_of_ble_eq_true rfl) (Nat.le_of_ble_eq_true rfl)) ?_
        refine lt_cI_c (fun v3 m3 => ?_)
        refine Eq.trans (li_if_ne (t := 40) d208_34 (by rfl)) ?_
        refine lt_ite (fun c4 => ?_) (fun c4 => ?_)
        · refine Eq.trans (li_aload_n d208_40 (by rfl)) ?_
          refine Eq.trans (li_geti d208_41 fa_12_210 h0 rfl) ?_
          refine Eq.trans (li_iconst d208_44 ic_1) ?_
          refine Eq.trans (li_iload_n d208_45 (by rfl)) ?_
          refine Eq.trans (li_ishl d208_46) ?_
          refine Eq.trans (li_iconst d208_47 ic_1) ?_
          refine Eq.trans (li_iload_n d208_48 (by rfl)) ?_
          refine Eq.trans (li_ishl d208_49) ?_
          refine Eq.trans (li_ior d208_50) ?_
          refine Eq.trans (li_iconst d208_51 ic_n1) ?_
          refine Eq.trans (li_ixor d208_52) ?_
          refine Eq.trans (li_iand d208_53) ?_
          refine Eq.trans (li_istore_n (ls' := [some (.inr (.inr (some a0))), some (.inl x1), some (.inl x2), some (.inl ((m3.1 a0 32) &&& ((((1 : Int32) <<< (x1 &&& 31)) ||| ((1 : Int32) <<< (x2 &&& 31))) ^^^ (-1 : Int32))))]) d208_54 (by decide) (by rfl)) ?_
          refine Eq.trans (li_aload_n d208_55 (by rfl)) ?_
          refine Eq.trans (li_iconst d208_56 ic_0) ?_
          refine Eq.trans (li_puti d208_57 fa_12_70 h0 rfl rfl) ?_
          refine Eq.trans (li_aload_n d208_60 (by rfl)) ?_
          refine Eq.trans (li_iload_n d208_61 (by rfl)) ?_
          refine Eq.trans (li_isI d208_62 bi_12_213 ca_12_213 kd_206 (by rfl) (by rfl) (Nat.le_of_ble_eq_true rfl) (Nat.le_of_ble_eq_true rfl)) ?_
          refine lt_cI_c (fun v4 m4 => ?_)
          refine Eq.trans (li_i2l d208_65) ?_
          refine Eq.trans (li_ivV d208_66 ca_12_194 kd_202 kl_202 (by rfl) (by rfl) h0 (Nat.le_of_ble_eq_true rfl) (Nat.le_of_ble_eq_true rfl)) ?_
          refine lt_cV_c (fun m5 => ?_)
          refine Eq.trans (li_iload_n d208_69 (by rfl)) ?_
          exact li_iret d208_70 rfl
        · refine Eq.trans (li_bipush d208_37 bi_n2) ?_
          exact li_iret d208_39 rfl
      · refine Eq.trans (li_iconst d208_26 ic_n1) ?_
        exact li_iret d208_27 rfl
/-! TransitSealsModel.trader(II)I -/
theorem d209_0 : decode Y209.2.1 0 = .ok (.aload_n 0, 1) := by decide +kernel
theorem d209_1 : decode Y209.2.1 1 = .ok (.iconst 0, 1) := by decide +kernel
theorem d209_2 : decode Y209.2.1 2 = .ok (.putfield 67, 3) := by decide +kernel
theorem d209_5 : decode Y209.2.1 5 = .ok (.iload_n 1, 1) := by decide +kernel
theorem d209_6 : decode Y209.2.1 6 = .ok (.iload_n 2, 1) := by decide +kernel
theorem d209_7 : decode Y209.2.1 7 = .ok (.invokestatic 240, 3) := by decide +kernel
theorem d209_10 : decode Y209.2.1 10 = .ok (.ifCond .ne 5, 3) := by decide +kernel
theorem d209_13 : decode Y209.2.1 13 = .ok (.iconst (-1), 1) := by decide +kernel
theorem d209_14 : decode Y209.2.1 14 = .ok (.ireturn, 1) := by decide +kernel
theorem d209_15 : decode Y209.2.1 15 = .ok (.aload_n 0, 1) := by decide +kernel
theorem d209_16 : decode Y209.2.1 16 = .ok (.getfield 7, 3) := by decide +kernel
theorem d209_19 : decode Y209.2.1 19 = .ok (.iconst 1, 1) := by decide +kernel
theorem d209_20 : decode Y209.2.1 20 = .ok (.iaload, 1) := by decide +kernel
theorem d209_21 : decode Y209.2.1 21 = .ok (.bipush 6, 2) := by decide +kernel
theorem d209_23 : decode Y209.2.1 23 = .ok (.if_icmp .ne 6, 3) := by decide +kernel
theorem d209_26 : decode Y209.2.1 26 = .ok (.bipush (-2), 2) := by decide +kernel
theorem d209_28 : decode Y209.2.1 28 = .ok (.ireturn, 1) := by decide +kernel
theorem d209_29 : decode Y209.2.1 29 = .ok (.aload_n 0, 1) := by decide +kernel
theorem d209_30 : decode Y209.2.1 30 = .ok (.invokevirtual 243, 3) := by decide +kernel
theorem d209_33 : decode Y209.2.1 33 = .ok (.aload_n 0, 1) := by decide +kernel
theorem d209_34 : decode Y209.2.1 34 = .ok (.getfield 7, 3) := by decide +kernel
theorem d209_37 : decode Y209.2.1 37 = .ok (.iconst 4, 1) := by decide +kernel
theorem d209_38 : decode Y209.2.1 38 = .ok (.iconst 2, 1) := by decide +kernel
theorem d209_39 : decode Y209.2.1 39 = .ok (.aload_n 0, 1) := by decide +kernel
theorem d209_40 : decode Y209.2.1 40 = .ok (.getfield 7, 3) := by decide +kernel
theorem d209_43 : decode Y209.2.1 43 = .ok (.iconst 1, 1) := by decide +kernel
theorem d209_44 : decode Y209.2.1 44 = .ok (.iaload, 1) := by decide +kernel
theorem d209_45 : decode Y209.2.1 45 = .ok (.imul, 1) := by decide +kernel
theorem d209_46 : decode Y209.2.1 46 = .ok (.iadd, 1) := by decide +kernel
theorem d209_47 : decode Y209.2.1 47 = .ok (.iload_n 1, 1) := by decide +kernel
theorem d209_48 : decode Y209.2.1 48 = .ok (.iastore, 1) := by decide +kernel
theorem d209_49 : decode Y209.2.1 49 = .ok (.aload_n 0, 1) := by decide +kernel
theorem d209_50 : decode Y209.2.1 50 = .ok (.getfield 7, 3) := by decide +kernel
theorem d209_53 : decode Y209.2.1 53 = .ok (.iconst 4, 1) := by decide +kernel
theorem d209_54 : decode Y209.2.1 54 = .ok (.iconst 2, 1) := by decide +kernel
theorem d209_55 : decode Y209.2.1 55 = .ok (.aload_n 0, 1) := by decide +kernel
theorem d209_56 : decode Y209.2.1 56 = .ok (.getfield 7, 3) := by decide +kernel
theorem d209_59 : decode Y209.2.1 59 = .ok (.iconst 1, 1) := by decide +kernel
theorem d209_60 : decode Y209.2.1 60 = .ok (.iaload, 1) := by decide +kernel
theorem d209_61 : decode Y209.2.1 61 = .ok (.imul, 1) := by decide +kernel
theorem d209_62 : decode Y209.2.1 62 = .ok (.iadd, 1) := by decide +kernel
theorem d209_63 : decode Y209.2.1 63 = .ok (.iconst 1, 1) := by decide +kernel
theorem d209_64 : decode Y209.2.1 64 = .ok (.iadd, 1) := by decide +kernel
theorem d209_65 : decode Y209.2.1 65 = .ok (.iload_n 2, 1) := by decide +kernel
theorem d209_66 : decode Y209.2.1 66 = .ok (.iastore, 1) := by decide +kernel
theorem d209_67 : decode Y209.2.1 67 = .ok (.aload_n 0, 1) := by decide +kernel
theorem d209_68 : decode Y209.2.1 68 = .ok (.getfield 7, 3) := by decide +kernel
theorem d209_71 : decode Y209.2.1 71 = .ok (.iconst 1, 1) := by decide +kernel
theorem d209_72 : decode Y209.2.1 72 = .ok (.dup2, 1) := by decide +kernel
theorem d209_73 : decode Y209.2.1 73 = .ok (.iaload, 1) := by decide +kernel
theorem d209_74 : decode Y209.2.1 74 = .ok (.iconst 1, 1) := by decide +kernel
theorem d209_75 : decode Y209.2.1 75 = .ok (.iadd, 1) := by decide +kernel
theorem d209_76 : decode Y209.2.1 76 = .ok (.iastore, 1) := by decide +kernel
theorem d209_77 : decode Y209.2.1 77 = .ok (.aload_n 0, 1) := by decide +kernel
theorem d209_78 : decode Y209.2.1 78 = .ok (.getfield 7, 3) := by decide +kernel
theorem d209_81 : decode Y209.2.1 81 = .ok (.iconst 1, 1) := by decide +kernel
theorem d209_82 : decode Y209.2.1 82 = .ok (.iaload, 1) := by decide +kernel
theorem d209_83 : decode Y209.2.1 83 = .ok (.iconst 1, 1) := by decide +kernel
theorem d209_84 : decode Y209.2.1 84 = .ok (.isub, 1) := by decide +kernel
theorem d209_85 : decode Y209.2.1 85 = .ok (.ireturn, 1) := by decide +kernel
theorem E209 (d : Nat) (a0 : Nat) (x1 : Int32) (x2 : Int32) (h0 : ts_sh a0 = (0, 12)) (m : lt_m) : lt_ev (d + 1) 209 [.inr (.inr (some a0)), .inl x1, .inl x2] m = lt_cI (lt_ev d 210 [.inl x1, .inl x2] (lm_i m a0 15 (0 : Int32))) (fun v1 m1 => (if ¬ v1 = 0 then (lt_gd (0 ≤ (1 : Int32) ∧ ((1 : Int32)).toNatClampNeg < 626) (if ¬ (m1.1 (a0 + 1) ((1 : Int32)).toNatClampNeg) = (6 : Int32) then (lt_cV (lt_ev d 211 [.inr (.inr (some a0))] m1) (fun m2 => (lt_gd (0 ≤ (1 : Int32) ∧ ((1 : Int32)).toNatClampNeg < 626) (lt_gd (0 ≤ ((4 : Int32) + ((2 : Int32) * (m2.1 (a0 + 1) ((1 : Int32)).toNatClampNeg))) ∧ (((4 : Int32) + ((2 : Int32) * (m2.1 (a0 + 1) ((1 : Int32)).toNatClampNeg)))).toNatClampNeg < 626) (lt_gd (0 ≤ (1 : Int32) ∧ ((1 : Int32)).toNatClampNeg < 626) (lt_gd (0 ≤ (((4 : Int32) + ((2 : Int32) * ((lm_i m2 (a0 + 1) (((4 : Int32) + ((2 : Int32) * (m2.1 (a0 + 1) ((1 : Int32)).toNatClampNeg)))).toNatClampNeg x1).1 (a0 + 1) ((1 : Int32)).toNatClampNeg))) + (1 : Int32)) ∧ ((((4 : Int32) + ((2 : Int32) * ((lm_i m2 (a0 + 1) (((4 : Int32) + ((2 : Int32) * (m2.1 (a0 + 1) ((1 : Int32)).toNatClampNeg)))).toNatClampNeg x1).1 (a0 + 1) ((1 : Int32)).toNatClampNeg))) + (1 : Int32))).toNatClampNeg < 626) (lt_gd (0 ≤ (1 : Int32) ∧ ((1 : Int32)).toNatClampNeg < 626) (lt_gd (0 ≤ (1 : Int32) ∧ ((1 : Int32)).toNatClampNeg < 626) (lt_gd (0 ≤ (1 : Int32) ∧ ((1 : Int32)).toNatClampNeg < 626) (some (some (.inl (((lm_i (lm_i (lm_i m2 (a0 + 1) (((4 : Int32) + ((2 : Int32) * (m2.1 (a0 + 1) ((1 : Int32)).toNatClampNeg)))).toNatClampNeg x1) (a0 + 1) ((((4 : Int32) + ((2 : Int32) * ((lm_i m2 (a0 + 1) (((4 : Int32) + ((2 : Int32) * (m2.1 (a0 + 1) ((1 : Int32)).toNatClampNeg)))).toNatClampNeg x1).1 (a0 + 1) ((1 : Int32)).toNatClampNeg))) + (1 : Int32))).toNatClampNeg x2) (a0 + 1) ((1 : Int32)).toNatClampNeg (((lm_i (lm_i m2 (a0 + 1) (((4 : Int32) + ((2 : Int32) * (m2.1 (a0 + 1) ((1 : Int32)).toNatClampNeg)))).toNatClampNeg x1) (a0 + 1) ((((4 : Int32) + ((2 : Int32) * ((lm_i m2 (a0 + 1) (((4 : Int32) + ((2 : Int32) * (m2.1 (a0 + 1) ((1 : Int32)).toNatClampNeg)))).toNatClampNeg x1).1 (a0 + 1) ((1 : Int32)).toNatClampNeg))) + (1 : Int32))).toNatClampNeg x2).1 (a0 + 1) ((1 : Int32)).toNatClampNeg) + (1 : Int32))).1 (a0 + 1) ((1 : Int32)).toNatClampNeg) - (1 : Int32))), (lm_i (lm_i (lm_i m2 (a0 + 1) (((4 : Int32) + ((2 : Int32) * (m2.1 (a0 + 1) ((1 : Int32)).toNatClampNeg)))).toNatClampNeg x1) (a0 + 1) ((((4 : Int32) + ((2 : Int32) * ((lm_i m2 (a0 + 1) (((4 : Int32) + ((2 : Int32) * (m2.1 (a0 + 1) ((1 : Int32)).toNatClampNeg)))).toNatClampNeg x1).1 (a0 + 1) ((1 : Int32)).toNatClampNeg))) + (1 : Int32))).toNatClampNeg x2) (a0 + 1) ((1 : Int32)).toNatClampNeg (((lm_i (lm_i m2 (a0 + 1) (((4 : Int32) + ((2 : Int32) * (m2.1 (a0 + 1) ((1 : Int32)).toNatClampNeg)))).toNatClampNeg x1) (a0 + 1) ((((4 : Int32) + ((2 : Int32) * ((lm_i m2 (a0 + 1) (((4 : Int32) + ((2 : Int32) * (m2.1 (a0 + 1) ((1 : Int32)).toNatClampNeg)))).toNatClampNeg x1).1 (a0 + 1) ((1 : Int32)).toNatClampNeg))) + (1 : Int32))).toNatClampNeg x2).1 (a0 + 1) ((1 : Int32)).toNatClampNeg) + (1 : Int32)))))))))))))) else (some (some (.inl (-2 : Int32)), m1)))) else (some (some (.inl (-1 : Int32)), m1)))) := by
  refine Eq.trans (lt_enter2 (ls := [some (.inr (.inr (some a0))), some (.inl x1), some (.inl x2)]) hY209 (Nat.le_of_ble_eq_true rfl) (by rfl)) ?_
  refine Eq.trans (li_aload_n d209_0 (by rfl)) ?_
  refine Eq.trans (li_iconst d209_1 ic_0) ?_
  refine Eq.trans (li_puti d209_2 fa_12_67 h0 rfl rfl) ?_
  refine Eq.trans (li_iload_n d209_5 (by rfl)) ?_
  refine Eq.trans (li_iload_n d209_6 (by rfl)) ?_
  refine Eq.trans (li_isI d209_7 bi_12_240 ca_12_240 kd_210 (by rfl) (by rfl) (Nat.le_of_ble_eq_true rfl) (Nat.le_of_ble_eq_true rfl)) ?_
  refine lt_cI_c (fun v1 m1 => ?_)
  refine Eq.trans (li_if_ne (t := 15) d209_10 (by rfl)) ?_
  refine lt_ite (fun c1 => ?_) (fun c1 => ?_)
  · refine Eq.trans (li_aload_n d209_15 (by rfl)) ?_
    refine Eq.trans (li_getr d209_16 fa_12_7 h0 rfl rfl rfl (by decide)) ?_
    refine Eq.trans (li_iconst d209_19 ic_1) ?_
    refine Eq.trans (li_iald d209_20 (sf_of h0 0 (by decide) (by decide))) ?_
    refine lt_gd_c (fun g1 => ?_)
    refine Eq.trans (li_bipush d209_21 bi_6) ?_
    refine Eq.trans (li_icmp_ne (t := 29) d209_23 (by rfl)) ?_
    refine lt_ite (fun c2 => ?_) (fun c2 => ?_)
    · refine Eq.trans (li_aload_n d209_29 (by rfl)) ?_
      refine Eq.trans (li_ivV d209_30 ca_12_243 kd_211 kl_211 (by rfl) (by rfl) h0 (Nat.le_of_ble_eq_true rfl) (Nat.le_of_ble_eq_true rfl)) ?_
      refine lt_cV_c (fun m2 => ?_)
      refine Eq.trans (li_aload_n d209_33 (by rfl)) ?_
      refine Eq.trans (li_getr d209_34 fa_12_7 h0 rfl rfl rfl (by decide)) ?_
      refine Eq.trans (li_iconst d209_37 ic_4) ?_
      refine Eq.trans (li_iconst d209_38 ic_2) ?_
      refine Eq.trans (li_aload_n d209_39 (by rfl)) ?_
      refine Eq.trans (li_getr d209_40 fa_12_7 h0 rfl rfl rfl (by decide)) ?_
      refine Eq.trans (li_iconst d209_43 ic_1) ?_
      refine Eq.trans (li_iald d209_44 (sf_of h0 0 (by decide) (by decide))) ?_
      refine lt_gd_c (fun g2 => ?_)
      refine Eq.trans (li_imul d209_45) ?_
      refine Eq.trans (li_iadd d209_46) ?_
      refine Eq.trans (li_iload_n d209_47 (by rfl)) ?_
      refine Eq.trans (li_iast d209_48 (sf_of h0 0 (by decide) (by decide))) ?_
      refine lt_gd_c (fun g3 => ?_)
      refine Eq.trans (li_aload_n d209_49 (by rfl)) ?_
      refine Eq.trans (li_getr d209_50 fa_12_7 h0 rfl rfl rfl (by decide)) ?_
      refine Eq.trans (li_iconst d209_53 ic_4) ?_
      refine Eq.trans (li_iconst d209_54 ic_2) ?_
      refine Eq.trans (li_aload_n d209_55 (by rfl)) ?_
      refine Eq.trans (li_getr d209_56 fa_12_7 h0 rfl rfl rfl (by decide)) ?_
      refine Eq.trans (li_iconst d209_59 ic_1) ?_
      refine Eq.trans (li_iald d209_60 (sf_of h0 0 (by decide) (by decide))) ?_
      refine lt_gd_c (fun g4 => ?_)
      refine Eq.trans (li_imul d209_61) ?_
      refine Eq.trans (li_iadd d209_62) ?_
      refine Eq.trans (li_iconst d209_63 ic_1) ?_
      refine Eq.trans (li_iadd d209_64) ?_
      refine Eq.trans (li_iload_n d209_65 (by rfl)) ?_
      refine Eq.trans (li_iast d209_66 (sf_of h0 0 (by decide) (by decide))) ?_
      refine lt_gd_c (fun g5 => ?_)
      refine Eq.trans (li_aload_n d209_67 (by rfl)) ?_
      refine Eq.trans (li_getr d209_68 fa_12_7 h0 rfl rfl rfl (by decide)) ?_
      refine Eq.trans (li_iconst d209_71 ic_1) ?_
      refine Eq.trans (li_dup2 d209_72 rfl rfl) ?_
      refine Eq.trans (li_iald d209_73 (sf_of h0 0 (by decide) (by decide))) ?_
      refine lt_gd_c (fun g6 => ?_)
      refine Eq.trans (li_iconst d209_74 ic_1) ?_
      refine Eq.trans (li_iadd d209_75) ?_
      refine Eq.trans (li_iast d209_76 (sf_of h0 0 (by decide) (by decide))) ?_
      refine lt_gd_c (fun g7 => ?_)
      refine Eq.trans (li_aload_n d209_77 (by rfl)) ?_
      refine Eq.trans (li_getr d209_78 fa_12_7 h0 rfl rfl rfl (by decide)) ?_
      refine Eq.trans (li_iconst d209_81 ic_1) ?_
      refine Eq.trans (li_iald d209_82 (sf_of h0 0 (by decide) (by decide))) ?_
      refine lt_gd_c (fun g8 => ?_)
      refine Eq.trans (li_iconst d209_83 ic_1) ?_
      refine Eq.trans (li_isub d209_84) ?_
      exact li_iret d209_85 rfl
    · refine Eq.trans (li_bipush d209_26 bi_n2) ?_
      exact li_iret d209_28 rfl
  · refine Eq.trans (li_iconst d209_13 ic_n1) ?_
    exact li_iret d209_14 rfl
/-! TransitSealsModel.isSum(II)Z -/
theorem d210_0 : decode Y210.2.1 0 = .ok (.iload_n 0, 1) := by decide +kernel
theorem d210_1 : decode Y210.2.1 1 = .ok (.i2l, 1) := by decide +kernel
theorem d210_2 : decode Y210.2.1 2 = .ok (.lconst 0, 1) := by decide +kernel
theorem d210_3 : decode Y210.2.1 3 = .ok (.ldc2_w 227, 3) := by decide +kernel
theorem d210_6 : decode Y210.2.1 6 = .ok (.invokestatic 76, 3) := by decide +kernel
theorem d210_9 : decode Y210.2.1 9 = .ok (.ifCond .eq 19, 3) := by decide +kernel
theorem d210_12 : decode Y210.2.1 12 = .ok (.iload_n 1, 1) := by decide +kernel
theorem d210_13 : decode Y210.2.1 13 = .ok (.i2l, 1) := by decide +kernel
theorem d210_14 : decode Y210.2.1 14 = .ok (.lconst 0, 1) := by decide +kernel
theorem d210_15 : decode Y210.2.1 15 = .ok (.ldc2_w 229, 3) := by decide +kernel
theorem d210_18 : decode Y210.2.1 18 = .ok (.invokestatic 76, 3) := by decide +kernel
theorem d210_21 : decode Y210.2.1 21 = .ok (.ifCond .eq 7, 3) := by decide +kernel
theorem d210_24 : decode Y210.2.1 24 = .ok (.iconst 1, 1) := by decide +kernel
theorem d210_25 : decode Y210.2.1 25 = .ok (.goto 4, 3) := by decide +kernel
theorem d210_28 : decode Y210.2.1 28 = .ok (.iconst 0, 1) := by decide +kernel
theorem d210_29 : decode Y210.2.1 29 = .ok (.ireturn, 1) := by decide +kernel
theorem E210 (d : Nat) (x0 : Int32) (x1 : Int32)  (m : lt_m) : lt_ev (d + 1) 210 [.inl x0, .inl x1] m = lt_cI (lt_ev d 181 [.inr (.inl ((x0).toInt64)), .inr (.inl (0 : Int64)), .inr (.inl (999999 : Int64))] m) (fun v1 m1 => (if v1 = 0 then (some (some (.inl (0 : Int32)), m1)) else (lt_cI (lt_ev d 181 [.inr (.inl ((x1).toInt64)), .inr (.inl (0 : Int64)), .inr (.inl (3 : Int64))] m1) (fun v2 m2 => (if v2 = 0 then (some (some (.inl (0 : Int32)), m2)) else (some (some (.inl (1 : Int32)), m2))))))) := by
  refine Eq.trans (lt_enter2 (ls := [some (.inl x0), some (.inl x1)]) hY210 (Nat.le_of_ble_eq_true rfl) (by rfl)) ?_
  refine Eq.trans (li_iload_n d210_0 (by rfl)) ?_
  refine Eq.trans (li_i2l d210_1) ?_
  refine Eq.trans (li_lconst (v := 0) d210_2 (by decide)) ?_
  refine Eq.trans (li_ldc2_w d210_3 cJ_12_227) ?_
  refine Eq.trans (li_isI d210_6 bi_12_76 ca_12_76 kd_181 (by rfl) (by rfl) (Nat.le_of_ble_eq_true rfl) (Nat.le_of_ble_eq_true rfl)) ?_
  refine lt_cI_c (fun v1 m1 => ?_)
  refine Eq.trans (li_if_eq (t := 28) d210_9 (by rfl)) ?_
  refine lt_ite (fun c1 => ?_) (fun c1 => ?_)
  · refine Eq.trans (li_iconst d210_28 ic_0) ?_
    exact li_zret d210_29 rfl (by decide)
  · refine Eq.trans (li_iload_n d210_12 (by rfl)) ?_
    refine Eq.trans (li_i2l d210_13) ?_
    refine Eq.trans (li_lconst (v := 0) d210_14 (by decide)) ?_
    refine Eq.trans (li_ldc2_w d210_15 cJ_12_229) ?_
    refine Eq.trans (li_isI d210_18 bi_12_76 ca_12_76 kd_181 (by rfl) (by rfl) (Nat.le_of_ble_eq_true rfl) (Nat.le_of_ble_eq_true rfl)) ?_
    refine lt_cI_c (fun v2 m2 => ?_)
    refine Eq.trans (li_if_eq (t := 28) d210_21 (by rfl)) ?_
    refine lt_ite (fun c2 => ?_) (fun c2 => ?_)
    · refine Eq.trans (li_iconst d210_28 ic_0) ?_
      exact li_zret d210_29 rfl (by decide)
    · refine Eq.trans (li_iconst d210_24 ic_1) ?_
      refine Eq.trans (li_goto (t := 29) d210_25 (by rfl)) ?_
      exact li_zret d210_29 rfl (by decide)
/-! TransitSealsModel.does()V -/
theorem d211_0 : decode Y211.2.1 0 = .ok (.aload_n 0, 1) := by decide +kernel
theorem d211_1 : decode Y211.2.1 1 = .ok (.getfield 91, 3) := by decide +kernel
theorem d211_4 : decode Y211.2.1 4 = .ok (.bipush 8, 2) := by decide +kernel
theorem d211_6 : decode Y211.2.1 6 = .ok (.if_icmp .ne 46, 3) := by decide +kernel
theorem d211_9 : decode Y211.2.1 9 = .ok (.sipush 626, 3) := by decide +kernel
theorem d211_12 : decode Y211.2.1 12 = .ok (.istore_n 1, 1) := by decide +kernel
theorem d211_13 : decode Y211.2.1 13 = .ok (.iload_n 1, 1) := by decide +kernel
theorem d211_14 : decode Y211.2.1 14 = .ok (.sipush 5008, 3) := by decide +kernel
theorem d211_17 : decode Y211.2.1 17 = .ok (.if_icmp .ge 25, 3) := by decide +kernel
theorem d211_20 : decode Y211.2.1 20 = .ok (.aload_n 0, 1) := by decide +kernel
theorem d211_21 : decode Y211.2.1 21 = .ok (.getfield 16, 3) := by decide +kernel
theorem d211_24 : decode Y211.2.1 24 = .ok (.iload_n 1, 1) := by decide +kernel
theorem d211_25 : decode Y211.2.1 25 = .ok (.sipush 626, 3) := by decide +kernel
theorem d211_28 : decode Y211.2.1 28 = .ok (.isub, 1) := by decide +kernel
theorem d211_29 : decode Y211.2.1 29 = .ok (.aload_n 0, 1) := by decide +kernel
theorem d211_30 : decode Y211.2.1 30 = .ok (.getfield 16, 3) := by decide +kernel
theorem d211_33 : decode Y211.2.1 33 = .ok (.iload_n 1, 1) := by decide +kernel
theorem d211_34 : decode Y211.2.1 34 = .ok (.iaload, 1) := by decide +kernel
theorem d211_35 : decode Y211.2.1 35 = .ok (.iastore, 1) := by decide +kernel
theorem d211_36 : decode Y211.2.1 36 = .ok (.iinc 1 1, 3) := by decide +kernel
theorem d211_39 : decode Y211.2.1 39 = .ok (.goto (-26), 3) := by decide +kernel
theorem d211_42 : decode Y211.2.1 42 = .ok (.aload_n 0, 1) := by decide +kernel
theorem d211_43 : decode Y211.2.1 43 = .ok (.dup, 1) := by decide +kernel
theorem d211_44 : decode Y211.2.1 44 = .ok (.getfield 91, 3) := by decide +kernel
theorem d211_47 : decode Y211.2.1 47 = .ok (.iconst 1, 1) := by decide +kernel
theorem d211_48 : decode Y211.2.1 48 = .ok (.isub, 1) := by decide +kernel
theorem d211_49 : decode Y211.2.1 49 = .ok (.putfield 91, 3) := by decide +kernel
theorem d211_52 : decode Y211.2.1 52 = .ok (.iconst 0, 1) := by decide +kernel
theorem d211_53 : decode Y211.2.1 53 = .ok (.istore_n 1, 1) := by decide +kernel
theorem d211_54 : decode Y211.2.1 54 = .ok (.iload_n 1, 1) := by decide +kernel
theorem d211_55 : decode Y211.2.1 55 = .ok (.sipush 626, 3) := by decide +kernel
theorem d211_58 : decode Y211.2.1 58 = .ok (.if_icmp .ge 30, 3) := by decide +kernel
theorem d211_61 : decode Y211.2.1 61 = .ok (.aload_n 0, 1) := by decide +kernel
theorem d211_62 : decode Y211.2.1 62 = .ok (.getfield 16, 3) := by decide +kernel
theorem d211_65 : decode Y211.2.1 65 = .ok (.sipush 626, 3) := by decide +kernel
theorem d211_68 : decode Y211.2.1 68 = .ok (.aload_n 0, 1) := by decide +kernel
theorem d211_69 : decode Y211.2.1 69 = .ok (.getfield 91, 3) := by decide +kernel
theorem d211_72 : decode Y211.2.1 72 = .ok (.imul, 1) := by decide +kernel
theorem d211_73 : decode Y211.2.1 73 = .ok (.iload_n 1, 1) := by decide +kernel
theorem d211_74 : decode Y211.2.1 74 = .ok (.iadd, 1) := by decide +kernel
theorem d211_75 : decode Y211.2.1 75 = .ok (.aload_n 0, 1) := by decide +kernel
theorem d211_76 : decode Y211.2.1 76 = .ok (.getfield 7, 3) := by decide +kernel
theorem d211_79 : decode Y211.2.1 79 = .ok (.iload_n 1, 1) := by decide +kernel
theorem d211_80 : decode Y211.2.1 80 = .ok (.iaload, 1) := by decide +kernel
theorem d211_81 : decode Y211.2.1 81 = .ok (.iastore, 1) := by decide +kernel
theorem d211_82 : decode Y211.2.1 82 = .ok (.iinc 1 1, 3) := by decide +kernel
theorem d211_85 : decode Y211.2.1 85 = .ok (.goto (-31), 3) := by decide +kernel
theorem d211_88 : decode Y211.2.1 88 = .ok (.aload_n 0, 1) := by decide +kernel
theorem d211_89 : decode Y211.2.1 89 = .ok (.dup, 1) := by decide +kernel
theorem d211_90 : decode Y211.2.1 90 = .ok (.getfield 91, 3) := by decide +kernel
theorem d211_93 : decode Y211.2.1 93 = .ok (.iconst 1, 1) := by decide +kernel
theorem d211_94 : decode Y211.2.1 94 = .ok (.iadd, 1) := by decide +kernel
theorem d211_95 : decode Y211.2.1 95 = .ok (.putfield 91, 3) := by decide +kernel
theorem d211_98 : decode Y211.2.1 98 = .ok (.return_, 1) := by decide +kernel
noncomputable def L211_13 (d : Nat) (a0 : Nat) (x1 : Int32) (m : lt_m) : Option lt_r := lt_run d Y211 13 [some (.inr (.inr (some a0))), some (.inl x1)] [] m
noncomputable def L211_54 (d : Nat) (a0 : Nat) (x1 : Int32) (m : lt_m) : Option lt_r := lt_run d Y211 54 [some (.inr (.inr (some a0))), some (.inl x1)] [] m
theorem E211 (d : Nat) (a0 : Nat) (h0 : ts_sh a0 = (0, 12)) (m : lt_m) : lt_ev (d + 1) 211 [.inr (.inr (some a0))] m = if ¬ (m.1 a0 4) = (8 : Int32) then (L211_54 d a0 (0 : Int32) m) else (L211_13 d a0 (626 : Int32) m) := by
  refine Eq.trans (lt_enter2 (ls := [some (.inr (.inr (some a0))), none]) hY211 (Nat.le_of_ble_eq_true rfl) (by rfl)) ?_
  refine Eq.trans (li_aload_n d211_0 (by rfl)) ?_
  refine Eq.trans (li_geti d211_1 fa_12_91 h0 rfl) ?_
  refine Eq.trans (li_bipush d211_4 bi_8) ?_
  refine Eq.trans (li_icmp_ne (t := 52) d211_6 (by rfl)) ?_
  refine lt_ite (fun c1 => ?_) (fun c1 => ?_)
  · refine Eq.trans (li_iconst d211_52 ic_0) ?_
    refine Eq.trans (li_istore_n (ls' := [some (.inr (.inr (some a0))), some (.inl (0 : Int32))]) d211_53 (by decide) (by rfl)) ?_
    rfl
  · refine Eq.trans (li_sipush d211_9 si_626) ?_
    refine Eq.trans (li_istore_n (ls' := [some (.inr (.inr (some a0))), some (.inl (626 : Int32))]) d211_12 (by decide) (by rfl)) ?_
    rfl
theorem E211_13 (d : Nat) (a0 : Nat) (x1 : Int32) (h0 : ts_sh a0 = (0, 12)) (m : lt_m) : L211_13 d a0 x1 m = if (5008 : Int32) ≤ x1 then (L211_54 d a0 (0 : Int32) (lm_i m a0 4 ((m.1 a0 4) - (1 : Int32)))) else (lt_gd (0 ≤ x1 ∧ (x1).toNatClampNeg < 5008) (lt_gd (0 ≤ (x1 - (626 : Int32)) ∧ ((x1 - (626 : Int32))).toNatClampNeg < 5008) (L211_13 d a0 (x1 + (1 : Int32)) (lm_i m (a0 + 3) ((x1 - (626 : Int32))).toNatClampNeg (m.1 (a0 + 3) (x1).toNatClampNeg))))) := by
  show lt_run d Y211 13 [some (.inr (.inr (some a0))), some (.inl x1)] [] m = _
  refine Eq.trans (li_iload_n d211_13 (by rfl)) ?_
  refine Eq.trans (li_sipush d211_14 si_5008) ?_
  refine Eq.trans (li_icmp_ge (t := 42) d211_17 (by rfl)) ?_
  refine lt_ite (fun c1 => ?_) (fun c1 => ?_)
  · refine Eq.trans (li_aload_n d211_42 (by rfl)) ?_
    refine Eq.trans (li_dup d211_43 rfl) ?_
    refine Eq.trans (li_geti d211_44 fa_12_91 h0 rfl) ?_
    refine Eq.trans (li_iconst d211_47 ic_1) ?_
    refine Eq.trans (li_isub d211_48) ?_
    refine Eq.trans (li_puti d211_49 fa_12_91 h0 rfl rfl) ?_
    refine Eq.trans (li_iconst d211_52 ic_0) ?_
    refine Eq.trans (li_istore_n (ls' := [some (.inr (.inr (some a0))), some (.inl (0 : Int32))]) d211_53 (by decide) (by rfl)) ?_
    rfl
  · refine Eq.trans (li_aload_n d211_20 (by rfl)) ?_
    refine Eq.trans (li_getr d211_21 fa_12_16 h0 rfl rfl rfl (by decide)) ?_
    refine Eq.trans (li_iload_n d211_24 (by rfl)) ?_
    refine Eq.trans (li_sipush d211_25 si_626) ?_
    refine Eq.trans (li_isub d211_28) ?_
    refine Eq.trans (li_aload_n d211_29 (by rfl)) ?_
    refine Eq.trans (li_getr d211_30 fa_12_16 h0 rfl rfl rfl (by decide)) ?_
    refine Eq.trans (li_iload_n d211_33 (by rfl)) ?_
    refine Eq.trans (li_iald d211_34 (sf_of h0 3 (by decide) (by decide))) ?_
    refine lt_gd_c (fun g1 => ?_)
    refine Eq.trans (li_iast d211_35 (sf_of h0 3 (by decide) (by decide))) ?_
    refine lt_gd_c (fun g2 => ?_)
    refine Eq.trans (li_iinc (ls' := [some (.inr (.inr (some a0))), some (.inl (x1 + (1 : Int32)))]) d211_36 (by rfl) (by decide) ic_1 (by rfl)) ?_
    refine Eq.trans (li_goto (t := 13) d211_39 (by rfl)) ?_
    rfl
theorem E211_54 (d : Nat) (a0 : Nat) (x1 : Int32) (h0 : ts_sh a0 = (0, 12)) (m : lt_m) : L211_54 d a0 x1 m = if (626 : Int32) ≤ x1 then (some (none, (lm_i m a0 4 ((m.1 a0 4) + (1 : Int32))))) else (lt_gd (0 ≤ x1 ∧ (x1).toNatClampNeg < 626) (lt_gd (0 ≤ (((626 : Int32) * (m.1 a0 4)) + x1) ∧ ((((626 : Int32) * (m.1 a0 4)) + x1)).toNatClampNeg < 5008) (L211_54 d a0 (x1 + (1 : Int32)) (lm_i m (a0 + 3) ((((626 : Int32) * (m.1 a0 4)) + x1)).toNatClampNeg (m.1 (a0 + 1) (x1).toNatClampNeg))))) := by
  show lt_run d Y211 54 [some (.inr (.inr (some a0))), some (.inl x1)] [] m = _
  refine Eq.trans (li_iload_n d211_54 (by rfl)) ?_
  refine Eq.trans (li_sipush d211_55 si_626) ?_
  refine Eq.trans (li_icmp_ge (t := 88) d211_58 (by rfl)) ?_
  refine lt_ite (fun c1 => ?_) (fun c1 => ?_)
  · refine Eq.trans (li_aload_n d211_88 (by rfl)) ?_
    refine Eq.trans (li_dup d211_89 rfl) ?_
    refine Eq.trans (li_geti d211_90 fa_12_91 h0 rfl) ?_
    refine Eq.trans (li_iconst d211_93 ic_1) ?_
    refine Eq.trans (li_iadd d211_94) ?_
    refine Eq.trans (li_puti d211_95 fa_12_91 h0 rfl rfl) ?_
    exact li_vret d211_98 rfl
  · refine Eq.trans (li_aload_n d211_61 (by rfl)) ?_
    refine Eq.trans (li_getr d211_62 fa_12_16 h0 rfl rfl rfl (by decide)) ?_
    refine Eq.trans (li_sipush d211_65 si_626) ?_
    refine Eq.trans (li_aload_n d211_68 (by rfl)) ?_
    refine Eq.trans (li_geti d211_69 fa_12_91 h0 rfl) ?_
    refine Eq.trans (li_imul d211_72) ?_
    refine Eq.trans (li_iload_n d211_73 (by rfl)) ?_
    refine Eq.trans (li_iadd d211_74) ?_
    refine Eq.trans (li_aload_n d211_75 (by rfl)) ?_
    refine Eq.trans (li_getr d211_76 fa_12_7 h0 rfl rfl rfl (by decide)) ?_
    refine Eq.trans (li_iload_n d211_79 (by rfl)) ?_
    refine Eq.trans (li_iald d211_80 (sf_of h0 0 (by decide) (by decide))) ?_
    refine lt_gd_c (fun g1 => ?_)
    refine Eq.trans (li_iast d211_81 (sf_of h0 3 (by decide) (by decide))) ?_
    refine lt_gd_c (fun g2 => ?_)
    refine Eq.trans (li_iinc (ls' := [some (.inr (.inr (some a0))), some (.inl (x1 + (1 : Int32)))]) d211_82 (by rfl) (by decide) ic_1 (by rfl)) ?_
    refine Eq.trans (li_goto (t := 54) d211_85 (by rfl)) ?_
    rfl
/-! TransitSealsModel.sums(III)I -/
theorem d212_0 : decode Y212.2.1 0 = .ok (.aload_n 0, 1) := by decide +kernel
theorem d212_1 : decode Y212.2.1 1 = .ok (.iconst 0, 1) := by decide +kernel
theorem d212_2 : decode Y212.2.1 2 = .ok (.putfield 67, 3) := by decide +kernel
theorem d212_5 : decode Y212.2.1 5 = .ok (.aload_n 0, 1) := by decide +kernel
theorem d212_6 : decode Y212.2.1 6 = .ok (.iload_n 1, 1) := by decide +kernel
theorem d212_7 : decode Y212.2.1 7 = .ok (.invokevirtual 246, 3) := by decide +kernel
theorem d212_10 : decode Y212.2.1 10 = .ok (.ifCond .eq 11, 3) := by decide +kernel
theorem d212_13 : decode Y212.2.1 13 = .ok (.iload_n 2, 1) := by decide +kernel
theorem d212_14 : decode Y212.2.1 14 = .ok (.iload_n 3, 1) := by decide +kernel
theorem d212_15 : decode Y212.2.1 15 = .ok (.invokestatic 240, 3) := by decide +kernel
theorem d212_18 : decode Y212.2.1 18 = .ok (.ifCond .ne 5, 3) := by decide +kernel
theorem d212_21 : decode Y212.2.1 21 = .ok (.iconst (-1), 1) := by decide +kernel
theorem d212_22 : decode Y212.2.1 22 = .ok (.ireturn, 1) := by decide +kernel
theorem d212_23 : decode Y212.2.1 23 = .ok (.aload_n 0, 1) := by decide +kernel
theorem d212_24 : decode Y212.2.1 24 = .ok (.iload_n 1, 1) := by decide +kernel
theorem d212_25 : decode Y212.2.1 25 = .ok (.invokevirtual 237, 3) := by decide +kernel
theorem d212_28 : decode Y212.2.1 28 = .ok (.iload_n 2, 1) := by decide +kernel
theorem d212_29 : decode Y212.2.1 29 = .ok (.if_icmp .le 6, 3) := by decide +kernel
theorem d212_32 : decode Y212.2.1 32 = .ok (.bipush (-2), 2) := by decide +kernel
theorem d212_34 : decode Y212.2.1 34 = .ok (.ireturn, 1) := by decide +kernel
theorem d212_35 : decode Y212.2.1 35 = .ok (.aload_n 0, 1) := by decide +kernel
theorem d212_36 : decode Y212.2.1 36 = .ok (.invokevirtual 243, 3) := by decide +kernel
theorem d212_39 : decode Y212.2.1 39 = .ok (.aload_n 0, 1) := by decide +kernel
theorem d212_40 : decode Y212.2.1 40 = .ok (.getfield 7, 3) := by decide +kernel
theorem d212_43 : decode Y212.2.1 43 = .ok (.iconst 4, 1) := by decide +kernel
theorem d212_44 : decode Y212.2.1 44 = .ok (.iconst 2, 1) := by decide +kernel
theorem d212_45 : decode Y212.2.1 45 = .ok (.iload_n 1, 1) := by decide +kernel
theorem d212_46 : decode Y212.2.1 46 = .ok (.imul, 1) := by decide +kernel
theorem d212_47 : decode Y212.2.1 47 = .ok (.iadd, 1) := by decide +kernel
theorem d212_48 : decode Y212.2.1 48 = .ok (.iload_n 2, 1) := by decide +kernel
theorem d212_49 : decode Y212.2.1 49 = .ok (.iastore, 1) := by decide +kernel
theorem d212_50 : decode Y212.2.1 50 = .ok (.aload_n 0, 1) := by decide +kernel
theorem d212_51 : decode Y212.2.1 51 = .ok (.getfield 7, 3) := by decide +kernel
theorem d212_54 : decode Y212.2.1 54 = .ok (.iconst 4, 1) := by decide +kernel
theorem d212_55 : decode Y212.2.1 55 = .ok (.iconst 2, 1) := by decide +kernel
theorem d212_56 : decode Y212.2.1 56 = .ok (.iload_n 1, 1) := by decide +kernel
theorem d212_57 : decode Y212.2.1 57 = .ok (.imul, 1) := by decide +kernel
theorem d212_58 : decode Y212.2.1 58 = .ok (.iadd, 1) := by decide +kernel
theorem d212_59 : decode Y212.2.1 59 = .ok (.iconst 1, 1) := by decide +kernel
theorem d212_60 : decode Y212.2.1 60 = .ok (.iadd, 1) := by decide +kernel
theorem d212_61 : decode Y212.2.1 61 = .ok (.iload_n 3, 1) := by decide +kernel
theorem d212_62 : decode Y212.2.1 62 = .ok (.iastore, 1) := by decide +kernel
theorem d212_63 : decode Y212.2.1 63 = .ok (.aload_n 0, 1) := by decide +kernel
theorem d212_64 : decode Y212.2.1 64 = .ok (.iload_n 1, 1) := by decide +kernel
theorem d212_65 : decode Y212.2.1 65 = .ok (.invokevirtual 237, 3) := by decide +kernel
theorem d212_68 : decode Y212.2.1 68 = .ok (.ireturn, 1) := by decide +kernel
theorem E212 (d : Nat) (a0 : Nat) (x1 : Int32) (x2 : Int32) (x3 : Int32) (h0 : ts_sh a0 = (0, 12)) (m : lt_m) : lt_ev (d + 1) 212 [.inr (.inr (some a0)), .inl x1, .inl x2, .inl x3] m = lt_cI (lt_ev d 213 [.inr (.inr (some a0)), .inl x1] (lm_i m a0 15 (0 : Int32))) (fun v1 m1 => (if v1 = 0 then (some (some (.inl (-1 : Int32)), m1)) else (lt_cI (lt_ev d 210 [.inl x2, .inl x3] m1) (fun v2 m2 => (if ¬ v2 = 0 then (lt_cI (lt_ev d 214 [.inr (.inr (some a0)), .inl x1] m2) (fun v3 m3 => (if v3 ≤ x2 then (lt_cV (lt_ev d 211 [.inr (.inr (some a0))] m3) (fun m4 => (lt_gd (0 ≤ ((4 : Int32) + ((2 : Int32) * x1)) ∧ (((4 : Int32) + ((2 : Int32) * x1))).toNatClampNeg < 626) (lt_gd (0 ≤ (((4 : Int32) + ((2 : Int32) * x1)) + (1 : Int32)) ∧ ((((4 : Int32) + ((2 : Int32) * x1)) + (1 : Int32))).toNatClampNeg < 626) (lt_cI (lt_ev d 214 [.inr (.inr (some a0)), .inl x1] (lm_i (lm_i m4 (a0 + 1) (((4 : Int32) + ((2 : Int32) * x1))).toNatClampNeg x2) (a0 + 1) ((((4 : Int32) + ((2 : Int32) * x1)) + (1 : Int32))).toNatClampNeg x3)) (fun v4 m5 => (some (some (.inl v4), m5)))))))) else (some (some (.inl (-2 : Int32)), m3))))) else (some (some (.inl (-1 : Int32)), m2))))))) := by
  refine Eq.trans (lt_enter2 (ls := [some (.inr (.inr (some a0))), some (.inl x1), some (.inl x2), some (.inl x3)]) hY212 (Nat.le_of_ble_eq_true rfl) (by rfl)) ?_
  refine Eq.trans (li_aload_n d212_0 (by rfl)) ?_
  refine Eq.trans (li_iconst d212_1 ic_0) ?_
  refine Eq.trans (li_puti d212_2 fa_12_67 h0 rfl rfl) ?_
  refine Eq.trans (li_aload_n d212_5 (by rfl)) ?_
  refine Eq.trans (li_iload_n d212_6 (by rfl)) ?_
  refine Eq.trans (li_ivI d212_7 ca_12_246 kd_213 kl_213 (by rfl) (by rfl) h0 (Nat.le_of_ble_eq_true rfl) (Nat.le_of_ble_eq_true rfl)) ?_
  refine lt_cI_c (fun v1 m1 => ?_)
  refine Eq.trans (li_if_eq (t := 21) d212_10 (by rfl)) ?_
  refine lt_ite (fun c1 => ?_) (fun c1 => ?_)
  · refine Eq.trans (li_iconst d212_21 ic_n1) ?_
    exact li_iret d212_22 rfl
  · refine Eq.trans (li_iload_n d212_13 (by rfl)) ?_
    refine Eq.trans (li_iload_n d212_14 (by rfl)) ?_
    refine Eq.trans (li_isI d212_15 bi_12_240 ca_12_240 kd_210 (by rfl) (by rfl) (Nat.le_of_ble_eq_true rfl) (Nat.le_of_ble_eq_true rfl)) ?_
    refine lt_cI_c (fun v2 m2 => ?_)
    refine Eq.trans (li_if_ne (t := 23) d212_18 (by rfl)) ?_
    refine lt_ite (fun c2 => ?_) (fun c2 => ?_)
    · refine Eq.trans (li_aload_n d212_23 (by rfl)) ?_
      refine Eq.trans (li_iload_n d212_24 (by rfl)) ?_
      refine Eq.trans (li_ivI d212_25 ca_12_237 kd_214 kl_214 (by rfl) (by rfl) h0 (Nat.le_of_ble_eq_true rfl) (Nat.le_of_ble_eq_true rfl)) ?_
      refine lt_cI_c (fun v3 m3 => ?_)
      refine Eq.trans (li_iload_n d212_28 (by rfl)) ?_
      refine Eq.trans (li_icmp_le (t := 35) d212_29 (by rfl)) ?_
      refine lt_ite (fun c3 => ?_) (fun c3 => ?_)
      · refine Eq.trans (li_aload_n d212_35 (by rfl)) ?_
        refine Eq.trans (li_ivV d212_36 ca_12_243 kd_211 kl_211 (by rfl) (by rfl) h0 (Nat.le_of_ble_eq_true rfl) (Nat.le_of_ble_eq_true rfl)) ?_
        refine lt_cV_c (fun m4 => ?_)
        refine Eq.trans (li_aload_n d212_39 (by rfl)) ?_
        refine Eq.trans (li_getr d212_40 fa_12_7 h0 rfl rfl rfl (by decide)) ?_
        refine Eq.trans (li_iconst d212_43 ic_4) ?_
        refine Eq.trans (li_iconst d212_44 ic_2) ?_
        refine Eq.trans (li_iload_n d212_45 (by rfl)) ?_
        refine Eq.trans (li_imul d212_46) ?_
        refine Eq.trans (li_iadd d212_47) ?_
        refine Eq.trans (li_iload_n d212_48 (by rfl)) ?_
        refine Eq.trans (li_iast d212_49 (sf_of h0 0 (by decide) (by decide))) ?_
        refine lt_gd_c (fun g1 => ?_)
        refine Eq.trans (li_aload_n d212_50 (by rfl)) ?_
        refine Eq.trans (li_getr d212_51 fa_12_7 h0 rfl rfl rfl (by decide)) ?_
        refine Eq.trans (li_iconst d212_54 ic_4) ?_
        refine Eq.trans (li_iconst d212_55 ic_2) ?_
        refine Eq.trans (li_iload_n d212_56 (by rfl)) ?_
        refine Eq.trans (li_imul d212_57) ?_
        refine Eq.trans (li_iadd d212_58) ?_
        refine Eq.trans (li_iconst d212_59 ic_1) ?_
        refine Eq.trans (li_iadd d212_60) ?_
        refine Eq.trans (li_iload_n d212_61 (by rfl)) ?_
        refine Eq.trans (li_iast d212_62 (sf_of h0 0 (by decide) (by decide))) ?_
        refine lt_gd_c (fun g2 => ?_)
        refine Eq.trans (li_aload_n d212_63 (by rfl)) ?_
        refine Eq.trans (li_iload_n d212_64 (by rfl)) ?_
        refine Eq.trans (li_ivI d212_65 ca_12_237 kd_214 kl_214 (by rfl) (by rfl) h0 (Nat.le_of_ble_eq_true rfl) (Nat.le_of_ble_eq_true rfl)) ?_
        refine lt_cI_c (fun v4 m5 => ?_)
        exact li_iret d212_68 rfl
      · refine Eq.trans (li_bipush d212_32 bi_n2) ?_
        exact li_iret d212_34 rfl
    · refine Eq.trans (li_iconst d212_21 ic_n1) ?_
      exact li_iret d212_22 rfl
/-! TransitSealsModel.isTrader(I)Z -/
theorem d213_0 : decode Y213.2.1 0 = .ok (.iload_n 1, 1) := by decide +kernel
theorem d213_1 : decode Y213.2.1 1 = .ok (.i2l, 1) := by decide +kernel
theorem d213_2 : decode Y213.2.1 2 = .ok (.lconst 0, 1) := by decide +kernel
theorem d213_3 : decode Y213.2.1 3 = .ok (.aload_n 0, 1) := by decide +kernel
theorem d213_4 : decode Y213.2.1 4 = .ok (.getfield 7, 3) := by decide +kernel
theorem d213_7 : decode Y213.2.1 7 = .ok (.iconst 1, 1) := by decide +kernel
theorem d213_8 : decode Y213.2.1 8 = .ok (.iaload, 1) := by decide +kernel
theorem d213_9 : decode Y213.2.1 9 = .ok (.iconst 1, 1) := by decide +kernel
theorem d213_10 : decode Y213.2.1 10 = .ok (.isub, 1) := by decide +kernel
theorem d213_11 : decode Y213.2.1 11 = .ok (.i2l, 1) := by decide +kernel
theorem d213_12 : decode Y213.2.1 12 = .ok (.invokestatic 76, 3) := by decide +kernel
theorem d213_15 : decode Y213.2.1 15 = .ok (.ireturn, 1) := by decide +kernel
theorem E213 (d : Nat) (a0 : Nat) (x1 : Int32) (h0 : ts_sh a0 = (0, 12)) (m : lt_m) : lt_ev (d + 1) 213 [.inr (.inr (some a0)), .inl x1] m = lt_gd (0 ≤ (1 : Int32) ∧ ((1 : Int32)).toNatClampNeg < 626) (lt_cI (lt_ev d 181 [.inr (.inl ((x1).toInt64)), .inr (.inl (0 : Int64)), .inr (.inl ((((m.1 (a0 + 1) ((1 : Int32)).toNatClampNeg) - (1 : Int32))).toInt64))] m) (fun v1 m1 => (lt_gd (v1 = 0 ∨ v1 = 1) (some (some (.inl v1), m1))))) := by
  refine Eq.trans (lt_enter2 (ls := [some (.inr (.inr (some a0))), some (.inl x1)]) hY213 (Nat.le_of_ble_eq_true rfl) (by rfl)) ?_
  refine Eq.trans (li_iload_n d213_0 (by rfl)) ?_
  refine Eq.trans (li_i2l d213_1) ?_
  refine Eq.trans (li_lconst (v := 0) d213_2 (by decide)) ?_
  refine Eq.trans (li_aload_n d213_3 (by rfl)) ?_
  refine Eq.trans (li_getr d213_4 fa_12_7 h0 rfl rfl rfl (by decide)) ?_
  refine Eq.trans (li_iconst d213_7 ic_1) ?_
  refine Eq.trans (li_iald d213_8 (sf_of h0 0 (by decide) (by decide))) ?_
  refine lt_gd_c (fun g1 => ?_)
  refine Eq.trans (li_iconst d213_9 ic_1) ?_
  refine Eq.trans (li_isub d213_10) ?_
  refine Eq.trans (li_i2l d213_11) ?_
  refine Eq.trans (li_isI d213_12 bi_12_76 ca_12_76 kd_181 (by rfl) (by rfl) (Nat.le_of_ble_eq_true rfl) (Nat.le_of_ble_eq_true rfl)) ?_
  refine lt_cI_c (fun v1 m1 => ?_)
  exact li_zretg d213_15 rfl
/-! TransitSealsModel.used(I)I -/
theorem d214_0 : decode Y214.2.1 0 = .ok (.iconst 0, 1) := by decide +kernel
theorem d214_1 : decode Y214.2.1 1 = .ok (.istore_n 2, 1) := by decide +kernel
theorem d214_2 : decode Y214.2.1 2 = .ok (.iconst 0, 1) := by decide +kernel
theorem d214_3 : decode Y214.2.1 3 = .ok (.istore_n 3, 1) := by decide +kernel
theorem d214_4 : decode Y214.2.1 4 = .ok (.iload_n 3, 1) := by decide +kernel
theorem d214_5 : decode Y214.2.1 5 = .ok (.aload_n 0, 1) := by decide +kernel
theorem d214_6 : decode Y214.2.1 6 = .ok (.getfield 7, 3) := by decide +kernel
theorem d214_9 : decode Y214.2.1 9 = .ok (.iconst 2, 1) := by decide +kernel
theorem d214_10 : decode Y214.2.1 10 = .ok (.iaload, 1) := by decide +kernel
theorem d214_11 : decode Y214.2.1 11 = .ok (.if_icmp .ge 40, 3) := by decide +kernel
theorem d214_14 : decode Y214.2.1 14 = .ok (.iload_n 2, 1) := by decide +kernel
theorem d214_15 : decode Y214.2.1 15 = .ok (.aload_n 0, 1) := by decide +kernel
theorem d214_16 : decode Y214.2.1 16 = .ok (.iload_n 3, 1) := by decide +kernel
theorem d214_17 : decode Y214.2.1 17 = .ok (.iconst 0, 1) := by decide +kernel
theorem d214_18 : decode Y214.2.1 18 = .ok (.invokevirtual 83, 3) := by decide +kernel
theorem d214_21 : decode Y214.2.1 21 = .ok (.iload_n 1, 1) := by decide +kernel
theorem d214_22 : decode Y214.2.1 22 = .ok (.if_icmp .ne 20, 3) := by decide +kernel
theorem d214_25 : decode Y214.2.1 25 = .ok (.aload_n 0, 1) := by decide +kernel
theorem d214_26 : decode Y214.2.1 26 = .ok (.iload_n 3, 1) := by decide +kernel
theorem d214_27 : decode Y214.2.1 27 = .ok (.invokevirtual 231, 3) := by decide +kernel
theorem d214_30 : decode Y214.2.1 30 = .ok (.ifCond .eq 12, 3) := by decide +kernel
theorem d214_33 : decode Y214.2.1 33 = .ok (.aload_n 0, 1) := by decide +kernel
theorem d214_34 : decode Y214.2.1 34 = .ok (.iload_n 3, 1) := by decide +kernel
theorem d214_35 : decode Y214.2.1 35 = .ok (.iconst 4, 1) := by decide +kernel
theorem d214_36 : decode Y214.2.1 36 = .ok (.invokevirtual 83, 3) := by decide +kernel
theorem d214_39 : decode Y214.2.1 39 = .ok (.goto 4, 3) := by decide +kernel
theorem d214_42 : decode Y214.2.1 42 = .ok (.iconst 0, 1) := by decide +kernel
theorem d214_43 : decode Y214.2.1 43 = .ok (.iadd, 1) := by decide +kernel
theorem d214_44 : decode Y214.2.1 44 = .ok (.istore_n 2, 1) := by decide +kernel
theorem d214_45 : decode Y214.2.1 45 = .ok (.iinc 3 1, 3) := by decide +kernel
theorem d214_48 : decode Y214.2.1 48 = .ok (.goto (-44), 3) := by decide +kernel
theorem d214_51 : decode Y214.2.1 51 = .ok (.iload_n 2, 1) := by decide +kernel
theorem d214_52 : decode Y214.2.1 52 = .ok (.ireturn, 1) := by decide +kernel
noncomputable def L214_4 (d : Nat) (a0 : Nat) (x1 : Int32) (x2 : Int32) (x3 : Int32) (m : lt_m) : Option lt_r := lt_run d Y214 4 [some (.inr (.inr (some a0))), some (.inl x1), some (.inl x2), some (.inl x3)] [] m
theorem E214 (d : Nat) (a0 : Nat) (x1 : Int32) (h0 : ts_sh a0 = (0, 12)) (m : lt_m) : lt_ev (d + 1) 214 [.inr (.inr (some a0)), .inl x1] m = L214_4 d a0 x1 (0 : Int32) (0 : Int32) m := by
  refine Eq.trans (lt_enter2 (ls := [some (.inr (.inr (some a0))), some (.inl x1), none, none]) hY214 (Nat.le_of_ble_eq_true rfl) (by rfl)) ?_
  refine Eq.trans (li_iconst d214_0 ic_0) ?_
  refine Eq.trans (li_istore_n (ls' := [some (.inr (.inr (some a0))), some (.inl x1), some (.inl (0 : Int32)), none]) d214_1 (by decide) (by rfl)) ?_
  refine Eq.trans (li_iconst d214_2 ic_0) ?_
  refine Eq.trans (li_istore_n (ls' := [some (.inr (.inr (some a0))), some (.inl x1), some (.inl (0 : Int32)), some (.inl (0 : Int32))]) d214_3 (by decide) (by rfl)) ?_
  rfl
theorem E214_4 (d : Nat) (a0 : Nat) (x1 : Int32) (x2 : Int32) (x3 : Int32) (h0 : ts_sh a0 = (0, 12)) (m : lt_m) : L214_4 d a0 x1 x2 x3 m = lt_gd (0 ≤ (2 : Int32) ∧ ((2 : Int32)).toNatClampNeg < 626) (if (m.1 (a0 + 1) ((2 : Int32)).toNatClampNeg) ≤ x3 then (some (some (.inl x2), m)) else (lt_cI (lt_ev d 198 [.inr (.inr (some a0)), .inl x3, .inl (0 : Int32)] m) (fun v1 m1 => (if ¬ v1 = x1 then (L214_4 d a0 x1 (x2 + (0 : Int32)) (x3 + (1 : Int32)) m1) else (lt_cI (lt_ev d 215 [.inr (.inr (some a0)), .inl x3] m1) (fun v2 m2 => (if v2 = 0 then (L214_4 d a0 x1 (x2 + (0 : Int32)) (x3 + (1 : Int32)) m2) else (lt_cI (lt_ev d 198 [.inr (.inr (some a0)), .inl x3, .inl (4 : Int32)] m2) (fun v3 m3 => (L214_4 d a0 x1 (x2 + v3) (x3 + (1 : Int32)) m3)))))))))) := by
  show lt_run d Y214 4 [some (.inr (.inr (some a0))), some (.inl x1), some (.inl x2), some (.inl x3)] [] m = _
  refine Eq.trans (li_iload_n d214_4 (by rfl)) ?_
  refine Eq.trans (li_aload_n d214_5 (by rfl)) ?_
  refine Eq.trans (li_getr d214_6 fa_12_7 h0 rfl rfl rfl (by decide)) ?_
  refine Eq.trans (li_iconst d214_9 ic_2) ?_
  refine Eq.trans (li_iald d214_10 (sf_of h0 0 (by decide) (by decide))) ?_
  refine lt_gd_c (fun g1 => ?_)
  refine Eq.trans (li_icmp_ge (t := 51) d214_11 (by rfl)) ?_
  refine lt_ite (fun c1 => ?_) (fun c1 => ?_)
  · refine Eq.trans (li_iload_n d214_51 (by rfl)) ?_
    exact li_iret d214_52 rfl
  · refine Eq.trans (li_iload_n d214_14 (by rfl)) ?_
    refine Eq.trans (li_aload_n d214_15 (by rfl)) ?_
    refine Eq.trans (li_iload_n d214_16 (by rfl)) ?_
    refine Eq.trans (li_iconst d214_17 ic_0) ?_
    refine Eq.trans (li_ivI d214_18 ca_12_83 kd_198 kl_198 (by rfl) (by rfl) h0 (Nat.le_of_ble_eq_true rfl) (Nat.le_of_ble_eq_true rfl)) ?_
    refine lt_cI_c (fun v1 m1 => ?_)
    refine Eq.trans (li_iload_n d214_21 (by rfl)) ?_
    refine Eq.trans (li_icmp_ne (t := 42) d214_22 (by rfl)) ?_
    refine lt_ite (fun c2 => ?_) (fun c2 => ?_)
    · refine Eq.trans (li_iconst d214_42 ic_0) ?_
      refine Eq.trans (li_iadd d214_43) ?_
      refine Eq.trans (li_istore_n (ls' := [some (.inr (.inr (some a0))), some (.inl x1), some (.inl (x2 + (0 : Int32))), some (.inl x3)]) d214_44 (by decide) (by rfl)) ?_
      refine Eq.trans (li_iinc (ls' := [some (.inr (.inr (some a0))), some (.inl x1), some (.inl (x2 + (0 : Int32))), some (.inl (x3 + (1 : Int32)))]) d214_45 (by rfl) (by decide) ic_1 (by rfl)) ?_
      refine Eq.trans (li_goto (t := 4) d214_48 (by rfl)) ?_
      rfl
    · refine Eq.trans (li_aload_n d214_25 (by rfl)) ?_
      refine Eq.trans (li_iload_n d214_26 (by rfl)) ?_
      refine Eq.trans (li_ivI d214_27 ca_12_231 kd_215 kl_215 (by rfl) (by rfl) h0 (Nat.le_of_ble_eq_true rfl) (Nat.le_of_ble_eq_true rfl)) ?_
      refine lt_cI_c (fun v2 m2 => ?_)
      refine Eq.trans (li_if_eq (t := 42) d214_30 (by rfl)) ?_
      refine lt_ite (fun c3 => ?_) (fun c3 => ?_)
      · refine Eq.trans (li_iconst d214_42 ic_0) ?_
        refine Eq.trans (li_iadd d214_43) ?_
        refine Eq.trans (li_istore_n (ls' := [some (.inr (.inr (some a0))), some (.inl x1), some (.inl (x2 + (0 : Int32))), some (.inl x3)]) d214_44 (by decide) (by rfl)) ?_
        refine Eq.trans (li_iinc (ls' := [some (.inr (.inr (some a0))), some (.inl x1), some (.inl (x2 + (0 : Int32))), some (.inl (x3 + (1 : Int32)))]) d214_45 (by rfl) (by decide) ic_1 (by rfl)) ?_
        refine Eq.trans (li_goto (t := 4) d214_48 (by rfl)) ?_
        rfl
      · refine Eq.trans (li_aload_n d214_33 (by rfl)) ?_
        refine Eq.trans (li_iload_n d214_34 (by rfl)) ?_
        refine Eq.trans (li_iconst d214_35 ic_4) ?_
        refine Eq.trans (li_ivI d214_36 ca_12_83 kd_198 kl_198 (by rfl) (by rfl) h0 (Nat.le_of_ble_eq_true rfl) (Nat.le_of_ble_eq_true rfl)) ?_
        refine lt_cI_c (fun v3 m3 => ?_)
        refine Eq.trans (li_goto (t := 43) d214_39 (by rfl)) ?_
        refine Eq.trans (li_iadd d214_43) ?_
        refine Eq.trans (li_istore_n (ls' := [some (.inr (.inr (some a0))), some (.inl x1), some (.inl (x2 + v3)), some (.inl x3)]) d214_44 (by decide) (by rfl)) ?_
        refine Eq.trans (li_iinc (ls' := [some (.inr (.inr (some a0))), some (.inl x1), some (.inl (x2 + v3)), some (.inl (x3 + (1 : Int32)))]) d214_45 (by rfl) (by decide) ic_1 (by rfl)) ?_
        refine Eq.trans (li_goto (t := 4) d214_48 (by rfl)) ?_
        rfl
/-! TransitSealsModel.isOpen(I)Z -/
theorem d215_0 : decode Y215.2.1 0 = .ok (.aload_n 0, 1) := by decide +kernel
theorem d215_1 : decode Y215.2.1 1 = .ok (.iload_n 1, 1) := by decide +kernel
theorem d215_2 : decode Y215.2.1 2 = .ok (.invokevirtual 87, 3) := by decide +kernel
theorem d215_5 : decode Y215.2.1 5 = .ok (.iconst 2, 1) := by decide +kernel
theorem d215_6 : decode Y215.2.1 6 = .ok (.if_icmp .eq 16, 3) := by decide +kernel
theorem d215_9 : decode Y215.2.1 9 = .ok (.aload_n 0, 1) := by decide +kernel
theorem d215_10 : decode Y215.2.1 10 = .ok (.iload_n 1, 1) := by decide +kernel
theorem d215_11 : decode Y215.2.1 11 = .ok (.invokevirtual 87, 3) := by decide +kernel
theorem d215_14 : decode Y215.2.1 14 = .ok (.iconst 5, 1) := by decide +kernel
theorem d215_15 : decode Y215.2.1 15 = .ok (.if_icmp .eq 7, 3) := by decide +kernel
theorem d215_18 : decode Y215.2.1 18 = .ok (.iconst 1, 1) := by decide +kernel
theorem d215_19 : decode Y215.2.1 19 = .ok (.goto 4, 3) := by decide +kernel
theorem d215_22 : decode Y215.2.1 22 = .ok (.iconst 0, 1) := by decide +kernel
theorem d215_23 : decode Y215.2.1 23 = .ok (.ireturn, 1) := by decide +kernel
theorem E215 (d : Nat) (a0 : Nat) (x1 : Int32) (h0 : ts_sh a0 = (0, 12)) (m : lt_m) : lt_ev (d + 1) 215 [.inr (.inr (some a0)), .inl x1] m = lt_cI (lt_ev d 197 [.inr (.inr (some a0)), .inl x1] m) (fun v1 m1 => (if v1 = (2 : Int32) then (some (some (.inl (0 : Int32)), m1)) else (lt_cI (lt_ev d 197 [.inr (.inr (some a0)), .inl x1] m1) (fun v2 m2 => (if v2 = (5 : Int32) then (some (some (.inl (0 : Int32)), m2)) else (some (some (.inl (1 : Int32)), m2))))))) := by
  refine Eq.trans (lt_enter2 (ls := [some (.inr (.inr (some a0))), some (.inl x1)]) hY215 (Nat.le_of_ble_eq_true rfl) (by rfl)) ?_
  refine Eq.trans (li_aload_n d215_0 (by rfl)) ?_
  refine Eq.trans (li_iload_n d215_1 (by rfl)) ?_
  refine Eq.trans (li_ivI d215_2 ca_12_87 kd_197 kl_197 (by rfl) (by rfl) h0 (Nat.le_of_ble_eq_true rfl) (Nat.le_of_ble_eq_true rfl)) ?_
  refine lt_cI_c (fun v1 m1 => ?_)
  refine Eq.trans (li_iconst d215_5 ic_2) ?_
  refine Eq.trans (li_icmp_eq (t := 22) d215_6 (by rfl)) ?_
  refine lt_ite (fun c1 => ?_) (fun c1 => ?_)
  · refine Eq.trans (li_iconst d215_22 ic_0) ?_
    exact li_zret d215_23 rfl (by decide)
  · refine Eq.trans (li_aload_n d215_9 (by rfl)) ?_
    refine Eq.trans (li_iload_n d215_10 (by rfl)) ?_
    refine Eq.trans (li_ivI d215_11 ca_12_87 kd_197 kl_197 (by rfl) (by rfl) h0 (Nat.le_of_ble_eq_true rfl) (Nat.le_of_ble_eq_true rfl)) ?_
    refine lt_cI_c (fun v2 m2 => ?_)
    refine Eq.trans (li_iconst d215_14 ic_5) ?_
    refine Eq.trans (li_icmp_eq (t := 22) d215_15 (by rfl)) ?_
    refine lt_ite (fun c2 => ?_) (fun c2 => ?_)
    · refine Eq.trans (li_iconst d215_22 ic_0) ?_
      exact li_zret d215_23 rfl (by decide)
    · refine Eq.trans (li_iconst d215_18 ic_1) ?_
      refine Eq.trans (li_goto (t := 23) d215_19 (by rfl)) ?_
      exact li_zret d215_23 rfl (by decide)
/-! TransitSealsModel.inUse(I)I -/
theorem d216_0 : decode Y216.2.1 0 = .ok (.aload_n 0, 1) := by decide +kernel
theorem d216_1 : decode Y216.2.1 1 = .ok (.iconst 0, 1) := by decide +kernel
theorem d216_2 : decode Y216.2.1 2 = .ok (.putfield 67, 3) := by decide +kernel
theorem d216_5 : decode Y216.2.1 5 = .ok (.aload_n 0, 1) := by decide +kernel
theorem d216_6 : decode Y216.2.1 6 = .ok (.iload_n 1, 1) := by decide +kernel
theorem d216_7 : decode Y216.2.1 7 = .ok (.invokevirtual 246, 3) := by decide +kernel
theorem d216_10 : decode Y216.2.1 10 = .ok (.ifCond .ne 5, 3) := by decide +kernel
theorem d216_13 : decode Y216.2.1 13 = .ok (.iconst (-1), 1) := by decide +kernel
theorem d216_14 : decode Y216.2.1 14 = .ok (.ireturn, 1) := by decide +kernel
theorem d216_15 : decode Y216.2.1 15 = .ok (.aload_n 0, 1) := by decide +kernel
theorem d216_16 : decode Y216.2.1 16 = .ok (.iconst 0, 1) := by decide +kernel
theorem d216_17 : decode Y216.2.1 17 = .ok (.putfield 70, 3) := by decide +kernel
theorem d216_20 : decode Y216.2.1 20 = .ok (.aload_n 0, 1) := by decide +kernel
theorem d216_21 : decode Y216.2.1 21 = .ok (.aload_n 0, 1) := by decide +kernel
theorem d216_22 : decode Y216.2.1 22 = .ok (.iload_n 1, 1) := by decide +kernel
theorem d216_23 : decode Y216.2.1 23 = .ok (.invokevirtual 234, 3) := by decide +kernel
theorem d216_26 : decode Y216.2.1 26 = .ok (.i2l, 1) := by decide +kernel
theorem d216_27 : decode Y216.2.1 27 = .ok (.invokevirtual 194, 3) := by decide +kernel
theorem d216_30 : decode Y216.2.1 30 = .ok (.aload_n 0, 1) := by decide +kernel
theorem d216_31 : decode Y216.2.1 31 = .ok (.aload_n 0, 1) := by decide +kernel
theorem d216_32 : decode Y216.2.1 32 = .ok (.iload_n 1, 1) := by decide +kernel
theorem d216_33 : decode Y216.2.1 33 = .ok (.invokevirtual 249, 3) := by decide +kernel
theorem d216_36 : decode Y216.2.1 36 = .ok (.i2l, 1) := by decide +kernel
theorem d216_37 : decode Y216.2.1 37 = .ok (.invokevirtual 194, 3) := by decide +kernel
theorem d216_40 : decode Y216.2.1 40 = .ok (.aload_n 0, 1) := by decide +kernel
theorem d216_41 : decode Y216.2.1 41 = .ok (.aload_n 0, 1) := by decide +kernel
theorem d216_42 : decode Y216.2.1 42 = .ok (.iload_n 1, 1) := by decide +kernel
theorem d216_43 : decode Y216.2.1 43 = .ok (.invokevirtual 252, 3) := by decide +kernel
theorem d216_46 : decode Y216.2.1 46 = .ok (.i2l, 1) := by decide +kernel
theorem d216_47 : decode Y216.2.1 47 = .ok (.invokevirtual 194, 3) := by decide +kernel
theorem d216_50 : decode Y216.2.1 50 = .ok (.aload_n 0, 1) := by decide +kernel
theorem d216_51 : decode Y216.2.1 51 = .ok (.aload_n 0, 1) := by decide +kernel
theorem d216_52 : decode Y216.2.1 52 = .ok (.iload_n 1, 1) := by decide +kernel
theorem d216_53 : decode Y216.2.1 53 = .ok (.invokevirtual 255, 3) := by decide +kernel
theorem d216_56 : decode Y216.2.1 56 = .ok (.i2l, 1) := by decide +kernel
theorem d216_57 : decode Y216.2.1 57 = .ok (.invokevirtual 194, 3) := by decide +kernel
theorem d216_60 : decode Y216.2.1 60 = .ok (.aload_n 0, 1) := by decide +kernel
theorem d216_61 : decode Y216.2.1 61 = .ok (.iload_n 1, 1) := by decide +kernel
theorem d216_62 : decode Y216.2.1 62 = .ok (.invokevirtual 237, 3) := by decide +kernel
theorem d216_65 : decode Y216.2.1 65 = .ok (.ireturn, 1) := by decide +kernel
theorem E216 (d : Nat) (a0 : Nat) (x1 : Int32) (h0 : ts_sh a0 = (0, 12)) (m : lt_m) : lt_ev (d + 1) 216 [.inr (.inr (some a0)), .inl x1] m = lt_cI (lt_ev d 213 [.inr (.inr (some a0)), .inl x1] (lm_i m a0 15 (0 : Int32))) (fun v1 m1 => (if ¬ v1 = 0 then (lt_cI (lt_ev d 217 [.inr (.inr (some a0)), .inl x1] (lm_i m1 a0 14 (0 : Int32))) (fun v2 m2 => (lt_cV (lt_ev d 202 [.inr (.inr (some a0)), .inr (.inl ((v2).toInt64))] m2) (fun m3 => (lt_cI (lt_ev d 218 [.inr (.inr (some a0)), .inl x1] m3) (fun v3 m4 => (lt_cV (lt_ev d 202 [.inr (.inr (some a0)), .inr (.inl ((v3).toInt64))] m4) (fun m5 => (lt_cI (lt_ev d 219 [.inr (.inr (some a0)), .inl x1] m5) (fun v4 m6 => (lt_cV (lt_ev d 202 [.inr (.inr (some a0)), .inr (.inl ((v4).toInt64))] m6) (fun m7 => (lt_cI (lt_ev d 220 [.inr (.inr (some a0)), .inl x1] m7) (fun v5 m8 => (lt_cV (lt_ev d 202 [.inr (.inr (some a0)), .inr (.inl ((v5).toInt64))] m8) (fun m9 => (lt_cI (lt_ev d 214 [.inr (.inr (some a0)), .inl x1] m9) (fun v6 m10 => (some (some (.inl v6), m10)))))))))))))))))))) else (some (some (.inl (-1 : Int32)), m1)))) := by
  refine Eq.trans (lt_enter2 (ls := [some (.inr (.inr (some a0))), some (.inl x1)]) hY216 (Nat.le_of_ble_eq_true rfl) (by rfl)) ?_
  refine Eq.trans (li_aload_n d216_0 (by rfl)) ?_
  refine Eq.trans (li_iconst d216_1 ic_0) ?_
  refine Eq.trans (li_puti d216_2 fa_12_67 h0 rfl rfl) ?_
  refine Eq.trans (li_aload_n d216_5 (by rfl)) ?_
  refine Eq.trans (li_iload_n d216_6 (by rfl)) ?_
  refine Eq.trans (li_ivI d216_7 ca_12_246 kd_213 kl_213 (by rfl) (by rfl) h0 (Nat.le_of_ble_eq_true rfl) (Nat.le_of_ble_eq_true rfl)) ?_
  refine lt_cI_c (fun v1 m1 => ?_)
  refine Eq.trans (li_if_ne (t := 15) d216_10 (by rfl)) ?_
  refine lt_ite (fun c1 => ?_) (fun c1 => ?_)
  · refine Eq.trans (li_aload_n d216_15 (by rfl)) ?_
    refine Eq.trans (li_iconst d216_16 ic_0) ?_
    refine Eq.trans (li_puti d216_17 fa_12_70 h0 rfl rfl) ?_
    refine Eq.trans (li_aload_n d216_20 (by rfl)) ?_
    refine Eq.trans (li_aload_n d216_21 (by rfl)) ?_
    refine Eq.trans (li_iload_n d216_22 (by rfl)) ?_
    refine Eq.trans (li_ivI d216_23 ca_12_234 kd_217 kl_217 (by rfl) (by rfl) h0 (Nat.le_of_ble_eq_true rfl) (Nat.le_of_ble_eq_true rfl)) ?_
    refine lt_cI_c (fun v2 m2 => ?_)
    refine Eq.trans (li_i2l d216_26) ?_
    refine Eq.trans (li_ivV d216_27 ca_12_194 kd_202 kl_202 (by rfl) (by rfl) h0 (Nat.le_of_ble_eq_true rfl) (Nat.le_of_ble_eq_true rfl)) ?_
    refine lt_cV_c (fun m3 => ?_)
    refine Eq.trans (li_aload_n d216_30 (by rfl)) ?_
    refine Eq.trans (li_aload_n d216_31 (by rfl)) ?_
    refine Eq.trans (li_iload_n d216_32 (by rfl)) ?_
    refine Eq.trans (li_ivI d216_33 ca_12_249 kd_218 kl_218 (by rfl) (by rfl) h0 (Nat.le_of_ble_eq_true rfl) (Nat.le_of_ble_eq_true rfl)) ?_
    refine lt_cI_c (fun v3 m4 => ?_)
    refine Eq.trans (li_i2l d216_36) ?_
    refine Eq.trans (li_ivV d216_37 ca_12_194 kd_202 kl_202 (by rfl) (by rfl) h0 (Nat.le_of_ble_eq_true rfl) (Nat.le_of_ble_eq_true rfl)) ?_
    refine lt_cV_c (fun m5 => ?_)
    refine Eq.trans (li_aload_n d216_40 (by rfl)) ?_
    refine Eq.trans (li_aload_n d216_41 (by rfl)) ?_
    refine Eq.trans (li_iload_n d216_42 (by rfl)) ?_
    refine Eq.trans (li_ivI d216_43 ca_12_252 kd_219 kl_219 (by rfl) (by rfl) h0 (Nat.le_of_ble_eq_true rfl) (Nat.le_of_ble_eq_true rfl)) ?_
    refine lt_cI_c (fun v4 m6 => ?_)
    refine Eq.trans (li_i2l d216_46) ?_
    refine Eq.trans (li_ivV d216_47 ca_12_194 kd_202 kl_202 (by rfl) (by rfl) h0 (Nat.le_of_ble_eq_true rfl) (Nat.le_of_ble_eq_true rfl)) ?_
    refine lt_cV_c (fun m7 => ?_)
    refine Eq.trans (li_aload_n d216_50 (by rfl)) ?_
    refine Eq.trans (li_aload_n d216_51 (by rfl)) ?_
    refine Eq.trans (li_iload_n d216_52 (by rfl)) ?_
    refine Eq.trans (li_ivI d216_53 ca_12_255 kd_220 kl_220 (by rfl) (by rfl) h0 (Nat.le_of_ble_eq_true rfl) (Nat.le_of_ble_eq_true rfl)) ?_
    refine lt_cI_c (fun v5 m8 => ?_)
    refine Eq.trans (li_i2l d216_56) ?_
    refine Eq.trans (li_ivV d216_57 ca_12_194 kd_202 kl_202 (by rfl) (by rfl) h0 (Nat.le_of_ble_eq_true rfl) (Nat.le_of_ble_eq_true rfl)) ?_
    refine lt_cV_c (fun m9 => ?_)
    refine Eq.trans (li_aload_n d216_60 (by rfl)) ?_
    refine Eq.trans (li_iload_n d216_61 (by rfl)) ?_
    refine Eq.trans (li_ivI d216_62 ca_12_237 kd_214 kl_214 (by rfl) (by rfl) h0 (Nat.le_of_ble_eq_true rfl) (Nat.le_of_ble_eq_true rfl)) ?_
    refine lt_cI_c (fun v6 m10 => ?_)
    exact li_iret d216_65 rfl
  · refine Eq.trans (li_iconst d216_13 ic_n1) ?_
    exact li_iret d216_14 rfl
/-! TransitSealsModel.sumOf(I)I -/
theorem d217_0 : decode Y217.2.1 0 = .ok (.aload_n 0, 1) := by decide +kernel
theorem d217_1 : decode Y217.2.1 1 = .ok (.getfield 7, 3) := by decide +kernel
theorem d217_4 : decode Y217.2.1 4 = .ok (.iconst 4, 1) := by decide +kernel
theorem d217_5 : decode Y217.2.1 5 = .ok (.iconst 2, 1) := by decide +kernel
theorem d217_6 : decode Y217.2.1 6 = .ok (.iload_n 1, 1) := by decide +kernel
theorem d217_7 : decode Y217.2.1 7 = .ok (.imul, 1) := by decide +kernel
theorem d217_8 : decode Y217.2.1 8 = .ok (.iadd, 1) := by decide +kernel
theorem d217_9 : decode Y217.2.1 9 = .ok (.iaload, 1) := by decide +kernel
theorem d217_10 : decode Y217.2.1 10 = .ok (.ireturn, 1) := by decide +kernel
theorem E217 (d : Nat) (a0 : Nat) (x1 : Int32) (h0 : ts_sh a0 = (0, 12)) (m : lt_m) : lt_ev (d + 1) 217 [.inr (.inr (some a0)), .inl x1] m = lt_gd (0 ≤ ((4 : Int32) + ((2 : Int32) * x1)) ∧ (((4 : Int32) + ((2 : Int32) * x1))).toNatClampNeg < 626) (some (some (.inl (m.1 (a0 + 1) (((4 : Int32) + ((2 : Int32) * x1))).toNatClampNeg)), m)) := by
  refine Eq.trans (lt_enter2 (ls := [some (.inr (.inr (some a0))), some (.inl x1)]) hY217 (Nat.le_of_ble_eq_true rfl) (by rfl)) ?_
  refine Eq.trans (li_aload_n d217_0 (by rfl)) ?_
  refine Eq.trans (li_getr d217_1 fa_12_7 h0 rfl rfl rfl (by decide)) ?_
  refine Eq.trans (li_iconst d217_4 ic_4) ?_
  refine Eq.trans (li_iconst d217_5 ic_2) ?_
  refine Eq.trans (li_iload_n d217_6 (by rfl)) ?_
  refine Eq.trans (li_imul d217_7) ?_
  refine Eq.trans (li_iadd d217_8) ?_
  refine Eq.trans (li_iald d217_9 (sf_of h0 0 (by decide) (by decide))) ?_
  refine lt_gd_c (fun g1 => ?_)
  exact li_iret d217_10 rfl
/-! TransitSealsModel.levelOf(I)I -/
theorem d218_0 : decode Y218.2.1 0 = .ok (.aload_n 0, 1) := by decide +kernel
theorem d218_1 : decode Y218.2.1 1 = .ok (.getfield 7, 3) := by decide +kernel
theorem d218_4 : decode Y218.2.1 4 = .ok (.iconst 4, 1) := by decide +kernel
theorem d218_5 : decode Y218.2.1 5 = .ok (.iconst 2, 1) := by decide +kernel
theorem d218_6 : decode Y218.2.1 6 = .ok (.iload_n 1, 1) := by decide +kernel
theorem d218_7 : decode Y218.2.1 7 = .ok (.imul, 1) := by decide +kernel
theorem d218_8 : decode Y218.2.1 8 = .ok (.iadd, 1) := by decide +kernel
theorem d218_9 : decode Y218.2.1 9 = .ok (.iconst 1, 1) := by decide +kernel
theorem d218_10 : decode Y218.2.1 10 = .ok (.iadd, 1) := by decide +kernel
theorem d218_11 : decode Y218.2.1 11 = .ok (.iaload, 1) := by decide +kernel
theorem d218_12 : decode Y218.2.1 12 = .ok (.ireturn, 1) := by decide +kernel
theorem E218 (d : Nat) (a0 : Nat) (x1 : Int32) (h0 : ts_sh a0 = (0, 12)) (m : lt_m) : lt_ev (d + 1) 218 [.inr (.inr (some a0)), .inl x1] m = lt_gd (0 ≤ (((4 : Int32) + ((2 : Int32) * x1)) + (1 : Int32)) ∧ ((((4 : Int32) + ((2 : Int32) * x1)) + (1 : Int32))).toNatClampNeg < 626) (some (some (.inl (m.1 (a0 + 1) ((((4 : Int32) + ((2 : Int32) * x1)) + (1 : Int32))).toNatClampNeg)), m)) := by
  refine Eq.trans (lt_enter2 (ls := [some (.inr (.inr (some a0))), some (.inl x1)]) hY218 (Nat.le_of_ble_eq_true rfl) (by rfl)) ?_
  refine Eq.trans (li_aload_n d218_0 (by rfl)) ?_
  refine Eq.trans (li_getr d218_1 fa_12_7 h0 rfl rfl rfl (by decide)) ?_
  refine Eq.trans (li_iconst d218_4 ic_4) ?_
  refine Eq.trans (li_iconst d218_5 ic_2) ?_
  refine Eq.trans (li_iload_n d218_6 (by rfl)) ?_
  refine Eq.trans (li_imul d218_7) ?_
  refine Eq.trans (li_iadd d218_8) ?_
  refine Eq.trans (li_iconst d218_9 ic_1) ?_
  refine Eq.trans (li_iadd d218_10) ?_
  refine Eq.trans (li_iald d218_11 (sf_of h0 0 (by decide) (by decide))) ?_
  refine lt_gd_c (fun g1 => ?_)
  exact li_iret d218_12 rfl
/-! TransitSealsModel.free(I)I -/
theorem d219_0 : decode Y219.2.1 0 = .ok (.aload_n 0, 1) := by decide +kernel
theorem d219_1 : decode Y219.2.1 1 = .ok (.iload_n 1, 1) := by decide +kernel
theorem d219_2 : decode Y219.2.1 2 = .ok (.invokevirtual 234, 3) := by decide +kernel
theorem d219_5 : decode Y219.2.1 5 = .ok (.aload_n 0, 1) := by decide +kernel
theorem d219_6 : decode Y219.2.1 6 = .ok (.iload_n 1, 1) := by decide +kernel
theorem d219_7 : decode Y219.2.1 7 = .ok (.invokevirtual 237, 3) := by decide +kernel
theorem d219_10 : decode Y219.2.1 10 = .ok (.isub, 1) := by decide +kernel
theorem d219_11 : decode Y219.2.1 11 = .ok (.ireturn, 1) := by decide +kernel
theorem E219 (d : Nat) (a0 : Nat) (x1 : Int32) (h0 : ts_sh a0 = (0, 12)) (m : lt_m) : lt_ev (d + 1) 219 [.inr (.inr (some a0)), .inl x1] m = lt_cI (lt_ev d 217 [.inr (.inr (some a0)), .inl x1] m) (fun v1 m1 => (lt_cI (lt_ev d 214 [.inr (.inr (some a0)), .inl x1] m1) (fun v2 m2 => (some (some (.inl (v1 - v2)), m2))))) := by
  refine Eq.trans (lt_enter2 (ls := [some (.inr (.inr (some a0))), some (.inl x1)]) hY219 (Nat.le_of_ble_eq_true rfl) (by rfl)) ?_
  refine Eq.trans (li_aload_n d219_0 (by rfl)) ?_
  refine Eq.trans (li_iload_n d219_1 (by rfl)) ?_
  refine Eq.trans (li_ivI d219_2 ca_12_234 kd_217 kl_217 (by rfl) (by rfl) h0 (Nat.le_of_ble_eq_true rfl) (Nat.le_of_ble_eq_true rfl)) ?_
  refine lt_cI_c (fun v1 m1 => ?_)
  refine Eq.trans (li_aload_n d219_5 (by rfl)) ?_
  refine Eq.trans (li_iload_n d219_6 (by rfl)) ?_
  refine Eq.trans (li_ivI d219_7 ca_12_237 kd_214 kl_214 (by rfl) (by rfl) h0 (Nat.le_of_ble_eq_true rfl) (Nat.le_of_ble_eq_true rfl)) ?_
  refine lt_cI_c (fun v2 m2 => ?_)
  refine Eq.trans (li_isub d219_10) ?_
  exact li_iret d219_11 rfl
/-! TransitSealsModel.openSet(I)I -/
theorem d220_0 : decode Y220.2.1 0 = .ok (.iconst 0, 1) := by decide +kernel
theorem d220_1 : decode Y220.2.1 1 = .ok (.istore_n 2, 1) := by decide +kernel
theorem d220_2 : decode Y220.2.1 2 = .ok (.iconst 0, 1) := by decide +kernel
theorem d220_3 : decode Y220.2.1 3 = .ok (.istore_n 3, 1) := by decide +kernel
theorem d220_4 : decode Y220.2.1 4 = .ok (.iload_n 3, 1) := by decide +kernel
theorem d220_5 : decode Y220.2.1 5 = .ok (.aload_n 0, 1) := by decide +kernel
theorem d220_6 : decode Y220.2.1 6 = .ok (.getfield 7, 3) := by decide +kernel
theorem d220_9 : decode Y220.2.1 9 = .ok (.iconst 2, 1) := by decide +kernel
theorem d220_10 : decode Y220.2.1 10 = .ok (.iaload, 1) := by decide +kernel
theorem d220_11 : decode Y220.2.1 11 = .ok (.if_icmp .ge 37, 3) := by decide +kernel
theorem d220_14 : decode Y220.2.1 14 = .ok (.iload_n 2, 1) := by decide +kernel
theorem d220_15 : decode Y220.2.1 15 = .ok (.aload_n 0, 1) := by decide +kernel
theorem d220_16 : decode Y220.2.1 16 = .ok (.iload_n 3, 1) := by decide +kernel
theorem d220_17 : decode Y220.2.1 17 = .ok (.iconst 0, 1) := by decide +kernel
theorem d220_18 : decode Y220.2.1 18 = .ok (.invokevirtual 83, 3) := by decide +kernel
theorem d220_21 : decode Y220.2.1 21 = .ok (.iload_n 1, 1) := by decide +kernel
theorem d220_22 : decode Y220.2.1 22 = .ok (.if_icmp .ne 17, 3) := by decide +kernel
theorem d220_25 : decode Y220.2.1 25 = .ok (.aload_n 0, 1) := by decide +kernel
theorem d220_26 : decode Y220.2.1 26 = .ok (.iload_n 3, 1) := by decide +kernel
theorem d220_27 : decode Y220.2.1 27 = .ok (.invokevirtual 231, 3) := by decide +kernel
theorem d220_30 : decode Y220.2.1 30 = .ok (.ifCond .eq 9, 3) := by decide +kernel
theorem d220_33 : decode Y220.2.1 33 = .ok (.iconst 1, 1) := by decide +kernel
theorem d220_34 : decode Y220.2.1 34 = .ok (.iload_n 3, 1) := by decide +kernel
theorem d220_35 : decode Y220.2.1 35 = .ok (.ishl, 1) := by decide +kernel
theorem d220_36 : decode Y220.2.1 36 = .ok (.goto 4, 3) := by decide +kernel
theorem d220_39 : decode Y220.2.1 39 = .ok (.iconst 0, 1) := by decide +kernel
theorem d220_40 : decode Y220.2.1 40 = .ok (.ior, 1) := by decide +kernel
theorem d220_41 : decode Y220.2.1 41 = .ok (.istore_n 2, 1) := by decide +kernel
theorem d220_42 : decode Y220.2.1 42 = .ok (.iinc 3 1, 3) := by decide +kernel
theorem d220_45 : decode Y220.2.1 45 = .ok (.goto (-41), 3) := by decide +kernel
theorem d220_48 : decode Y220.2.1 48 = .ok (.iload_n 2, 1) := by decide +kernel
theorem d220_49 : decode Y220.2.1 49 = .ok (.ireturn, 1) := by decide +kernel
noncomputable def L220_4 (d : Nat) (a0 : Nat) (x1 : Int32) (x2 : Int32) (x3 : Int32) (m : lt_m) : Option lt_r := lt_run d Y220 4 [some (.inr (.inr (some a0))), some (.inl x1), some (.inl x2), some (.inl x3)] [] m
theorem E220 (d : Nat) (a0 : Nat) (x1 : Int32) (h0 : ts_sh a0 = (0, 12)) (m : lt_m) : lt_ev (d + 1) 220 [.inr (.inr (some a0)), .inl x1] m = L220_4 d a0 x1 (0 : Int32) (0 : Int32) m := by
  refine Eq.trans (lt_enter2 (ls := [some (.inr (.inr (some a0))), some (.inl x1), none, none]) hY220 (Nat.le_of_ble_eq_true rfl) (by rfl)) ?_
  refine Eq.trans (li_iconst d220_0 ic_0) ?_
  refine Eq.trans (li_istore_n (ls' := [some (.inr (.inr (some a0))), some (.inl x1), some (.inl (0 : Int32)), none]) d220_1 (by decide) (by rfl)) ?_
  refine Eq.trans (li_iconst d220_2 ic_0) ?_
  refine Eq.trans (li_istore_n (ls' := [some (.inr (.inr (some a0))), some (.inl x1), some (.inl (0 : Int32)), some (.inl (0 : Int32))]) d220_3 (by decide) (by rfl)) ?_
  rfl
theorem E220_4 (d : Nat) (a0 : Nat) (x1 : Int32) (x2 : Int32) (x3 : Int32) (h0 : ts_sh a0 = (0, 12)) (m : lt_m) : L220_4 d a0 x1 x2 x3 m = lt_gd (0 ≤ (2 : Int32) ∧ ((2 : Int32)).toNatClampNeg < 626) (if (m.1 (a0 + 1) ((2 : Int32)).toNatClampNeg) ≤ x3 then (some (some (.inl x2), m)) else (lt_cI (lt_ev d 198 [.inr (.inr (some a0)), .inl x3, .inl (0 : Int32)] m) (fun v1 m1 => (if ¬ v1 = x1 then (L220_4 d a0 x1 (x2 ||| (0 : Int32)) (x3 + (1 : Int32)) m1) else (lt_cI (lt_ev d 215 [.inr (.inr (some a0)), .inl x3] m1) (fun v2 m2 => (if v2 = 0 then (L220_4 d a0 x1 (x2 ||| (0 : Int32)) (x3 + (1 : Int32)) m2) else (L220_4 d a0 x1 (x2 ||| ((1 : Int32) <<< (x3 &&& 31))) (x3 + (1 : Int32)) m2)))))))) := by
  show lt_run d Y220 4 [some (.inr (.inr (some a0))), some (.inl x1), some (.inl x2), some (.inl x3)] [] m = _
  refine Eq.trans (li_iload_n d220_4 (by rfl)) ?_
  refine Eq.trans (li_aload_n d220_5 (by rfl)) ?_
  refine Eq.trans (li_getr d220_6 fa_12_7 h0 rfl rfl rfl (by decide)) ?_
  refine Eq.trans (li_iconst d220_9 ic_2) ?_
  refine Eq.trans (li_iald d220_10 (sf_of h0 0 (by decide) (by decide))) ?_
  refine lt_gd_c (fun g1 => ?_)
  refine Eq.trans (li_icmp_ge (t := 48) d220_11 (by rfl)) ?_
  refine lt_ite (fun c1 => ?_) (fun c1 => ?_)
  · refine Eq.trans (li_iload_n d220_48 (by rfl)) ?_
    exact li_iret d220_49 rfl
  · refine Eq.trans (li_iload_n d220_14 (by rfl)) ?_
    refine Eq.trans (li_aload_n d220_15 (by rfl)) ?_
    refine Eq.trans (li_iload_n d220_16 (by rfl)) ?_
    refine Eq.trans (li_iconst d220_17 ic_0) ?_
    refine Eq.trans (li_ivI d220_18 ca_12_83 kd_198 kl_198 (by rfl) (by rfl) h0 (Nat.le_of_ble_eq_true rfl) (Nat.le_of_ble_eq_true rfl)) ?_
    refine lt_cI_c (fun v1 m1 => ?_)
    refine Eq.trans (li_iload_n d220_21 (by rfl)) ?_
    refine Eq.trans (li_icmp_ne (t := 39) d220_22 (by rfl)) ?_
    refine lt_ite (fun c2 => ?_) (fun c2 => ?_)
    · refine Eq.trans (li_iconst d220_39 ic_0) ?_
      refine Eq.trans (li_ior d220_40) ?_
      refine Eq.trans (li_istore_n (ls' := [some (.inr (.inr (some a0))), some (.inl x1), some (.inl (x2 ||| (0 : Int32))), some (.inl x3)]) d220_41 (by decide) (by rfl)) ?_
      refine Eq.trans (li_iinc (ls' := [some (.inr (.inr (some a0))), some (.inl x1), some (.inl (x2 ||| (0 : Int32))), some (.inl (x3 + (1 : Int32)))]) d220_42 (by rfl) (by decide) ic_1 (by rfl)) ?_
      refine Eq.trans (li_goto (t := 4) d220_45 (by rfl)) ?_
      rfl
    · refine Eq.trans (li_aload_n d220_25 (by rfl)) ?_
      refine Eq.trans (li_iload_n d220_26 (by rfl)) ?_
      refine Eq.trans (li_ivI d220_27 ca_12_231 kd_215 kl_215 (by rfl) (by rfl) h0 (Nat.le_of_ble_eq_true rfl) (Nat.le_of_ble_eq_true rfl)) ?_
      refine lt_cI_c (fun v2 m2 => ?_)
      refine Eq.trans (li_if_eq (t := 39) d220_30 (by rfl)) ?_
      refine lt_ite (fun c3 => ?_) (fun c3 => ?_)
      · refine Eq.trans (li_iconst d220_39 ic_0) ?_
        refine Eq.trans (li_ior d220_40) ?_
        refine Eq.trans (li_istore_n (ls' := [some (.inr (.inr (some a0))), some (.inl x1), some (.inl (x2 ||| (0 : Int32))), some (.inl x3)]) d220_41 (by decide) (by rfl)) ?_
        refine Eq.trans (li_iinc (ls' := [some (.inr (.inr (some a0))), some (.inl x1), some (.inl (x2 ||| (0 : Int32))), some (.inl (x3 + (1 : Int32)))]) d220_42 (by rfl) (by decide) ic_1 (by rfl)) ?_
        refine Eq.trans (li_goto (t := 4) d220_45 (by rfl)) ?_
        rfl
      · refine Eq.trans (li_iconst d220_33 ic_1) ?_
        refine Eq.trans (li_iload_n d220_34 (by rfl)) ?_
        refine Eq.trans (li_ishl d220_35) ?_
        refine Eq.trans (li_goto (t := 40) d220_36 (by rfl)) ?_
        refine Eq.trans (li_ior d220_40) ?_
        refine Eq.trans (li_istore_n (ls' := [some (.inr (.inr (some a0))), some (.inl x1), some (.inl (x2 ||| ((1 : Int32) <<< (x3 &&& 31)))), some (.inl x3)]) d220_41 (by decide) (by rfl)) ?_
        refine Eq.trans (li_iinc (ls' := [some (.inr (.inr (some a0))), some (.inl x1), some (.inl (x2 ||| ((1 : Int32) <<< (x3 &&& 31)))), some (.inl (x3 + (1 : Int32)))]) d220_42 (by rfl) (by decide) ic_1 (by rfl)) ?_
        refine Eq.trans (li_goto (t := 4) d220_45 (by rfl)) ?_
        rfl
/-! TransitSealsModel.owes(I)I -/
theorem d221_0 : decode Y221.2.1 0 = .ok (.aload_n 0, 1) := by decide +kernel
theorem d221_1 : decode Y221.2.1 1 = .ok (.iconst 0, 1) := by decide +kernel
theorem d221_2 : decode Y221.2.1 2 = .ok (.putfield 67, 3) := by decide +kernel
theorem d221_5 : decode Y221.2.1 5 = .ok (.aload_n 0, 1) := by decide +kernel
theorem d221_6 : decode Y221.2.1 6 = .ok (.iload_n 1, 1) := by decide +kernel
theorem d221_7 : decode Y221.2.1 7 = .ok (.invokevirtual 246, 3) := by decide +kernel
theorem d221_10 : decode Y221.2.1 10 = .ok (.ifCond .ne 5, 3) := by decide +kernel
theorem d221_13 : decode Y221.2.1 13 = .ok (.iconst (-1), 1) := by decide +kernel
theorem d221_14 : decode Y221.2.1 14 = .ok (.ireturn, 1) := by decide +kernel
theorem d221_15 : decode Y221.2.1 15 = .ok (.aload_n 0, 1) := by decide +kernel
theorem d221_16 : decode Y221.2.1 16 = .ok (.iconst 0, 1) := by decide +kernel
theorem d221_17 : decode Y221.2.1 17 = .ok (.putfield 70, 3) := by decide +kernel
theorem d221_20 : decode Y221.2.1 20 = .ok (.aload_n 0, 1) := by decide +kernel
theorem d221_21 : decode Y221.2.1 21 = .ok (.aload_n 0, 1) := by decide +kernel
theorem d221_22 : decode Y221.2.1 22 = .ok (.iload_n 1, 1) := by decide +kernel
theorem d221_23 : decode Y221.2.1 23 = .ok (.iconst 5, 1) := by decide +kernel
theorem d221_24 : decode Y221.2.1 24 = .ok (.invokevirtual 258, 3) := by decide +kernel
theorem d221_27 : decode Y221.2.1 27 = .ok (.i2l, 1) := by decide +kernel
theorem d221_28 : decode Y221.2.1 28 = .ok (.invokevirtual 194, 3) := by decide +kernel
theorem d221_31 : decode Y221.2.1 31 = .ok (.aload_n 0, 1) := by decide +kernel
theorem d221_32 : decode Y221.2.1 32 = .ok (.iload_n 1, 1) := by decide +kernel
theorem d221_33 : decode Y221.2.1 33 = .ok (.iconst 4, 1) := by decide +kernel
theorem d221_34 : decode Y221.2.1 34 = .ok (.invokevirtual 258, 3) := by decide +kernel
theorem d221_37 : decode Y221.2.1 37 = .ok (.ireturn, 1) := by decide +kernel
theorem E221 (d : Nat) (a0 : Nat) (x1 : Int32) (h0 : ts_sh a0 = (0, 12)) (m : lt_m) : lt_ev (d + 1) 221 [.inr (.inr (some a0)), .inl x1] m = lt_cI (lt_ev d 213 [.inr (.inr (some a0)), .inl x1] (lm_i m a0 15 (0 : Int32))) (fun v1 m1 => (if ¬ v1 = 0 then (lt_cI (lt_ev d 222 [.inr (.inr (some a0)), .inl x1, .inl (5 : Int32)] (lm_i m1 a0 14 (0 : Int32))) (fun v2 m2 => (lt_cV (lt_ev d 202 [.inr (.inr (some a0)), .inr (.inl ((v2).toInt64))] m2) (fun m3 => (lt_cI (lt_ev d 222 [.inr (.inr (some a0)), .inl x1, .inl (4 : Int32)] m3) (fun v3 m4 => (some (some (.inl v3), m4)))))))) else (some (some (.inl (-1 : Int32)), m1)))) := by
  refine Eq.trans (lt_enter2 (ls := [some (.inr (.inr (some a0))), some (.inl x1)]) hY221 (Nat.le_of_ble_eq_true rfl) (by rfl)) ?_
  refine Eq.trans (li_aload_n d221_0 (by rfl)) ?_
  refine Eq.trans (li_iconst d221_1 ic_0) ?_
  refine Eq.trans (li_puti d221_2 fa_12_67 h0 rfl rfl) ?_
  refine Eq.trans (li_aload_n d221_5 (by rfl)) ?_
  refine Eq.trans (li_iload_n d221_6 (by rfl)) ?_
  refine Eq.trans (li_ivI d221_7 ca_12_246 kd_213 kl_213 (by rfl) (by rfl) h0 (Nat.le_of_ble_eq_true rfl) (Nat.le_of_ble_eq_true rfl)) ?_
  refine lt_cI_c (fun v1 m1 => ?_)
  refine Eq.trans (li_if_ne (t := 15) d221_10 (by rfl)) ?_
  refine lt_ite (fun c1 => ?_) (fun c1 => ?_)
  · refine Eq.trans (li_aload_n d221_15 (by rfl)) ?_
    refine Eq.trans (li_iconst d221_16 ic_0) ?_
    refine Eq.trans (li_puti d221_17 fa_12_70 h0 rfl rfl) ?_
    refine Eq.trans (li_aload_n d221_20 (by rfl)) ?_
    refine Eq.trans (li_aload_n d221_21 (by rfl)) ?_
    refine Eq.trans (li_iload_n d221_22 (by rfl)) ?_
    refine Eq.trans (li_iconst d221_23 ic_5) ?_
    refine Eq.trans (li_ivI d221_24 ca_12_258 kd_222 kl_222 (by rfl) (by rfl) h0 (Nat.le_of_ble_eq_true rfl) (Nat.le_of_ble_eq_true rfl)) ?_
    refine lt_cI_c (fun v2 m2 => ?_)
    refine Eq.trans (li_i2l d221_27) ?_
    refine Eq.trans (li_ivV d221_28 ca_12_194 kd_202 kl_202 (by rfl) (by rfl) h0 (Nat.le_of_ble_eq_true rfl) (Nat.le_of_ble_eq_true rfl)) ?_
    refine lt_cV_c (fun m3 => ?_)
    refine Eq.trans (li_aload_n d221_31 (by rfl)) ?_
    refine Eq.trans (li_iload_n d221_32 (by rfl)) ?_
    refine Eq.trans (li_iconst d221_33 ic_4) ?_
    refine Eq.trans (li_ivI d221_34 ca_12_258 kd_222 kl_222 (by rfl) (by rfl) h0 (Nat.le_of_ble_eq_true rfl) (Nat.le_of_ble_eq_true rfl)) ?_
    refine lt_cI_c (fun v3 m4 => ?_)
    exact li_iret d221_37 rfl
  · refine Eq.trans (li_iconst d221_13 ic_n1) ?_
    exact li_iret d221_14 rfl
/-! TransitSealsModel.debts(II)I -/
theorem d222_0 : decode Y222.2.1 0 = .ok (.iconst 0, 1) := by decide +kernel
theorem d222_1 : decode Y222.2.1 1 = .ok (.istore_n 3, 1) := by decide +kernel
theorem d222_2 : decode Y222.2.1 2 = .ok (.iconst 0, 1) := by decide +kernel
theorem d222_3 : decode Y222.2.1 3 = .ok (.istore 4, 2) := by decide +kernel
theorem d222_5 : decode Y222.2.1 5 = .ok (.iload 4, 2) := by decide +kernel
theorem d222_7 : decode Y222.2.1 7 = .ok (.aload_n 0, 1) := by decide +kernel
theorem d222_8 : decode Y222.2.1 8 = .ok (.getfield 7, 3) := by decide +kernel
theorem d222_11 : decode Y222.2.1 11 = .ok (.iconst 2, 1) := by decide +kernel
theorem d222_12 : decode Y222.2.1 12 = .ok (.iaload, 1) := by decide +kernel
theorem d222_13 : decode Y222.2.1 13 = .ok (.if_icmp .ge 45, 3) := by decide +kernel
theorem d222_16 : decode Y222.2.1 16 = .ok (.iload_n 3, 1) := by decide +kernel
theorem d222_17 : decode Y222.2.1 17 = .ok (.aload_n 0, 1) := by decide +kernel
theorem d222_18 : decode Y222.2.1 18 = .ok (.iload 4, 2) := by decide +kernel
theorem d222_20 : decode Y222.2.1 20 = .ok (.iconst 0, 1) := by decide +kernel
theorem d222_21 : decode Y222.2.1 21 = .ok (.invokevirtual 83, 3) := by decide +kernel
theorem d222_24 : decode Y222.2.1 24 = .ok (.iload_n 1, 1) := by decide +kernel
theorem d222_25 : decode Y222.2.1 25 = .ok (.if_icmp .ne 24, 3) := by decide +kernel
theorem d222_28 : decode Y222.2.1 28 = .ok (.aload_n 0, 1) := by decide +kernel
theorem d222_29 : decode Y222.2.1 29 = .ok (.iload 4, 2) := by decide +kernel
theorem d222_31 : decode Y222.2.1 31 = .ok (.invokevirtual 87, 3) := by decide +kernel
theorem d222_34 : decode Y222.2.1 34 = .ok (.iload_n 2, 1) := by decide +kernel
theorem d222_35 : decode Y222.2.1 35 = .ok (.if_icmp .ne 14, 3) := by decide +kernel
theorem d222_38 : decode Y222.2.1 38 = .ok (.aload_n 0, 1) := by decide +kernel
theorem d222_39 : decode Y222.2.1 39 = .ok (.iload 4, 2) := by decide +kernel
theorem d222_41 : decode Y222.2.1 41 = .ok (.bipush 8, 2) := by decide +kernel
theorem d222_43 : decode Y222.2.1 43 = .ok (.invokevirtual 83, 3) := by decide +kernel
theorem d222_46 : decode Y222.2.1 46 = .ok (.goto 4, 3) := by decide +kernel
theorem d222_49 : decode Y222.2.1 49 = .ok (.iconst 0, 1) := by decide +kernel
theorem d222_50 : decode Y222.2.1 50 = .ok (.iadd, 1) := by decide +kernel
theorem d222_51 : decode Y222.2.1 51 = .ok (.istore_n 3, 1) := by decide +kernel
theorem d222_52 : decode Y222.2.1 52 = .ok (.iinc 4 1, 3) := by decide +kernel
theorem d222_55 : decode Y222.2.1 55 = .ok (.goto (-50), 3) := by decide +kernel
theorem d222_58 : decode Y222.2.1 58 = .ok (.iload_n 3, 1) := by decide +kernel
theorem d222_59 : decode Y222.2.1 59 = .ok (.ireturn, 1) := by decide +kernel
noncomputable def L222_5 (d : Nat) (a0 : Nat) (x1 : Int32) (x2 : Int32) (x3 : Int32) (x4 : Int32) (m : lt_m) : Option lt_r := lt_run d Y222 5 [some (.inr (.inr (some a0))), some (.inl x1), some (.inl x2), some (.inl x3), some (.inl x4)] [] m
theorem E222 (d : Nat) (a0 : Nat) (x1 : Int32) (x2 : Int32) (h0 : ts_sh a0 = (0, 12)) (m : lt_m) : lt_ev (d + 1) 222 [.inr (.inr (some a0)), .inl x1, .inl x2] m = L222_5 d a0 x1 x2 (0 : Int32) (0 : Int32) m := by
  refine Eq.trans (lt_enter2 (ls := [some (.inr (.inr (some a0))), some (.inl x1), some (.inl x2), none, none]) hY222 (Nat.le_of_ble_eq_true rfl) (by rfl)) ?_
  refine Eq.trans (li_iconst d222_0 ic_0) ?_
  refine Eq.trans (li_istore_n (ls' := [some (.inr (.inr (some a0))), some (.inl x1), some (.inl x2), some (.inl (0 : Int32)), none]) d222_1 (by decide) (by rfl)) ?_
  refine Eq.trans (li_iconst d222_2 ic_0) ?_
  refine Eq.trans (li_istore (ls' := [some (.inr (.inr (some a0))), some (.inl x1), some (.inl x2), some (.inl (0 : Int32)), some (.inl (0 : Int32))]) d222_3 (by decide) (by rfl)) ?_
  rfl
theorem E222_5 (d : Nat) (a0 : Nat) (x1 : Int32) (x2 : Int32) (x3 : Int32) (x4 : Int32) (h0 : ts_sh a0 = (0, 12)) (m : lt_m) : L222_5 d a0 x1 x2 x3 x4 m = lt_gd (0 ≤ (2 : Int32) ∧ ((2 : Int32)).toNatClampNeg < 626) (if (m.1 (a0 + 1) ((2 : Int32)).toNatClampNeg) ≤ x4 then (some (some (.inl x3), m)) else (lt_cI (lt_ev d 198 [.inr (.inr (some a0)), .inl x4, .inl (0 : Int32)] m) (fun v1 m1 => (if ¬ v1 = x1 then (L222_5 d a0 x1 x2 (x3 + (0 : Int32)) (x4 + (1 : Int32)) m1) else (lt_cI (lt_ev d 197 [.inr (.inr (some a0)), .inl x4] m1) (fun v2 m2 => (if ¬ v2 = x2 then (L222_5 d a0 x1 x2 (x3 + (0 : Int32)) (x4 + (1 : Int32)) m2) else (lt_cI (lt_ev d 198 [.inr (.inr (some a0)), .inl x4, .inl (8 : Int32)] m2) (fun v3 m3 => (L222_5 d a0 x1 x2 (x3 + v3) (x4 + (1 : Int32)) m3)))))))))) := by
  show lt_run d Y222 5 [some (.inr (.inr (some a0))), some (.inl x1), some (.inl x2), some (.inl x3), some (.inl x4)] [] m = _
  refine Eq.trans (li_iload d222_5 (by rfl)) ?_
  refine Eq.trans (li_aload_n d222_7 (by rfl)) ?_
  refine Eq.trans (li_getr d222_8 fa_12_7 h0 rfl rfl rfl (by decide)) ?_
  refine Eq.trans (li_iconst d222_11 ic_2) ?_
  refine Eq.trans (li_iald d222_12 (sf_of h0 0 (by decide) (by decide))) ?_
  refine lt_gd_c (fun g1 => ?_)
  refine Eq.trans (li_icmp_ge (t := 58) d222_13 (by rfl)) ?_
  refine lt_ite (fun c1 => ?_) (fun c1 => ?_)
  · refine Eq.trans (li_iload_n d222_58 (by rfl)) ?_
    exact li_iret d222_59 rfl
  · refine Eq.trans (li_iload_n d222_16 (by rfl)) ?_
    refine Eq.trans (li_aload_n d222_17 (by rfl)) ?_
    refine Eq.trans (li_iload d222_18 (by rfl)) ?_
    refine Eq.trans (li_iconst d222_20 ic_0) ?_
    refine Eq.trans (li_ivI d222_21 ca_12_83 kd_198 kl_198 (by rfl) (by rfl) h0 (Nat.le_of_ble_eq_true rfl) (Nat.le_of_ble_eq_true rfl)) ?_
    refine lt_cI_c (fun v1 m1 => ?_)
    refine Eq.trans (li_iload_n d222_24 (by rfl)) ?_
    refine Eq.trans (li_icmp_ne (t := 49) d222_25 (by rfl)) ?_
    refine lt_ite (fun c2 => ?_) (fun c2 => ?_)
    · refine Eq.trans (li_iconst d222_49 ic_0) ?_
      refine Eq.trans (li_iadd d222_50) ?_
      refine Eq.trans (li_istore_n (ls' := [some (.inr (.inr (some a0))), some (.inl x1), some (.inl x2), some (.inl (x3 + (0 : Int32))), some (.inl x4)]) d222_51 (by decide) (by rfl)) ?_
      refine Eq.trans (li_iinc (ls' := [some (.inr (.inr (some a0))), some (.inl x1), some (.inl x2), some (.inl (x3 + (0 : Int32))), some (.inl (x4 + (1 : Int32)))]) d222_52 (by rfl) (by decide) ic_1 (by rfl)) ?_
      refine Eq.trans (li_goto (t := 5) d222_55 (by rfl)) ?_
      rfl
    · refine Eq.trans (li_aload_n d222_28 (by rfl)) ?_
      refine Eq.trans (li_iload d222_29 (by rfl)) ?_
      refine Eq.trans (li_ivI d222_31 ca_12_87 kd_197 kl_197 (by rfl) (by rfl) h0 (Nat.le_of_ble_eq_true rfl) (Nat.le_of_ble_eq_true rfl)) ?_
      refine lt_cI_c (fun v2 m2 => ?_)
      refine Eq.trans (li_iload_n d222_34 (by rfl)) ?_
      refine Eq.trans (li_icmp_ne (t := 49) d222_35 (by rfl)) ?_
      refine lt_ite (fun c3 => ?_) (fun c3 => ?_)
      · refine Eq.trans (li_iconst d222_49 ic_0) ?_
        refine Eq.trans (li_iadd d222_50) ?_
        refine Eq.trans (li_istore_n (ls' := [some (.inr (.inr (some a0))), some (.inl x1), some (.inl x2), some (.inl (x3 + (0 : Int32))), some (.inl x4)]) d222_51 (by decide) (by rfl)) ?_
        refine Eq.trans (li_iinc (ls' := [some (.inr (.inr (some a0))), some (.inl x1), some (.inl x2), some (.inl (x3 + (0 : Int32))), some (.inl (x4 + (1 : Int32)))]) d222_52 (by rfl) (by decide) ic_1 (by rfl)) ?_
        refine Eq.trans (li_goto (t := 5) d222_55 (by rfl)) ?_
        rfl
      · refine Eq.trans (li_aload_n d222_38 (by rfl)) ?_
        refine Eq.trans (li_iload d222_39 (by rfl)) ?_
        refine Eq.trans (li_bipush d222_41 bi_8) ?_
        refine Eq.trans (li_ivI d222_43 ca_12_83 kd_198 kl_198 (by rfl) (by rfl) h0 (Nat.le_of_ble_eq_true rfl) (Nat.le_of_ble_eq_true rfl)) ?_
        refine lt_cI_c (fun v3 m3 => ?_)
        refine Eq.trans (li_goto (t := 50) d222_46 (by rfl)) ?_
        refine Eq.trans (li_iadd d222_50) ?_
        refine Eq.trans (li_istore_n (ls' := [some (.inr (.inr (some a0))), some (.inl x1), some (.inl x2), some (.inl (x3 + v3)), some (.inl x4)]) d222_51 (by decide) (by rfl)) ?_
        refine Eq.trans (li_iinc (ls' := [some (.inr (.inr (some a0))), some (.inl x1), some (.inl x2), some (.inl (x3 + v3)), some (.inl (x4 + (1 : Int32)))]) d222_52 (by rfl) (by decide) ic_1 (by rfl)) ?_
        refine Eq.trans (li_goto (t := 5) d222_55 (by rfl)) ?_
        rfl
/-! TransitSealsModel.starts(III)I -/
theorem d223_0 : decode Y223.2.1 0 = .ok (.aload_n 0, 1) := by decide +kernel
theorem d223_1 : decode Y223.2.1 1 = .ok (.iconst 0, 1) := by decide +kernel
theorem d223_2 : decode Y223.2.1 2 = .ok (.putfield 67, 3) := by decide +kernel
theorem d223_5 : decode Y223.2.1 5 = .ok (.aload_n 0, 1) := by decide +kernel
theorem d223_6 : decode Y223.2.1 6 = .ok (.invokevirtual 261, 3) := by decide +kernel
theorem d223_9 : decode Y223.2.1 9 = .ok (.aload_n 0, 1) := by decide +kernel
theorem d223_10 : decode Y223.2.1 10 = .ok (.getfield 107, 3) := by decide +kernel
theorem d223_13 : decode Y223.2.1 13 = .ok (.iconst (-1), 1) := by decide +kernel
theorem d223_14 : decode Y223.2.1 14 = .ok (.if_icmp .eq 11, 3) := by decide +kernel
theorem d223_17 : decode Y223.2.1 17 = .ok (.bipush (-21), 2) := by decide +kernel
theorem d223_19 : decode Y223.2.1 19 = .ok (.aload_n 0, 1) := by decide +kernel
theorem d223_20 : decode Y223.2.1 20 = .ok (.getfield 107, 3) := by decide +kernel
theorem d223_23 : decode Y223.2.1 23 = .ok (.isub, 1) := by decide +kernel
theorem d223_24 : decode Y223.2.1 24 = .ok (.ireturn, 1) := by decide +kernel
theorem d223_25 : decode Y223.2.1 25 = .ok (.aload_n 0, 1) := by decide +kernel
theorem d223_26 : decode Y223.2.1 26 = .ok (.iload_n 1, 1) := by decide +kernel
theorem d223_27 : decode Y223.2.1 27 = .ok (.invokevirtual 246, 3) := by decide +kernel
theorem d223_30 : decode Y223.2.1 30 = .ok (.ifCond .eq 23, 3) := by decide +kernel
theorem d223_33 : decode Y223.2.1 33 = .ok (.aload_n 0, 1) := by decide +kernel
theorem d223_34 : decode Y223.2.1 34 = .ok (.iload_n 2, 1) := by decide +kernel
theorem d223_35 : decode Y223.2.1 35 = .ok (.invokevirtual 264, 3) := by decide +kernel
theorem d223_38 : decode Y223.2.1 38 = .ok (.ifCond .eq 15, 3) := by decide +kernel
theorem d223_41 : decode Y223.2.1 41 = .ok (.iload_n 3, 1) := by decide +kernel
theorem d223_42 : decode Y223.2.1 42 = .ok (.i2l, 1) := by decide +kernel
theorem d223_43 : decode Y223.2.1 43 = .ok (.lconst 1, 1) := by decide +kernel
theorem d223_44 : decode Y223.2.1 44 = .ok (.ldc2_w 267, 3) := by decide +kernel
theorem d223_47 : decode Y223.2.1 47 = .ok (.invokestatic 76, 3) := by decide +kernel
theorem d223_50 : decode Y223.2.1 50 = .ok (.ifCond .ne 5, 3) := by decide +kernel
theorem d223_53 : decode Y223.2.1 53 = .ok (.iconst (-1), 1) := by decide +kernel
theorem d223_54 : decode Y223.2.1 54 = .ok (.ireturn, 1) := by decide +kernel
theorem d223_55 : decode Y223.2.1 55 = .ok (.aload_n 0, 1) := by decide +kernel
theorem d223_56 : decode Y223.2.1 56 = .ok (.getfield 7, 3) := by decide +kernel
theorem d223_59 : decode Y223.2.1 59 = .ok (.iconst 2, 1) := by decide +kernel
theorem d223_60 : decode Y223.2.1 60 = .ok (.iaload, 1) := by decide +kernel
theorem d223_61 : decode Y223.2.1 61 = .ok (.bipush 20, 2) := by decide +kernel
theorem d223_63 : decode Y223.2.1 63 = .ok (.if_icmp .ne 6, 3) := by decide +kernel
theorem d223_66 : decode Y223.2.1 66 = .ok (.bipush (-2), 2) := by decide +kernel
theorem d223_68 : decode Y223.2.1 68 = .ok (.ireturn, 1) := by decide +kernel
theorem d223_69 : decode Y223.2.1 69 = .ok (.aload_n 0, 1) := by decide +kernel
theorem d223_70 : decode Y223.2.1 70 = .ok (.iload_n 1, 1) := by decide +kernel
theorem d223_71 : decode Y223.2.1 71 = .ok (.invokevirtual 249, 3) := by decide +kernel
theorem d223_74 : decode Y223.2.1 74 = .ok (.iload_n 3, 1) := by decide +kernel
theorem d223_75 : decode Y223.2.1 75 = .ok (.aload_n 0, 1) := by decide +kernel
theorem d223_76 : decode Y223.2.1 76 = .ok (.getfield 25, 3) := by decide +kernel
theorem d223_79 : decode Y223.2.1 79 = .ok (.iload_n 2, 1) := by decide +kernel
theorem d223_80 : decode Y223.2.1 80 = .ok (.iaload, 1) := by decide +kernel
theorem d223_81 : decode Y223.2.1 81 = .ok (.imul, 1) := by decide +kernel
theorem d223_82 : decode Y223.2.1 82 = .ok (.invokestatic 269, 3) := by decide +kernel
theorem d223_85 : decode Y223.2.1 85 = .ok (.istore 4, 2) := by decide +kernel
theorem d223_87 : decode Y223.2.1 87 = .ok (.iload 4, 2) := by decide +kernel
theorem d223_89 : decode Y223.2.1 89 = .ok (.aload_n 0, 1) := by decide +kernel
theorem d223_90 : decode Y223.2.1 90 = .ok (.iload_n 1, 1) := by decide +kernel
theorem d223_91 : decode Y223.2.1 91 = .ok (.invokevirtual 252, 3) := by decide +kernel
theorem d223_94 : decode Y223.2.1 94 = .ok (.if_icmp .le 6, 3) := by decide +kernel
theorem d223_97 : decode Y223.2.1 97 = .ok (.bipush (-3), 2) := by decide +kernel
theorem d223_99 : decode Y223.2.1 99 = .ok (.ireturn, 1) := by decide +kernel
theorem d223_100 : decode Y223.2.1 100 = .ok (.aload_n 0, 1) := by decide +kernel
theorem d223_101 : decode Y223.2.1 101 = .ok (.invokevirtual 243, 3) := by decide +kernel
theorem d223_104 : decode Y223.2.1 104 = .ok (.aload_n 0, 1) := by decide +kernel
theorem d223_105 : decode Y223.2.1 105 = .ok (.getfield 7, 3) := by decide +kernel
theorem d223_108 : decode Y223.2.1 108 = .ok (.iconst 2, 1) := by decide +kernel
theorem d223_109 : decode Y223.2.1 109 = .ok (.iaload, 1) := by decide +kernel
theorem d223_110 : decode Y223.2.1 110 = .ok (.istore 5, 2) := by decide +kernel
theorem d223_112 : decode Y223.2.1 112 = .ok (.aload_n 0, 1) := by decide +kernel
theorem d223_113 : decode Y223.2.1 113 = .ok (.getfield 7, 3) := by decide +kernel
theorem d223_116 : decode Y223.2.1 116 = .ok (.iconst 2, 1) := by decide +kernel
theorem d223_117 : decode Y223.2.1 117 = .ok (.dup2, 1) := by decide +kernel
theorem d223_118 : decode Y223.2.1 118 = .ok (.iaload, 1) := by decide +kernel
theorem d223_119 : decode Y223.2.1 119 = .ok (.iconst 1, 1) := by decide +kernel
theorem d223_120 : decode Y223.2.1 120 = .ok (.iadd, 1) := by decide +kernel
theorem d223_121 : decode Y223.2.1 121 = .ok (.iastore, 1) := by decide +kernel
theorem d223_122 : decode Y223.2.1 122 = .ok (.iconst 0, 1) := by decide +kernel
theorem d223_123 : decode Y223.2.1 123 = .ok (.istore 6, 2) := by decide +kernel
theorem d223_125 : decode Y223.2.1 125 = .ok (.iload 6, 2) := by decide +kernel
theorem d223_127 : decode Y223.2.1 127 = .ok (.bipush 26, 2) := by decide +kernel
theorem d223_129 : decode Y223.2.1 129 = .ok (.if_icmp .ge 18, 3) := by decide +kernel
theorem d223_132 : decode Y223.2.1 132 = .ok (.aload_n 0, 1) := by decide +kernel
theorem d223_133 : decode Y223.2.1 133 = .ok (.iload 5, 2) := by decide +kernel
theorem d223_135 : decode Y223.2.1 135 = .ok (.iload 6, 2) := by decide +kernel
theorem d223_137 : decode Y223.2.1 137 = .ok (.iconst 0, 1) := by decide +kernel
theorem d223_138 : decode Y223.2.1 138 = .ok (.invokevirtual 94, 3) := by decide +kernel
theorem d223_141 : decode Y223.2.1 141 = .ok (.iinc 6 1, 3) := by decide +kernel
theorem d223_144 : decode Y223.2.1 144 = .ok (.goto (-19), 3) := by decide +kernel
theorem d223_147 : decode Y223.2.1 147 = .ok (.aload_n 0, 1) := by decide +kernel
theorem d223_148 : decode Y223.2.1 148 = .ok (.iload 5, 2) := by decide +kernel
theorem d223_150 : decode Y223.2.1 150 = .ok (.iconst 0, 1) := by decide +kernel
theorem d223_151 : decode Y223.2.1 151 = .ok (.iload_n 1, 1) := by decide +kernel
theorem d223_152 : decode Y223.2.1 152 = .ok (.invokevirtual 94, 3) := by decide +kernel
theorem d223_155 : decode Y223.2.1 155 = .ok (.aload_n 0, 1) := by decide +kernel
theorem d223_156 : decode Y223.2.1 156 = .ok (.iload 5, 2) := by decide +kernel
theorem d223_158 : decode Y223.2.1 158 = .ok (.iconst 1, 1) := by decide +kernel
theorem d223_159 : decode Y223.2.1 159 = .ok (.iload_n 2, 1) := by decide +kernel
theorem d223_160 : decode Y223.2.1 160 = .ok (.invokevirtual 94, 3) := by decide +kernel
theorem d223_163 : decode Y223.2.1 163 = .ok (.aload_n 0, 1) := by decide +kernel
theorem d223_164 : decode Y223.2.1 164 = .ok (.iload 5, 2) := by decide +kernel
theorem d223_166 : decode Y223.2.1 166 = .ok (.iconst 2, 1) := by decide +kernel
theorem d223_167 : decode Y223.2.1 167 = .ok (.iload_n 3, 1) := by decide +kernel
theorem d223_168 : decode Y223.2.1 168 = .ok (.invokevirtual 94, 3) := by decide +kernel
theorem d223_171 : decode Y223.2.1 171 = .ok (.aload_n 0, 1) := by decide +kernel
theorem d223_172 : decode Y223.2.1 172 = .ok (.iload 5, 2) := by decide +kernel
theorem d223_174 : decode Y223.2.1 174 = .ok (.iconst 4, 1) := by decide +kernel
theorem d223_175 : decode Y223.2.1 175 = .ok (.iload 4, 2) := by decide +kernel
theorem d223_177 : decode Y223.2.1 177 = .ok (.invokevirtual 94, 3) := by decide +kernel
theorem d223_180 : decode Y223.2.1 180 = .ok (.aload_n 0, 1) := by decide +kernel
theorem d223_181 : decode Y223.2.1 181 = .ok (.iload 5, 2) := by decide +kernel
theorem d223_183 : decode Y223.2.1 183 = .ok (.iconst 5, 1) := by decide +kernel
theorem d223_184 : decode Y223.2.1 184 = .ok (.aload_n 0, 1) := by decide +kernel
theorem d223_185 : decode Y223.2.1 185 = .ok (.getfield 7, 3) := by decide +kernel
theorem d223_188 : decode Y223.2.1 188 = .ok (.iconst 0, 1) := by decide +kernel
theorem d223_189 : decode Y223.2.1 189 = .ok (.iaload, 1) := by decide +kernel
theorem d223_190 : decode Y223.2.1 190 = .ok (.iconst 2, 1) := by decide +kernel
theorem d223_191 : decode Y223.2.1 191 = .ok (.aload_n 0, 1) := by decide +kernel
theorem d223_192 : decode Y223.2.1 192 = .ok (.getfield 164, 3) := by decide +kernel
theorem d223_195 : decode Y223.2.1 195 = .ok (.imul, 1) := by decide +kernel
theorem d223_196 : decode Y223.2.1 196 = .ok (.iadd, 1) := by decide +kernel
theorem d223_197 : decode Y223.2.1 197 = .ok (.bipush 24, 2) := by decide +kernel
theorem d223_199 : decode Y223.2.1 199 = .ok (.iadd, 1) := by decide +kernel
theorem d223_200 : decode Y223.2.1 200 = .ok (.invokevirtual 94, 3) := by decide +kernel
theorem d223_203 : decode Y223.2.1 203 = .ok (.aload_n 0, 1) := by decide +kernel
theorem d223_204 : decode Y223.2.1 204 = .ok (.iload 5, 2) := by decide +kernel
theorem d223_206 : decode Y223.2.1 206 = .ok (.bipush 6, 2) := by decide +kernel
theorem d223_208 : decode Y223.2.1 208 = .ok (.iconst 1, 1) := by decide +kernel
theorem d223_209 : decode Y223.2.1 209 = .ok (.invokevirtual 94, 3) := by decide +kernel
theorem d223_212 : decode Y223.2.1 212 = .ok (.aload_n 0, 1) := by decide +kernel
theorem d223_213 : decode Y223.2.1 213 = .ok (.iload 5, 2) := by decide +kernel
theorem d223_215 : decode Y223.2.1 215 = .ok (.bipush 9, 2) := by decide +kernel
theorem d223_217 : decode Y223.2.1 217 = .ok (.aload_n 0, 1) := by decide +kernel
theorem d223_218 : decode Y223.2.1 218 = .ok (.getfield 161, 3) := by decide +kernel
theorem d223_221 : decode Y223.2.1 221 = .ok (.invokevirtual 94, 3) := by decide +kernel
theorem d223_224 : decode Y223.2.1 224 = .ok (.iconst 0, 1) := by decide +kernel
theorem d223_225 : decode Y223.2.1 225 = .ok (.istore 6, 2) := by decide +kernel
theorem d223_227 : decode Y223.2.1 227 = .ok (.iload 6, 2) := by decide +kernel
theorem d223_229 : decode Y223.2.1 229 = .ok (.aload_n 0, 1) := by decide +kernel
theorem d223_230 : decode Y223.2.1 230 = .ok (.getfield 161, 3) := by decide +kernel
theorem d223_233 : decode Y223.2.1 233 = .ok (.if_icmp .ge 27, 3) := by decide +kernel
theorem d223_236 : decode Y223.2.1 236 = .ok (.aload_n 0, 1) := by decide +kernel
theorem d223_237 : decode Y223.2.1 237 = .ok (.iload 5, 2) := by decide +kernel
theorem d223_239 : decode Y223.2.1 239 = .ok (.bipush 10, 2) := by decide +kernel
theorem d223_241 : decode Y223.2.1 241 = .ok (.iload 6, 2) := by decide +kernel
theorem d223_243 : decode Y223.2.1 243 = .ok (.iadd, 1) := by decide +kernel
theorem d223_244 : decode Y223.2.1 244 = .ok (.aload_n 0, 1) := by decide +kernel
theorem d223_245 : decode Y223.2.1 245 = .ok (.getfield 49, 3) := by decide +kernel
theorem d223_248 : decode Y223.2.1 248 = .ok (.iload 6, 2) := by decide +kernel
theorem d223_250 : decode Y223.2.1 250 = .ok (.iaload, 1) := by decide +kernel
theorem d223_251 : decode Y223.2.1 251 = .ok (.invokevirtual 94, 3) := by decide +kernel
theorem d223_254 : decode Y223.2.1 254 = .ok (.iinc 6 1, 3) := by decide +kernel
theorem d223_257 : decode Y223.2.1 257 = .ok (.goto (-30), 3) := by decide +kernel
theorem d223_260 : decode Y223.2.1 260 = .ok (.aload_n 0, 1) := by decide +kernel
theorem d223_261 : decode Y223.2.1 261 = .ok (.iload 5, 2) := by decide +kernel
theorem d223_263 : decode Y223.2.1 263 = .ok (.bipush 18, 2) := by decide +kernel
theorem d223_265 : decode Y223.2.1 265 = .ok (.aload_n 0, 1) := by decide +kernel
theorem d223_266 : decode Y223.2.1 266 = .ok (.getfield 7, 3) := by decide +kernel
theorem d223_269 : decode Y223.2.1 269 = .ok (.iconst 0, 1) := by decide +kernel
theorem d223_270 : decode Y223.2.1 270 = .ok (.iaload, 1) := by decide +kernel
theorem d223_271 : decode Y223.2.1 271 = .ok (.invokevirtual 94, 3) := by decide +kernel
theorem d223_274 : decode Y223.2.1 274 = .ok (.aload_n 0, 1) := by decide +kernel
theorem d223_275 : decode Y223.2.1 275 = .ok (.iconst 0, 1) := by decide +kernel
theorem d223_276 : decode Y223.2.1 276 = .ok (.iload 5, 2) := by decide +kernel
theorem d223_278 : decode Y223.2.1 278 = .ok (.aload_n 0, 1) := by decide +kernel
theorem d223_279 : decode Y223.2.1 279 = .ok (.getfield 7, 3) := by decide +kernel
theorem d223_282 : decode Y223.2.1 282 = .ok (.iconst 0, 1) := by decide +kernel
theorem d223_283 : decode Y223.2.1 283 = .ok (.iaload, 1) := by decide +kernel
theorem d223_284 : decode Y223.2.1 284 = .ok (.invokevirtual 98, 3) := by decide +kernel
theorem d223_287 : decode Y223.2.1 287 = .ok (.iload 5, 2) := by decide +kernel
theorem d223_289 : decode Y223.2.1 289 = .ok (.ireturn, 1) := by decide +kernel
noncomputable def L223_125 (d : Nat) (a0 : Nat) (x1 : Int32) (x2 : Int32) (x3 : Int32) (x4 : Int32) (x5 : Int32) (x6 : Int32) (m : lt_m) : Option lt_r := lt_run d Y223 125 [some (.inr (.inr (some a0))), some (.inl x1), some (.inl x2), some (.inl x3), some (.inl x4), some (.inl x5), some (.inl x6)] [] m
noncomputable def L223_227 (d : Nat) (a0 : Nat) (x1 : Int32) (x2 : Int32) (x3 : Int32) (x4 : Int32) (x5 : Int32) (x6 : Int32) (m : lt_m) : Option lt_r := lt_run d Y223 227 [some (.inr (.inr (some a0))), some (.inl x1), some (.inl x2), some (.inl x3), some (.inl x4), some (.inl x5), some (.inl x6)] [] m
theorem E223 (d : Nat) (a0 : Nat) (x1 : Int32) (x2 : Int32) (x3 : Int32) (h0 : ts_sh a0 = (0, 12)) (m : lt_m) : lt_ev (d + 1) 223 [.inr (.inr (some a0)), .inl x1, .inl x2, .inl x3] m = lt_cV (lt_ev d 224 [.inr (.inr (some a0))] (lm_i m a0 15 (0 : Int32))) (fun m1 => (if (m1.1 a0 18) = (-1 : Int32) then (lt_cI (lt_ev d 213 [.inr (.inr (some a0)), .inl x1] m1) (fun v1 m2 => (if v1 = 0 then (some (some (.inl (-1 : Int32)), m2)) else (lt_cI (lt_ev d 226 [.inr (.inr (some a0)), .inl x2] m2) (fun v2 m3 => (if v2 = 0 then (some (some (.inl (-1 : Int32)), m3)) else (lt_cI (lt_ev d 181 [.inr (.inl ((x3).toInt64)), .inr (.inl (1 : Int64)), .inr (.inl (999 : Int64))] m3) (fun v3 m4 => (if ¬ v3 = 0 then (lt_gd (0 ≤ (2 : Int32) ∧ ((2 : Int32)).toNatClampNeg < 626) (if ¬ (m4.1 (a0 + 1) ((2 : Int32)).toNatClampNeg) = (20 : Int32) then (lt_cI (lt_ev d 218 [.inr (.inr (some a0)), .inl x1] m4) (fun v4 m5 => (lt_gd (0 ≤ x2 ∧ (x2).toNatClampNeg < 6) (lt_cI (lt_ev d 227 [.inl v4, .inl (x3 * (m5.1 (a0 + 6) (x2).toNatClampNeg))] m5) (fun v5 m6 => (lt_cI (lt_ev d 219 [.inr (.inr (some a0)), .inl x1] m6) (fun v6 m7 => (if v5 ≤ v6 then (lt_cV (lt_ev d 211 [.inr (.inr (some a0))] m7) (fun m8 => (lt_gd (0 ≤ (2 : Int32) ∧ ((2 : Int32)).toNatClampNeg < 626) (lt_gd (0 ≤ (2 : Int32) ∧ ((2 : Int32)).toNatClampNeg < 626) (lt_gd (0 ≤ (2 : Int32) ∧ ((2 : Int32)).toNatClampNeg < 626) (L223_125 d a0 x1 x2 x3 v5 (m8.1 (a0 + 1) ((2 : Int32)).toNatClampNeg) (0 : Int32) (lm_i m8 (a0 + 1) ((2 : Int32)).toNatClampNeg ((m8.1 (a0 + 1) ((2 : Int32)).toNatClampNeg) + (1 : Int32))))))))) else (some (some (.inl (-3 : Int32)), m7)))))))))) else (some (some (.inl (-2 : Int32)), m4)))) else (some (some (.inl (-1 : Int32)), m4))))))))))) else (some (some (.inl ((-21 : Int32) - (m1.1 a0 18))), m1)))) := by
  refine Eq.trans (lt_enter2 (ls := [some (.inr (.inr (some a0))), some (.inl x1), some (.inl x2), some (.inl x3), none, none, none]) hY223 (Nat.le_of_ble_eq_true rfl) (by rfl)) ?_
  refine Eq.trans (li_aload_n d223_0 (by rfl)) ?_
  refine Eq.trans (li_iconst d223_1 ic_0) ?_
  refine Eq.trans (li_puti d223_2 fa_12_67 h0 rfl rfl) ?_
  refine Eq.trans (li_aload_n d223_5 (by rfl)) ?_
  refine Eq.trans (li_ivV d223_6 ca_12_261 kd_224 kl_224 (by rfl) (by rfl) h0 (Nat.le_of_ble_eq_true rfl) (Nat.le_of_ble_eq_true rfl)) ?_
  refine lt_cV_c (fun m1 => ?_)
  refine Eq.trans (li_aload_n d223_9 (by rfl)) ?_
  refine Eq.trans (li_geti d223_10 fa_12_107 h0 rfl) ?_
  refine Eq.trans (li_iconst d223_13 ic_n1) ?_
  refine Eq.trans (li_icmp_eq (t := 25) d223_14 (by rfl)) ?_
  refine lt_ite (fun c1 => ?_) (fun c1 => ?_)
  · refine Eq.trans (li_aload_n d223_25 (by rfl)) ?_
    refine Eq.trans (li_iload_n d223_26 (by rfl)) ?_
    refine Eq.trans (li_ivI d223_27 ca_12_246 kd_213 kl_213 (by rfl) (by rfl) h0 (Nat.le_of_ble_eq_true rfl) (Nat.le_of_ble_eq_true rfl)) ?_
    refine lt_cI_c (fun v1 m2 => ?_)
    refine Eq.trans (li_if_eq (t := 53) d223_30 (by rfl)) ?_
    refine lt_ite (fun c2 => ?_) (fun c2 => ?_)
    · refine Eq.trans (li_iconst d223_53 ic_n1) ?_
      exact li_iret d223_54 rfl
    · refine Eq.trans (li_aload_n d223_33 (by rfl)) ?_
      refine Eq.trans (li_iload_n d223_34 (by rfl)) ?_
      refine Eq.trans (li_ivI d223_35 ca_12_264 kd_226 kl_226 (by rfl) (by rfl) h0 (Nat.le_of_ble_eq_true rfl) (Nat.le_of_ble_eq_true rfl)) ?_
      refine lt_cI_c (fun v2 m3 => ?_)
      refine Eq.trans (li_if_eq (t := 53) d223_38 (by rfl)) ?_
      refine lt_ite (fun c3 => ?_) (fun c3 => ?_)
      · refine Eq.trans (li_iconst d223_53 ic_n1) ?_
        exact li_iret d223_54 rfl
      · refine Eq.trans (li_iload_n d223_41 (by rfl)) ?_
        refine Eq.trans (li_i2l d223_42) ?_
        refine Eq.trans (li_lconst (v := 1) d223_43 (by decide)) ?_
        refine Eq.trans (li_ldc2_w d223_44 cJ_12_267) ?_
        refine Eq.trans (li_isI d223_47 bi_12_76 ca_12_76 kd_181 (by rfl) (by rfl) (Nat.le_of_ble_eq_true rfl) (Nat.le_of_ble_eq_true rfl)) ?_
        refine lt_cI_c (fun v3 m4 => ?_)
        refine Eq.trans (li_if_ne (t := 55) d223_50 (by rfl)) ?_
        refine lt_ite (fun c4 => ?_) (fun c4 => ?_)
        · refine Eq.trans (li_aload_n d223_55 (by rfl)) ?_
          refine Eq.trans (li_getr d223_56 fa_12_7 h0 rfl rfl rfl (by decide)) ?_
          refine Eq.trans (li_iconst d223_59 ic_2) ?_
          refine Eq.trans (li_iald d223_60 (sf_of h0 0 (by decide) (by decide))) ?_
          refine lt_gd_c (fun g1 => ?_)
          refine Eq.trans (li_bipush d223_61 bi_20) ?_
          refine Eq.trans (li_icmp_ne (t := 69) d223_63 (by rfl)) ?_
          refine lt_ite (fun c5 => ?_) (fun c5 => ?_)
          · refine Eq.trans (li_aload_n d223_69 (by rfl)) ?_
            refine Eq.trans (li_iload_n d223_70 (by rfl)) ?_
            refine Eq.trans (li_ivI d223_71 ca_12_249 kd_218 kl_218 (by rfl) (by rfl) h0 (Nat.le_of_ble_eq_true rfl) (Nat.le_of_ble_eq_true rfl)) ?_
            refine lt_cI_c (fun v4 m5 => ?_)
            refine Eq.trans (li_iload_n d223_74 (by rfl)) ?_
            refine Eq.trans (li_aload_n d223_75 (by rfl)) ?_
            refine Eq.trans (li_getr d223_76 fa_12_25 h0 rfl rfl rfl (by decide)) ?_
            refine Eq.trans (li_iload_n d223_79 (by rfl)) ?_
            refine Eq.trans (li_iald d223_80 (sf_of h0 7 (by decide) (by decide))) ?_
            refine lt_gd_c (fun g2 => ?_)
            refine Eq.trans (li_imul d223_81) ?_
            refine Eq.trans (li_isI d223_82 bi_12_269 ca_12_269 kd_227 (by rfl) (by rfl) (Nat.le_of_ble_eq_true rfl) (Nat.le_of_ble_eq_true rfl)) ?_
            refine lt_cI_c (fun v5 m6 => ?_)
            refine Eq.trans (li_istore (ls' := [some (.inr (.inr (some a0))), some (.inl x1), some (.inl x2), some (.inl x3), some (.inl v5), none, none]) d223_85 (by decide) (by rfl)) ?_
            refine Eq.trans (li_iload d223_87 (by rfl)) ?_
            refine Eq.trans (li_aload_n d223_89 (by rfl)) ?_
            refine Eq.trans (li_iload_n d223_90 (by rfl)) ?_
            refine Eq.trans (li_ivI d223_91 ca_12_252 kd_219 kl_219 (by rfl) (by rfl) h0 (Nat.le_of_ble_eq_true rfl) (Nat.le_of_ble_eq_true rfl)) ?_
            refine lt_cI_c (fun v6 m7 => ?_)
            refine Eq.trans (li_icmp_le (t := 100) d223_94 (by rfl)) ?_
            refine lt_ite (fun c6 => ?_) (fun c6 => ?_)
            · refine Eq.trans (li_aload_n d223_100 (by rfl)) ?_
              refine Eq.trans (li_ivV d223_101 ca_12_243 kd_211 kl_211 (by rfl) (by rfl) h0 (Nat.le_of_ble_eq_true rfl) (Nat.le_of_ble_eq_true rfl)) ?_
              refine lt_cV_c (fun m8 => ?_)
              refine Eq.trans (li_aload_n d223_104 (by rfl)) ?_
              refine Eq.trans (li_getr d223_105 fa_12_7 h0 rfl rfl rfl (by decide)) ?_
              refine Eq.trans (li_iconst d223_108 ic_2) ?_
              refine Eq.trans (li_iald d223_109 (sf_of h0 0 (by decide) (by decide))) ?_
              refine lt_gd_c (fun g3 => ?_)
              refine Eq.trans (li_istore (ls' := [some (.inr (.inr (some a0))), some (.inl x1), some (.inl x2), some (.inl x3), some (.inl v5), some (.inl (m8.1 (a0 + 1) ((2 : Int32)).toNatClampNeg)), none]) d223_110 (by decide) (by rfl)) ?_
              refine Eq.trans (li_aload_n d223_112 (by rfl)) ?_
              refine Eq.trans (li_getr d223_113 fa_12_7 h0 rfl rfl rfl (by decide)) ?_
              refine Eq.trans (li_iconst d223_116 ic_2) ?_
              refine Eq.trans (li_dup2 d223_117 rfl rfl) ?_
              refine Eq.trans (li_iald d223_118 (sf_of h0 0 (by decide) (by decide))) ?_
              refine lt_gd_c (fun g4 => ?_)
              refine Eq.trans (li_iconst d223_119 ic_1) ?_
              refine Eq.trans (li_iadd d223_120) ?_
              refine Eq.trans (li_iast d223_121 (sf_of h0 0 (by decide) (by decide))) ?_
              refine lt_gd_c (fun g5 => ?_)
              refine Eq.trans (li_iconst d223_122 ic_0) ?_
              refine Eq.trans (li_istore (ls' := [some (.inr (.inr (some a0))), some (.inl x1), some (.inl x2), some (.inl x3), some (.inl v5), some (.inl (m8.1 (a0 + 1) ((2 : Int32)).toNatClampNeg)), some (.inl (0 : Int32))]) d223_123 (by decide) (by rfl)) ?_
              rfl
            · refine Eq.trans (li_bipush d223_97 bi_n3) ?_
              exact li_iret d223_99 rfl
          · refine Eq.trans (li_bipush d223_66 bi_n2) ?_
            exact li_iret d223_68 rfl
        · refine Eq.trans (li_iconst d223_53 ic_n1) ?_
          exact li_iret d223_54 rfl
  · refine Eq.trans (li_bipush d223_17 bi_n21) ?_
    refine Eq.trans (li_aload_n d223_19 (by rfl)) ?_
    refine Eq.trans (li_geti d223_20 fa_12_107 h0 rfl) ?_
    refine Eq.trans (li_isub d223_23) ?_
    exact li_iret d223_24 rfl
theorem E223_125 (d : Nat) (a0 : Nat) (x1 : Int32) (x2 : Int32) (x3 : Int32) (x4 : Int32) (x5 : Int32) (x6 : Int32) (h0 : ts_sh a0 = (0, 12)) (m : lt_m) : L223_125 d a0 x1 x2 x3 x4 x5 x6 m = if (26 : Int32) ≤ x6 then (lt_cV (lt_ev d 228 [.inr (.inr (some a0)), .inl x5, .inl (0 : Int32), .inl x1] m) (fun m1 => (lt_cV (lt_ev d 228 [.inr (.inr (some a0)), .inl x5, .inl (1 : Int32), .inl x2] m1) (fun m2 => (lt_cV (lt_ev d 228 [.inr (.inr (some a0)), .inl x5, .inl (2 : Int32), .inl x3] m2) (fun m3 => (lt_cV (lt_ev d 228 [.inr (.inr (some a0)), .inl x5, .inl (4 : Int32), .inl x4] m3) (fun m4 => (lt_gd (0 ≤ (0 : Int32) ∧ ((0 : Int32)).toNatClampNeg < 626) (lt_cV (lt_ev d 228 [.inr (.inr (some a0)), .inl x5, .inl (5 : Int32), .inl (((m4.1 (a0 + 1) ((0 : Int32)).toNatClampNeg) + ((2 : Int32) * (m4.1 a0 27))) + (24 : Int32))] m4) (fun m5 => (lt_cV (lt_ev d 228 [.inr (.inr (some a0)), .inl x5, .inl (6 : Int32), .inl (1 : Int32)] m5) (fun m6 => (lt_cV (lt_ev d 228 [.inr (.inr (some a0)), .inl x5, .inl (9 : Int32), .inl (m6.1 a0 26)] m6) (fun m7 => (L223_227 d a0 x1 x2 x3 x4 x5 (0 : Int32) m7)))))))))))))))) else (lt_cV (lt_ev d 228 [.inr (.inr (some a0)), .inl x5, .inl x6, .inl (0 : Int32)] m) (fun m8 => (L223_125 d a0 x1 x2 x3 x4 x5 (x6 + (1 : Int32)) m8))) := by
  show lt_run d Y223 125 [some (.inr (.inr (some a0))), some (.inl x1), some (.inl x2), some (.inl x3), some (.inl x4), some (.inl x5), some (.inl x6)] [] m = _
  refine Eq.trans (li_iload d223_125 (by rfl)) ?_
  refine Eq.trans (li_bipush d223_127 bi_26) ?_
  refine Eq.trans (li_icmp_ge (t := 147) d223_129 (by rfl)) ?_
  refine lt_ite (fun c1 => ?_) (fun c1 => ?_)
  · refine Eq.trans (li_aload_n d223_147 (by rfl)) ?_
    refine Eq.trans (li_iload d223_148 (by rfl)) ?_
    refine Eq.trans (li_iconst d223_150 ic_0) ?_
    refine Eq.trans (li_iload_n d223_151 (by rfl)) ?_
    refine Eq.trans (li_ivV d223_152 ca_12_94 kd_228 kl_228 (by rfl) (by rfl) h0 (Nat.le_of_ble_eq_true rfl) (Nat.le_of_ble_eq_true rfl)) ?_
    refine lt_cV_c (fun m1 => ?_)
    refine Eq.trans (li_aload_n d223_155 (by rfl)) ?_
    refine Eq.trans (li_iload d223_156 (by rfl)) ?_
    refine Eq.trans (li_iconst d223_158 ic_1) ?_
    refine Eq.trans (li_iload_n d223_159 (by rfl)) ?_
    refine Eq.trans (li_ivV d223_160 ca_12_94 kd_228 kl_228 (by rfl) (by rfl) h0 (Nat.le_of_ble_eq_true rfl) (Nat.le_of_ble_eq_true rfl)) ?_
    refine lt_cV_c (fun m2 => ?_)
    refine Eq.trans (li_aload_n d223_163 (by rfl)) ?_
    refine Eq.trans (li_iload d223_164 (by rfl)) ?_
    refine Eq.trans (li_iconst d223_166 ic_2) ?_
    refine Eq.trans (li_iload_n d223_167 (by rfl)) ?_
    refine Eq.trans (li_ivV d223_168 ca_12_94 kd_228 kl_228 (by rfl) (by rfl) h0 (Nat.le_of_ble_eq_true rfl) (Nat.le_of_ble_eq_true rfl)) ?_
    refine lt_cV_c (fun m3 => ?_)
    refine Eq.trans (li_aload_n d223_171 (by rfl)) ?_
    refine Eq.trans (li_iload d223_172 (by rfl)) ?_
    refine Eq.trans (li_iconst d223_174 ic_4) ?_
    refine Eq.trans (li_iload d223_175 (by rfl)) ?_
    refine Eq.trans (li_ivV d223_177 ca_12_94 kd_228 kl_228 (by rfl) (by rfl) h0 (Nat.le_of_ble_eq_true rfl) (Nat.le_of_ble_eq_true rfl)) ?_
    refine lt_cV_c (fun m4 => ?_)
    refine Eq.trans (li_aload_n d223_180 (by rfl)) ?_
    refine Eq.trans (li_iload d223_181 (by rfl)) ?_
    refine Eq.trans (li_iconst d223_183 ic_5) ?_
    refine Eq.trans (li_aload_n d223_184 (by rfl)) ?_
    refine Eq.trans (li_getr d223_185 fa_12_7 h0 rfl rfl rfl (by decide)) ?_
    refine Eq.trans (li_iconst d223_188 ic_0) ?_
    refine Eq.trans (li_iald d223_189 (sf_of h0 0 (by decide) (by decide))) ?_
    refine lt_gd_c (fun g1 => ?_)
    refine Eq.trans (li_iconst d223_190 ic_2) ?_
    refine Eq.trans (li_aload_n d223_191 (by rfl)) ?_
    refine Eq.trans (li_geti d223_192 fa_12_164 h0 rfl) ?_
    refine Eq.trans (li_imul d223_195) ?_
    refine Eq.trans (li_iadd d223_196) ?_
    refine Eq.trans (li_bipush d223_197 bi_24) ?_
    refine Eq.trans (li_iadd d223_199) ?_
    refine Eq.trans (li_ivV d223_200 ca_12_94 kd_228 kl_228 (by rfl) (by rfl) h0 (Nat.le_of_ble_eq_true rfl) (Nat.le_of_ble_eq_true rfl)) ?_
    refine lt_cV_c (fun m5 => ?_)
    refine Eq.trans (li_aload_n d223_203 (by rfl)) ?_
    refine Eq.trans (li_iload d223_204 (by rfl)) ?_
    refine Eq.trans (li_bipush d223_206 bi_6) ?_
    refine Eq.trans (li_iconst d223_208 ic_1) ?_
    refine Eq.trans (li_ivV d223_209 ca_12_94 kd_228 kl_228 (by rfl) (by rfl) h0 (Nat.le_of_ble_eq_true rfl) (Nat.le_of_ble_eq_true rfl)) ?_
    refine lt_cV_c (fun m6 => ?_)
    refine Eq.trans (li_aload_n d223_212 (by rfl)) ?_
    refine Eq.trans (li_iload d223_213 (by rfl)) ?_
    refine Eq.trans (li_bipush d223_215 bi_9) ?_
    refine Eq.trans (li_aload_n d223_217 (by rfl)) ?_
    refine Eq.trans (li_geti d223_218 fa_12_161 h0 rfl) ?_
    refine Eq.trans (li_ivV d223_221 ca_12_94 kd_228 kl_228 (by rfl) (by rfl) h0 (Nat.le_of_ble_eq_true rfl) (Nat.le_of_ble_eq_true rfl)) ?_
    refine lt_cV_c (fun m7 => ?_)
    refine Eq.trans (li_iconst d223_224 ic_0) ?_
    refine Eq.trans (li_istore (ls' := [some (.inr (.inr (some a0))), some (.inl x1), some (.inl x2), some (.inl x3), some (.inl x4), some (.inl x5), some (.inl (0 : Int32))]) d223_225 (by decide) (by rfl)) ?_
    rfl
  · refine Eq.trans (li_aload_n d223_132 (by rfl)) ?_
    refine Eq.trans (li_iload d223_133 (by rfl)) ?_
    refine Eq.trans (li_iload d223_135 (by rfl)) ?_
    refine Eq.trans (li_iconst d223_137 ic_0) ?_
    refine Eq.trans (li_ivV d223_138 ca_12_94 kd_228 kl_228 (by rfl) (by rfl) h0 (Nat.le_of_ble_eq_true rfl) (Nat.le_of_ble_eq_true rfl)) ?_
    refine lt_cV_c (fun m8 => ?_)
    refine Eq.trans (li_iinc (ls' := [some (.inr (.inr (some a0))), some (.inl x1), some (.inl x2), some (.inl x3), some (.inl x4), some (.inl x5), some (.inl (x6 + (1 : Int32)))]) d223_141 (by rfl) (by decide) ic_1 (by rfl)) ?_
    refine Eq.trans (li_goto (t := 125) d223_144 (by rfl)) ?_
    rfl
theorem E223_227 (d : Nat) (a0 : Nat) (x1 : Int32) (x2 : Int32) (x3 : Int32) (x4 : Int32) (x5 : Int32) (x6 : Int32) (h0 : ts_sh a0 = (0, 12)) (m : lt_m) : L223_227 d a0 x1 x2 x3 x4 x5 x6 m = if (m.1 a0 26) ≤ x6 then (lt_gd (0 ≤ (0 : Int32) ∧ ((0 : Int32)).toNatClampNeg < 626) (lt_cV (lt_ev d 228 [.inr (.inr (some a0)), .inl x5, .inl (18 : Int32), .inl (m.1 (a0 + 1) ((0 : Int32)).toNatClampNeg)] m) (fun m1 => (lt_gd (0 ≤ (0 : Int32) ∧ ((0 : Int32)).toNatClampNeg < 626) (lt_cV (lt_ev d 229 [.inr (.inr (some a0)), .inl (0 : Int32), .inl x5, .inl (m1.1 (a0 + 1) ((0 : Int32)).toNatClampNeg)] m1) (fun m2 => (some (some (.inl x5), m2)))))))) else (lt_gd (0 ≤ x6 ∧ (x6).toNatClampNeg < 8) (lt_cV (lt_ev d 228 [.inr (.inr (some a0)), .inl x5, .inl ((10 : Int32) + x6), .inl (m.1 (a0 + 12) (x6).toNatClampNeg)] m) (fun m3 => (L223_227 d a0 x1 x2 x3 x4 x5 (x6 + (1 : Int32)) m3)))) := by
  show lt_run d Y223 227 [some (.inr (.inr (some a0))), some (.inl x1), some (.inl x2), some (.inl x3), some (.inl x4), some (.inl x5), some (.inl x6)] [] m = _
  refine Eq.trans (li_iload d223_227 (by rfl)) ?_
  refine Eq.trans (li_aload_n d223_229 (by rfl)) ?_
  refine Eq.trans (li_geti d223_230 fa_12_161 h0 rfl) ?_
  refine Eq.trans (li_icmp_ge (t := 260) d223_233 (by rfl)) ?_
  refine lt_ite (fun c1 => ?_) (fun c1 => ?_)
  · refine Eq.trans (li_aload_n d223_260 (by rfl)) ?_
    refine Eq.trans (li_iload d223_261 (by rfl)) ?_
    refine Eq.trans (li_bipush d223_263 bi_18) ?_
    refine Eq.trans (li_aload_n d223_265 (by rfl)) ?_
    refine Eq.trans (li_getr d223_266 fa_12_7 h0 rfl rfl rfl (by decide)) ?_
    refine Eq.trans (li_iconst d223_269 ic_0) ?_
    refine Eq.trans (li_iald d223_270 (sf_of h0 0 (by decide) (by decide))) ?_
    refine lt_gd_c (fun g1 => ?_)
    refine Eq.trans (li_ivV d223_271 ca_12_94 kd_228 kl_228 (by rfl) (by rfl) h0 (Nat.le_of_ble_eq_true rfl) (Nat.le_of_ble_eq_true rfl)) ?_
    refine lt_cV_c (fun m1 => ?_)
    refine Eq.trans (li_aload_n d223_274 (by rfl)) ?_
    refine Eq.trans (li_iconst d223_275 ic_0) ?_
    refine Eq.trans (li_iload d223_276 (by rfl)) ?_
    refine Eq.trans (li_aload_n d223_278 (by rfl)) ?_
    refine Eq.trans (li_getr d223_279 fa_12_7 h0 rfl rfl rfl (by decide)) ?_
    refine Eq.trans (li_iconst d223_282 ic_0) ?_
    refine Eq.trans (li_iald d223_283 (sf_of h0 0 (by decide) (by decide))) ?_
    refine lt_gd_c (fun g2 => ?_)
    refine Eq.trans (li_ivV d223_284 ca_12_98 kd_229 kl_229 (by rfl) (by rfl) h0 (Nat.le_of_ble_eq_true rfl) (Nat.le_of_ble_eq_true rfl)) ?_
    refine lt_cV_c (fun m2 => ?_)
    refine Eq.trans (li_iload d223_287 (by rfl)) ?_
    exact li_iret d223_289 rfl
  · refine Eq.trans (li_aload_n d223_236 (by rfl)) ?_
    refine Eq.trans (li_iload d223_237 (by rfl)) ?_
    refine Eq.trans (li_bipush d223_239 bi_10) ?_
    refine Eq.trans (li_iload d223_241 (by rfl)) ?_
    refine Eq.trans (li_iadd d223_243) ?_
    refine Eq.trans (li_aload_n d223_244 (by rfl)) ?_
    refine Eq.trans (li_getr d223_245 fa_12_49 h0 rfl rfl rfl (by decide)) ?_
    refine Eq.trans (li_iload d223_248 (by rfl)) ?_
    refine Eq.trans (li_iald d223_250 (sf_of h0 25 (by decide) (by decide))) ?_
    refine lt_gd_c (fun g3 => ?_)
    refine Eq.trans (li_ivV d223_251 ca_12_94 kd_228 kl_228 (by rfl) (by rfl) h0 (Nat.le_of_ble_eq_true rfl) (Nat.le_of_ble_eq_true rfl)) ?_
    refine lt_cV_c (fun m3 => ?_)
    refine Eq.trans (li_iinc (ls' := [some (.inr (.inr (some a0))), some (.inl x1), some (.inl x2), some (.inl x3), some (.inl x4), some (.inl x5), some (.inl (x6 + (1 : Int32)))]) d223_254 (by rfl) (by decide) ic_1 (by rfl)) ?_
    refine Eq.trans (li_goto (t := 227) d223_257 (by rfl)) ?_
    rfl
/-! TransitSealsModel.readsRoute()V -/
theorem d224_0 : decode Y224.2.1 0 = .ok (.aload_n 0, 1) := by decide +kernel
theorem d224_1 : decode Y224.2.1 1 = .ok (.invokevirtual 148, 3) := by decide +kernel
theorem d224_4 : decode Y224.2.1 4 = .ok (.aload_n 0, 1) := by decide +kernel
theorem d224_5 : decode Y224.2.1 5 = .ok (.iconst 0, 1) := by decide +kernel
theorem d224_6 : decode Y224.2.1 6 = .ok (.putfield 161, 3) := by decide +kernel
theorem d224_9 : decode Y224.2.1 9 = .ok (.aload_n 0, 1) := by decide +kernel
theorem d224_10 : decode Y224.2.1 10 = .ok (.iconst 0, 1) := by decide +kernel
theorem d224_11 : decode Y224.2.1 11 = .ok (.putfield 164, 3) := by decide +kernel
theorem d224_14 : decode Y224.2.1 14 = .ok (.iconst 1, 1) := by decide +kernel
theorem d224_15 : decode Y224.2.1 15 = .ok (.istore_n 1, 1) := by decide +kernel
theorem d224_16 : decode Y224.2.1 16 = .ok (.iload_n 1, 1) := by decide +kernel
theorem d224_17 : decode Y224.2.1 17 = .ok (.ifCond .eq 173, 3) := by decide +kernel
theorem d224_20 : decode Y224.2.1 20 = .ok (.aload_n 0, 1) := by decide +kernel
theorem d224_21 : decode Y224.2.1 21 = .ok (.getfield 107, 3) := by decide +kernel
theorem d224_24 : decode Y224.2.1 24 = .ok (.iconst (-1), 1) := by decide +kernel
theorem d224_25 : decode Y224.2.1 25 = .ok (.if_icmp .ne 165, 3) := by decide +kernel
theorem d224_28 : decode Y224.2.1 28 = .ok (.aload_n 0, 1) := by decide +kernel
theorem d224_29 : decode Y224.2.1 29 = .ok (.aload_n 0, 1) := by decide +kernel
theorem d224_30 : decode Y224.2.1 30 = .ok (.getfield 28, 3) := by decide +kernel
theorem d224_33 : decode Y224.2.1 33 = .ok (.invokevirtual 133, 3) := by decide +kernel
theorem d224_36 : decode Y224.2.1 36 = .ok (.istore_n 2, 1) := by decide +kernel
theorem d224_37 : decode Y224.2.1 37 = .ok (.aload_n 0, 1) := by decide +kernel
theorem d224_38 : decode Y224.2.1 38 = .ok (.getfield 107, 3) := by decide +kernel
theorem d224_41 : decode Y224.2.1 41 = .ok (.iconst (-1), 1) := by decide +kernel
theorem d224_42 : decode Y224.2.1 42 = .ok (.if_icmp .ne 29, 3) := by decide +kernel
theorem d224_45 : decode Y224.2.1 45 = .ok (.aload_n 0, 1) := by decide +kernel
theorem d224_46 : decode Y224.2.1 46 = .ok (.getfield 161, 3) := by decide +kernel
theorem d224_49 : decode Y224.2.1 49 = .ok (.ifCond .le 22, 3) := by decide +kernel
theorem d224_52 : decode Y224.2.1 52 = .ok (.aload_n 0, 1) := by decide +kernel
theorem d224_53 : decode Y224.2.1 53 = .ok (.aload_n 0, 1) := by decide +kernel
theorem d224_54 : decode Y224.2.1 54 = .ok (.getfield 49, 3) := by decide +kernel
theorem d224_57 : decode Y224.2.1 57 = .ok (.aload_n 0, 1) := by decide +kernel
theorem d224_58 : decode Y224.2.1 58 = .ok (.getfield 161, 3) := by decide +kernel
theorem d224_61 : decode Y224.2.1 61 = .ok (.iconst 1, 1) := by decide +kernel
theorem d224_62 : decode Y224.2.1 62 = .ok (.isub, 1) := by decide +kernel
theorem d224_63 : decode Y224.2.1 63 = .ok (.iaload, 1) := by decide +kernel
theorem d224_64 : decode Y224.2.1 64 = .ok (.iload_n 2, 1) := by decide +kernel
theorem d224_65 : decode Y224.2.1 65 = .ok (.invokevirtual 167, 3) := by decide +kernel
theorem d224_68 : decode Y224.2.1 68 = .ok (.goto 4, 3) := by decide +kernel
theorem d224_71 : decode Y224.2.1 71 = .ok (.iconst 1, 1) := by decide +kernel
theorem d224_72 : decode Y224.2.1 72 = .ok (.istore_n 3, 1) := by decide +kernel
theorem d224_73 : decode Y224.2.1 73 = .ok (.aload_n 0, 1) := by decide +kernel
theorem d224_74 : decode Y224.2.1 74 = .ok (.getfield 107, 3) := by decide +kernel
theorem d224_77 : decode Y224.2.1 77 = .ok (.iconst (-1), 1) := by decide +kernel
theorem d224_78 : decode Y224.2.1 78 = .ok (.if_icmp .ne 25, 3) := by decide +kernel
theorem d224_81 : decode Y224.2.1 81 = .ok (.aload_n 0, 1) := by decide +kernel
theorem d224_82 : decode Y224.2.1 82 = .ok (.iload_n 2, 1) := by decide +kernel
theorem d224_83 : decode Y224.2.1 83 = .ok (.invokevirtual 170, 3) := by decide +kernel
theorem d224_86 : decode Y224.2.1 86 = .ok (.ifCond .ne 7, 3) := by decide +kernel
theorem d224_89 : decode Y224.2.1 89 = .ok (.iload_n 3, 1) := by decide +kernel
theorem d224_90 : decode Y224.2.1 90 = .ok (.ifCond .ne 13, 3) := by decide +kernel
theorem d224_93 : decode Y224.2.1 93 = .ok (.aload_n 0, 1) := by decide +kernel
theorem d224_94 : decode Y224.2.1 94 = .ok (.aload_n 0, 1) := by decide +kernel
theorem d224_95 : decode Y224.2.1 95 = .ok (.getfield 104, 3) := by decide +kernel
theorem d224_98 : decode Y224.2.1 98 = .ok (.iconst 1, 1) := by decide +kernel
theorem d224_99 : decode Y224.2.1 99 = .ok (.isub, 1) := by decide +kernel
theorem d224_100 : decode Y224.2.1 100 = .ok (.invokevirtual 114, 3) := by decide +kernel
theorem d224_103 : decode Y224.2.1 103 = .ok (.aload_n 0, 1) := by decide +kernel
theorem d224_104 : decode Y224.2.1 104 = .ok (.getfield 107, 3) := by decide +kernel
theorem d224_107 : decode Y224.2.1 107 = .ok (.iconst (-1), 1) := by decide +kernel
theorem d224_108 : decode Y224.2.1 108 = .ok (.if_icmp .eq 4, 3) := by decide +kernel
theorem d224_111 : decode Y224.2.1 111 = .ok (.return_, 1) := by decide +kernel
theorem d224_112 : decode Y224.2.1 112 = .ok (.aload_n 0, 1) := by decide +kernel
theorem d224_113 : decode Y224.2.1 113 = .ok (.getfield 161, 3) := by decide +kernel
theorem d224_116 : decode Y224.2.1 116 = .ok (.ifCond .le 13, 3) := by decide +kernel
theorem d224_119 : decode Y224.2.1 119 = .ok (.aload_n 0, 1) := by decide +kernel
theorem d224_120 : decode Y224.2.1 120 = .ok (.dup, 1) := by decide +kernel
theorem d224_121 : decode Y224.2.1 121 = .ok (.getfield 164, 3) := by decide +kernel
theorem d224_124 : decode Y224.2.1 124 = .ok (.iload_n 3, 1) := by decide +kernel
theorem d224_125 : decode Y224.2.1 125 = .ok (.iadd, 1) := by decide +kernel
theorem d224_126 : decode Y224.2.1 126 = .ok (.putfield 164, 3) := by decide +kernel
theorem d224_129 : decode Y224.2.1 129 = .ok (.aload_n 0, 1) := by decide +kernel
theorem d224_130 : decode Y224.2.1 130 = .ok (.getfield 49, 3) := by decide +kernel
theorem d224_133 : decode Y224.2.1 133 = .ok (.aload_n 0, 1) := by decide +kernel
theorem d224_134 : decode Y224.2.1 134 = .ok (.getfield 161, 3) := by decide +kernel
theorem d224_137 : decode Y224.2.1 137 = .ok (.iload_n 2, 1) := by decide +kernel
theorem d224_138 : decode Y224.2.1 138 = .ok (.iastore, 1) := by decide +kernel
theorem d224_139 : decode Y224.2.1 139 = .ok (.aload_n 0, 1) := by decide +kernel
theorem d224_140 : decode Y224.2.1 140 = .ok (.dup, 1) := by decide +kernel
theorem d224_141 : decode Y224.2.1 141 = .ok (.getfield 161, 3) := by decide +kernel
theorem d224_144 : decode Y224.2.1 144 = .ok (.iconst 1, 1) := by decide +kernel
theorem d224_145 : decode Y224.2.1 145 = .ok (.iadd, 1) := by decide +kernel
theorem d224_146 : decode Y224.2.1 146 = .ok (.putfield 161, 3) := by decide +kernel
theorem d224_149 : decode Y224.2.1 149 = .ok (.aload_n 0, 1) := by decide +kernel
theorem d224_150 : decode Y224.2.1 150 = .ok (.invokevirtual 110, 3) := by decide +kernel
theorem d224_153 : decode Y224.2.1 153 = .ok (.bipush 45, 2) := by decide +kernel
theorem d224_155 : decode Y224.2.1 155 = .ok (.if_icmp .ne 16, 3) := by decide +kernel
theorem d224_158 : decode Y224.2.1 158 = .ok (.aload_n 0, 1) := by decide +kernel
theorem d224_159 : decode Y224.2.1 159 = .ok (.getfield 161, 3) := by decide +kernel
theorem d224_162 : decode Y224.2.1 162 = .ok (.bipush 8, 2) := by decide +kernel
theorem d224_164 : decode Y224.2.1 164 = .ok (.if_icmp .ge 7, 3) := by decide +kernel
theorem d224_167 : decode Y224.2.1 167 = .ok (.iconst 1, 1) := by decide +kernel
theorem d224_168 : decode Y224.2.1 168 = .ok (.goto 4, 3) := by decide +kernel
theorem d224_171 : decode Y224.2.1 171 = .ok (.iconst 0, 1) := by decide +kernel
theorem d224_172 : decode Y224.2.1 172 = .ok (.istore_n 1, 1) := by decide +kernel
theorem d224_173 : decode Y224.2.1 173 = .ok (.iload_n 1, 1) := by decide +kernel
theorem d224_174 : decode Y224.2.1 174 = .ok (.ifCond .eq 13, 3) := by decide +kernel
theorem d224_177 : decode Y224.2.1 177 = .ok (.aload_n 0, 1) := by decide +kernel
theorem d224_178 : decode Y224.2.1 178 = .ok (.dup, 1) := by decide +kernel
theorem d224_179 : decode Y224.2.1 179 = .ok (.getfield 104, 3) := by decide +kernel
theorem d224_182 : decode Y224.2.1 182 = .ok (.iconst 1, 1) := by decide +kernel
theorem d224_183 : decode Y224.2.1 183 = .ok (.iadd, 1) := by decide +kernel
theorem d224_184 : decode Y224.2.1 184 = .ok (.putfield 104, 3) := by decide +kernel
theorem d224_187 : decode Y224.2.1 187 = .ok (.goto (-171), 3) := by decide +kernel
theorem d224_190 : decode Y224.2.1 190 = .ok (.aload_n 0, 1) := by decide +kernel
theorem d224_191 : decode Y224.2.1 191 = .ok (.getfield 104, 3) := by decide +kernel
theorem d224_194 : decode Y224.2.1 194 = .ok (.aload_n 0, 1) := by decide +kernel
theorem d224_195 : decode Y224.2.1 195 = .ok (.getfield 101, 3) := by decide +kernel
theorem d224_198 : decode Y224.2.1 198 = .ok (.if_icmp .lt 11, 3) := by decide +kernel
theorem d224_201 : decode Y224.2.1 201 = .ok (.aload_n 0, 1) := by decide +kernel
theorem d224_202 : decode Y224.2.1 202 = .ok (.getfield 161, 3) := by decide +kernel
theorem d224_205 : decode Y224.2.1 205 = .ok (.iconst 2, 1) := by decide +kernel
theorem d224_206 : decode Y224.2.1 206 = .ok (.if_icmp .ge 11, 3) := by decide +kernel
theorem d224_209 : decode Y224.2.1 209 = .ok (.aload_n 0, 1) := by decide +kernel
theorem d224_210 : decode Y224.2.1 210 = .ok (.aload_n 0, 1) := by decide +kernel
theorem d224_211 : decode Y224.2.1 211 = .ok (.getfield 104, 3) := by decide +kernel
theorem d224_214 : decode Y224.2.1 214 = .ok (.invokevirtual 114, 3) := by decide +kernel
theorem d224_217 : decode Y224.2.1 217 = .ok (.return_, 1) := by decide +kernel
noncomputable def L224_16 (d : Nat) (a0 : Nat) (x1 : Int32) (o2 : Option ts_V) (o3 : Option ts_V) (m : lt_m) : Option lt_r := lt_run d Y224 16 [some (.inr (.inr (some a0))), some (.inl x1), o2, o3] [] m
noncomputable def L224_72 (d : Nat) (a0 : Nat) (x1 : Int32) (x2 : Int32) (o3 : Option ts_V) (xt0 : Int32) (m : lt_m) : Option lt_r := lt_run d Y224 72 [some (.inr (.inr (some a0))), some (.inl x1), some (.inl x2), o3] [.inl xt0] m
noncomputable def L224_103 (d : Nat) (a0 : Nat) (x1 : Int32) (x2 : Int32) (x3 : Int32) (m : lt_m) : Option lt_r := lt_run d Y224 103 [some (.inr (.inr (some a0))), some (.inl x1), some (.inl x2), some (.inl x3)] [] m
noncomputable def L224_129 (d : Nat) (a0 : Nat) (x1 : Int32) (x2 : Int32) (x3 : Int32) (m : lt_m) : Option lt_r := lt_run d Y224 129 [some (.inr (.inr (some a0))), some (.inl x1), some (.inl x2), some (.inl x3)] [] m
noncomputable def L224_172 (d : Nat) (a0 : Nat) (x1 : Int32) (x2 : Int32) (x3 : Int32) (xt0 : Int32) (m : lt_m) : Option lt_r := lt_run d Y224 172 [some (.inr (.inr (some a0))), some (.inl x1), some (.inl x2), some (.inl x3)] [.inl xt0] m
noncomputable def L224_190 (d : Nat) (a0 : Nat) (x1 : Int32) (o2 : Option ts_V) (o3 : Option ts_V) (m : lt_m) : Option lt_r := lt_run d Y224 190 [some (.inr (.inr (some a0))), some (.inl x1), o2, o3] [] m
theorem E224 (d : Nat) (a0 : Nat) (h0 : ts_sh a0 = (0, 12)) (m : lt_m) : lt_ev (d + 1) 224 [.inr (.inr (some a0))] m = lt_cV (lt_ev d 183 [.inr (.inr (some a0))] m) (fun m1 => (L224_16 d a0 (1 : Int32) none none (lm_i (lm_i m1 a0 26 (0 : Int32)) a0 27 (0 : Int32)))) := by
  refine Eq.trans (lt_enter2 (ls := [some (.inr (.inr (some a0))), none, none, none]) hY224 (Nat.le_of_ble_eq_true rfl) (by rfl)) ?_
  refine Eq.trans (li_aload_n d224_0 (by rfl)) ?_
  refine Eq.trans (li_ivV d224_1 ca_12_148 kd_183 kl_183 (by rfl) (by rfl) h0 (Nat.le_of_ble_eq_true rfl) (Nat.le_of_ble_eq_true rfl)) ?_
  refine lt_cV_c (fun m1 => ?_)
  refine Eq.trans (li_aload_n d224_4 (by rfl)) ?_
  refine Eq.trans (li_iconst d224_5 ic_0) ?_
  refine Eq.trans (li_puti d224_6 fa_12_161 h0 rfl rfl) ?_
  refine Eq.trans (li_aload_n d224_9 (by rfl)) ?_
  refine Eq.trans (li_iconst d224_10 ic_0) ?_
  refine Eq.trans (li_puti d224_11 fa_12_164 h0 rfl rfl) ?_
  refine Eq.trans (li_iconst d224_14 ic_1) ?_
  refine Eq.trans (li_istore_n (ls' := [some (.inr (.inr (some a0))), some (.inl (1 : Int32)), none, none]) d224_15 (by decide) (by rfl)) ?_
  rfl
theorem E224_16 (d : Nat) (a0 : Nat) (x1 : Int32) (o2 : Option ts_V) (o3 : Option ts_V) (h0 : ts_sh a0 = (0, 12)) (m : lt_m) : L224_16 d a0 x1 o2 o3 m = if x1 = 0 then (L224_190 d a0 x1 (o2) (o3) m) else (if ¬ (m.1 a0 18) = (-1 : Int32) then (L224_190 d a0 x1 (o2) (o3) m) else (lt_cI (lt_ev d 191 [.inr (.inr (some a0)), .inl (m.1 a0 8)] m) (fun v1 m1 => (if ¬ (m1.1 a0 18) = (-1 : Int32) then (L224_72 d a0 x1 v1 (o3) (1 : Int32) m1) else (if (m1.1 a0 26) ≤ 0 then (L224_72 d a0 x1 v1 (o3) (1 : Int32) m1) else (lt_gd (0 ≤ ((m1.1 a0 26) - (1 : Int32)) ∧ (((m1.1 a0 26) - (1 : Int32))).toNatClampNeg < 8) (lt_cI (lt_ev d 194 [.inr (.inr (some a0)), .inl (m1.1 (a0 + 12) (((m1.1 a0 26) - (1 : Int32))).toNatClampNeg), .inl v1] m1) (fun v2 m2 => (L224_72 d a0 x1 v1 (o3) v2 m2))))))))) := by
  show lt_run d Y224 16 [some (.inr (.inr (some a0))), some (.inl x1), o2, o3] [] m = _
  refine Eq.trans (li_iload_n d224_16 (by rfl)) ?_
  refine Eq.trans (li_if_eq (t := 190) d224_17 (by rfl)) ?_
  refine lt_ite (fun c1 => ?_) (fun c1 => ?_)
  · rfl
  · refine Eq.trans (li_aload_n d224_20 (by rfl)) ?_
    refine Eq.trans (li_geti d224_21 fa_12_107 h0 rfl) ?_
    refine Eq.trans (li_iconst d224_24 ic_n1) ?_
    refine Eq.trans (li_icmp_ne (t := 190) d224_25 (by rfl)) ?_
    refine lt_ite (fun c2 => ?_) (fun c2 => ?_)
    · rfl
    · refine Eq.trans (li_aload_n d224_28 (by rfl)) ?_
      refine Eq.trans (li_aload_n d224_29 (by rfl)) ?_
      refine Eq.trans (li_geti d224_30 fa_12_28 h0 rfl) ?_
      refine Eq.trans (li_ivI d224_33 ca_12_133 kd_191 kl_191 (by rfl) (by rfl) h0 (Nat.le_of_ble_eq_true rfl) (Nat.le_of_ble_eq_true rfl)) ?_
      refine lt_cI_c (fun v1 m1 => ?_)
      refine Eq.trans (li_istore_n (ls' := [some (.inr (.inr (some a0))), some (.inl x1), some (.inl v1), o3]) d224_36 (by decide) (by rfl)) ?_
      refine Eq.trans (li_aload_n d224_37 (by rfl)) ?_
      refine Eq.trans (li_geti d224_38 fa_12_107 h0 rfl) ?_
      refine Eq.trans (li_iconst d224_41 ic_n1) ?_
      refine Eq.trans (li_icmp_ne (t := 71) d224_42 (by rfl)) ?_
      refine lt_ite (fun c3 => ?_) (fun c3 => ?_)
      · refine Eq.trans (li_iconst d224_71 ic_1) ?_
        rfl
      · refine Eq.trans (li_aload_n d224_45 (by rfl)) ?_
        refine Eq.trans (li_geti d224_46 fa_12_161 h0 rfl) ?_
        refine Eq.trans (li_if_le (t := 71) d224_49 (by rfl)) ?_
        refine lt_ite (fun c4 => ?_) (fun c4 => ?_)
        · refine Eq.trans (li_iconst d224_71 ic_1) ?_
          rfl
        · refine Eq.trans (li_aload_n d224_52 (by rfl)) ?_
          refine Eq.trans (li_aload_n d224_53 (by rfl)) ?_
          refine Eq.trans (li_getr d224_54 fa_12_49 h0 rfl rfl rfl (by decide)) ?_
          refine Eq.trans (li_aload_n d224_57 (by rfl)) ?_
          refine Eq.trans (li_geti d224_58 fa_12_161 h0 rfl) ?_
          refine Eq.trans (li_iconst d224_61 ic_1) ?_
          refine Eq.trans (li_isub d224_62) ?_
          refine Eq.trans (li_iald d224_63 (sf_of h0 25 (by decide) (by decide))) ?_
          refine lt_gd_c (fun g1 => ?_)
          refine Eq.trans (li_iload_n d224_64 (by rfl)) ?_
          refine Eq.trans (li_ivI d224_65 ca_12_167 kd_194 kl_194 (by rfl) (by rfl) h0 (Nat.le_of_ble_eq_true rfl) (Nat.le_of_ble_eq_true rfl)) ?_
          refine lt_cI_c (fun v2 m2 => ?_)
          refine Eq.trans (li_goto (t := 72) d224_68 (by rfl)) ?_
          rfl
theorem E224_72 (d : Nat) (a0 : Nat) (x1 : Int32) (x2 : Int32) (o3 : Option ts_V) (xt0 : Int32) (h0 : ts_sh a0 = (0, 12)) (m : lt_m) : L224_72 d a0 x1 x2 o3 xt0 m = if ¬ (m.1 a0 18) = (-1 : Int32) then (L224_103 d a0 x1 x2 xt0 m) else (lt_cI (lt_ev d 225 [.inr (.inr (some a0)), .inl x2] m) (fun v1 m1 => (if ¬ v1 = 0 then (lt_cV (lt_ev d 187 [.inr (.inr (some a0)), .inl ((m1.1 a0 17) - (1 : Int32))] m1) (fun m2 => (L224_103 d a0 x1 x2 xt0 m2))) else (if ¬ xt0 = 0 then (L224_103 d a0 x1 x2 xt0 m1) else (lt_cV (lt_ev d 187 [.inr (.inr (some a0)), .inl ((m1.1 a0 17) - (1 : Int32))] m1) (fun m3 => (L224_103 d a0 x1 x2 xt0 m3))))))) := by
  show lt_run d Y224 72 [some (.inr (.inr (some a0))), some (.inl x1), some (.inl x2), o3] [.inl xt0] m = _
  refine Eq.trans (li_istore_n (ls' := [some (.inr (.inr (some a0))), some (.inl x1), some (.inl x2), some (.inl xt0)]) d224_72 (by decide) (by rfl)) ?_
  refine Eq.trans (li_aload_n d224_73 (by rfl)) ?_
  refine Eq.trans (li_geti d224_74 fa_12_107 h0 rfl) ?_
  refine Eq.trans (li_iconst d224_77 ic_n1) ?_
  refine Eq.trans (li_icmp_ne (t := 103) d224_78 (by rfl)) ?_
  refine lt_ite (fun c1 => ?_) (fun c1 => ?_)
  · rfl
  · refine Eq.trans (li_aload_n d224_81 (by rfl)) ?_
    refine Eq.trans (li_iload_n d224_82 (by rfl)) ?_
    refine Eq.trans (li_ivI d224_83 ca_12_170 kd_225 kl_225 (by rfl) (by rfl) h0 (Nat.le_of_ble_eq_true rfl) (Nat.le_of_ble_eq_true rfl)) ?_
    refine lt_cI_c (fun v1 m1 => ?_)
    refine Eq.trans (li_if_ne (t := 93) d224_86 (by rfl)) ?_
    refine lt_ite (fun c2 => ?_) (fun c2 => ?_)
    · refine Eq.trans (li_aload_n d224_93 (by rfl)) ?_
      refine Eq.trans (li_aload_n d224_94 (by rfl)) ?_
      refine Eq.trans (li_geti d224_95 fa_12_104 h0 rfl) ?_
      refine Eq.trans (li_iconst d224_98 ic_1) ?_
      refine Eq.trans (li_isub d224_99) ?_
      refine Eq.trans (li_ivV d224_100 ca_12_114 kd_187 kl_187 (by rfl) (by rfl) h0 (Nat.le_of_ble_eq_true rfl) (Nat.le_of_ble_eq_true rfl)) ?_
      refine lt_cV_c (fun m2 => ?_)
      rfl
    · refine Eq.trans (li_iload_n d224_89 (by rfl)) ?_
      refine Eq.trans (li_if_ne (t := 103) d224_90 (by rfl)) ?_
      refine lt_ite (fun c3 => ?_) (fun c3 => ?_)
      · rfl
      · refine Eq.trans (li_aload_n d224_93 (by rfl)) ?_
        refine Eq.trans (li_aload_n d224_94 (by rfl)) ?_
        refine Eq.trans (li_geti d224_95 fa_12_104 h0 rfl) ?_
        refine Eq.trans (li_iconst d224_98 ic_1) ?_
        refine Eq.trans (li_isub d224_99) ?_
        refine Eq.trans (li_ivV d224_100 ca_12_114 kd_187 kl_187 (by rfl) (by rfl) h0 (Nat.le_of_ble_eq_true rfl) (Nat.le_of_ble_eq_true rfl)) ?_
        refine lt_cV_c (fun m3 => ?_)
        rfl
theorem E224_103 (d : Nat) (a0 : Nat) (x1 : Int32) (x2 : Int32) (x3 : Int32) (h0 : ts_sh a0 = (0, 12)) (m : lt_m) : L224_103 d a0 x1 x2 x3 m = if (m.1 a0 18) = (-1 : Int32) then (if (m.1 a0 26) ≤ 0 then (L224_129 d a0 x1 x2 x3 m) else (L224_129 d a0 x1 x2 x3 (lm_i m a0 27 ((m.1 a0 27) + x3)))) else (some (none, m)) := by
  show lt_run d Y224 103 [some (.inr (.inr (some a0))), some (.inl x1), some (.inl x2), some (.inl x3)] [] m = _
  refine Eq.trans (li_aload_n d224_103 (by rfl)) ?_
  refine Eq.trans (li_geti d224_104 fa_12_107 h0 rfl) ?_
  refine Eq.trans (li_iconst d224_107 ic_n1) ?_
  refine Eq.trans (li_icmp_eq (t := 112) d224_108 (by rfl)) ?_
  refine lt_ite (fun c1 => ?_) (fun c1 => ?_)
  · refine Eq.trans (li_aload_n d224_112 (by rfl)) ?_
    refine Eq.trans (li_geti d224_113 fa_12_161 h0 rfl) ?_
    refine Eq.trans (li_if_le (t := 129) d224_116 (by rfl)) ?_
    refine lt_ite (fun c2 => ?_) (fun c2 => ?_)
    · rfl
    · refine Eq.trans (li_aload_n d224_119 (by rfl)) ?_
      refine Eq.trans (li_dup d224_120 rfl) ?_
      refine Eq.trans (li_geti d224_121 fa_12_164 h0 rfl) ?_
      refine Eq.trans (li_iload_n d224_124 (by rfl)) ?_
      refine Eq.trans (li_iadd d224_125) ?_
      refine Eq.trans (li_puti d224_126 fa_12_164 h0 rfl rfl) ?_
      rfl
  · exact li_vret d224_111 rfl
theorem E224_129 (d : Nat) (a0 : Nat) (x1 : Int32) (x2 : Int32) (x3 : Int32) (h0 : ts_sh a0 = (0, 12)) (m : lt_m) : L224_129 d a0 x1 x2 x3 m = lt_gd (0 ≤ (m.1 a0 26) ∧ ((m.1 a0 26)).toNatClampNeg < 8) (lt_cI (lt_ev d 186 [.inr (.inr (some a0))] (lm_i (lm_i m (a0 + 12) ((m.1 a0 26)).toNatClampNeg x2) a0 26 (((lm_i m (a0 + 12) ((m.1 a0 26)).toNatClampNeg x2).1 a0 26) + (1 : Int32)))) (fun v1 m1 => (if ¬ v1 = (45 : Int32) then (L224_172 d a0 x1 x2 x3 (0 : Int32) m1) else (if (8 : Int32) ≤ (m1.1 a0 26) then (L224_172 d a0 x1 x2 x3 (0 : Int32) m1) else (L224_172 d a0 x1 x2 x3 (1 : Int32) m1))))) := by
  show lt_run d Y224 129 [some (.inr (.inr (some a0))), some (.inl x1), some (.inl x2), some (.inl x3)] [] m = _
  refine Eq.trans (li_aload_n d224_129 (by rfl)) ?_
  refine Eq.trans (li_getr d224_130 fa_12_49 h0 rfl rfl rfl (by decide)) ?_
  refine Eq.trans (li_aload_n d224_133 (by rfl)) ?_
  refine Eq.trans (li_geti d224_134 fa_12_161 h0 rfl) ?_
  refine Eq.trans (li_iload_n d224_137 (by rfl)) ?_
  refine Eq.trans (li_iast d224_138 (sf_of h0 25 (by decide) (by decide))) ?_
  refine lt_gd_c (fun g1 => ?_)
  refine Eq.trans (li_aload_n d224_139 (by rfl)) ?_
  refine Eq.trans (li_dup d224_140 rfl) ?_
  refine Eq.trans (li_geti d224_141 fa_12_161 h0 rfl) ?_
  refine Eq.trans (li_iconst d224_144 ic_1) ?_
  refine Eq.trans (li_iadd d224_145) ?_
  refine Eq.trans (li_puti d224_146 fa_12_161 h0 rfl rfl) ?_
  refine Eq.trans (li_aload_n d224_149 (by rfl)) ?_
  refine Eq.trans (li_ivI d224_150 ca_12_110 kd_186 kl_186 (by rfl) (by rfl) h0 (Nat.le_of_ble_eq_true rfl) (Nat.le_of_ble_eq_true rfl)) ?_
  refine lt_cI_c (fun v1 m1 => ?_)
  refine Eq.trans (li_bipush d224_153 bi_45) ?_
  refine Eq.trans (li_icmp_ne (t := 171) d224_155 (by rfl)) ?_
  refine lt_ite (fun c1 => ?_) (fun c1 => ?_)
  · refine Eq.trans (li_iconst d224_171 ic_0) ?_
    rfl
  · refine Eq.trans (li_aload_n d224_158 (by rfl)) ?_
    refine Eq.trans (li_geti d224_159 fa_12_161 h0 rfl) ?_
    refine Eq.trans (li_bipush d224_162 bi_8) ?_
    refine Eq.trans (li_icmp_ge (t := 171) d224_164 (by rfl)) ?_
    refine lt_ite (fun c2 => ?_) (fun c2 => ?_)
    · refine Eq.trans (li_iconst d224_171 ic_0) ?_
      rfl
    · refine Eq.trans (li_iconst d224_167 ic_1) ?_
      refine Eq.trans (li_goto (t := 172) d224_168 (by rfl)) ?_
      rfl
theorem E224_172 (d : Nat) (a0 : Nat) (x1 : Int32) (x2 : Int32) (x3 : Int32) (xt0 : Int32) (h0 : ts_sh a0 = (0, 12)) (m : lt_m) : L224_172 d a0 x1 x2 x3 xt0 m = if xt0 = 0 then (L224_16 d a0 xt0 (some (.inl x2)) (some (.inl x3)) m) else (L224_16 d a0 xt0 (some (.inl x2)) (some (.inl x3)) (lm_i m a0 17 ((m.1 a0 17) + (1 : Int32)))) := by
  show lt_run d Y224 172 [some (.inr (.inr (some a0))), some (.inl x1), some (.inl x2), some (.inl x3)] [.inl xt0] m = _
  refine Eq.trans (li_istore_n (ls' := [some (.inr (.inr (some a0))), some (.inl xt0), some (.inl x2), some (.inl x3)]) d224_172 (by decide) (by rfl)) ?_
  refine Eq.trans (li_iload_n d224_173 (by rfl)) ?_
  refine Eq.trans (li_if_eq (t := 187) d224_174 (by rfl)) ?_
  refine lt_ite (fun c1 => ?_) (fun c1 => ?_)
  · refine Eq.trans (li_goto (t := 16) d224_187 (by rfl)) ?_
    rfl
  · refine Eq.trans (li_aload_n d224_177 (by rfl)) ?_
    refine Eq.trans (li_dup d224_178 rfl) ?_
    refine Eq.trans (li_geti d224_179 fa_12_104 h0 rfl) ?_
    refine Eq.trans (li_iconst d224_182 ic_1) ?_
    refine Eq.trans (li_iadd d224_183) ?_
    refine Eq.trans (li_puti d224_184 fa_12_104 h0 rfl rfl) ?_
    refine Eq.trans (li_goto (t := 16) d224_187 (by rfl)) ?_
    rfl
theorem E224_190 (d : Nat) (a0 : Nat) (x1 : Int32) (o2 : Option ts_V) (o3 : Option ts_V) (h0 : ts_sh a0 = (0, 12)) (m : lt_m) : L224_190 d a0 x1 o2 o3 m = if (m.1 a0 17) < (m.1 a0 16) then (lt_cV (lt_ev d 187 [.inr (.inr (some a0)), .inl (m.1 a0 17)] m) (fun m1 => (some (none, m1)))) else (if (2 : Int32) ≤ (m.1 a0 26) then (some (none, m)) else (lt_cV (lt_ev d 187 [.inr (.inr (some a0)), .inl (m.1 a0 17)] m) (fun m2 => (some (none, m2))))) := by
  show lt_run d Y224 190 [some (.inr (.inr (some a0))), some (.inl x1), o2, o3] [] m = _
  refine Eq.trans (li_aload_n d224_190 (by rfl)) ?_
  refine Eq.trans (li_geti d224_191 fa_12_104 h0 rfl) ?_
  refine Eq.trans (li_aload_n d224_194 (by rfl)) ?_
  refine Eq.trans (li_geti d224_195 fa_12_101 h0 rfl) ?_
  refine Eq.trans (li_icmp_lt (t := 209) d224_198 (by rfl)) ?_
  refine lt_ite (fun c1 => ?_) (fun c1 => ?_)
  · refine Eq.trans (li_aload_n d224_209 (by rfl)) ?_
    refine Eq.trans (li_aload_n d224_210 (by rfl)) ?_
    refine Eq.trans (li_geti d224_211 fa_12_104 h0 rfl) ?_
    refine Eq.trans (li_ivV d224_214 ca_12_114 kd_187 kl_187 (by rfl) (by rfl) h0 (Nat.le_of_ble_eq_true rfl) (Nat.le_of_ble_eq_true rfl)) ?_
    refine lt_cV_c (fun m1 => ?_)
    exact li_vret d224_217 rfl
  · refine Eq.trans (li_aload_n d224_201 (by rfl)) ?_
    refine Eq.trans (li_geti d224_202 fa_12_161 h0 rfl) ?_
    refine Eq.trans (li_iconst d224_205 ic_2) ?_
    refine Eq.trans (li_icmp_ge (t := 217) d224_206 (by rfl)) ?_
    refine lt_ite (fun c2 => ?_) (fun c2 => ?_)
    · exact li_vret d224_217 rfl
    · refine Eq.trans (li_aload_n d224_209 (by rfl)) ?_
      refine Eq.trans (li_aload_n d224_210 (by rfl)) ?_
      refine Eq.trans (li_geti d224_211 fa_12_104 h0 rfl) ?_
      refine Eq.trans (li_ivV d224_214 ca_12_114 kd_187 kl_187 (by rfl) (by rfl) h0 (Nat.le_of_ble_eq_true rfl) (Nat.le_of_ble_eq_true rfl)) ?_
      refine lt_cV_c (fun m2 => ?_)
      exact li_vret d224_217 rfl

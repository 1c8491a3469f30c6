/-! ===== equations of methods ===== -/
/-! TransitSeals$Net.measureWays()V -/
theorem d12_0 : decode Y12.2.1 0 = .ok (.iconst 0, 1) := by decide +kernel
theorem d12_1 : decode Y12.2.1 1 = .ok (.istore_n 1, 1) := by decide +kernel
theorem d12_2 : decode Y12.2.1 2 = .ok (.iload_n 1, 1) := by decide +kernel
theorem d12_3 : decode Y12.2.1 3 = .ok (.aload_n 0, 1) := by decide +kernel
theorem d12_4 : decode Y12.2.1 4 = .ok (.getfield 34, 3) := by decide +kernel
theorem d12_7 : decode Y12.2.1 7 = .ok (.if_icmp .ge 63, 3) := by decide +kernel
theorem d12_10 : decode Y12.2.1 10 = .ok (.iconst 0, 1) := by decide +kernel
theorem d12_11 : decode Y12.2.1 11 = .ok (.istore_n 2, 1) := by decide +kernel
theorem d12_12 : decode Y12.2.1 12 = .ok (.iload_n 2, 1) := by decide +kernel
theorem d12_13 : decode Y12.2.1 13 = .ok (.aload_n 0, 1) := by decide +kernel
theorem d12_14 : decode Y12.2.1 14 = .ok (.getfield 34, 3) := by decide +kernel
theorem d12_17 : decode Y12.2.1 17 = .ok (.if_icmp .ge 47, 3) := by decide +kernel
theorem d12_20 : decode Y12.2.1 20 = .ok (.aload_n 0, 1) := by decide +kernel
theorem d12_21 : decode Y12.2.1 21 = .ok (.iload_n 1, 1) := by decide +kernel
theorem d12_22 : decode Y12.2.1 22 = .ok (.iload_n 2, 1) := by decide +kernel
theorem d12_23 : decode Y12.2.1 23 = .ok (.invokevirtual 131, 3) := by decide +kernel
theorem d12_26 : decode Y12.2.1 26 = .ok (.istore_n 3, 1) := by decide +kernel
theorem d12_27 : decode Y12.2.1 27 = .ok (.aload_n 0, 1) := by decide +kernel
theorem d12_28 : decode Y12.2.1 28 = .ok (.getfield 21, 3) := by decide +kernel
theorem d12_31 : decode Y12.2.1 31 = .ok (.iload_n 1, 1) := by decide +kernel
theorem d12_32 : decode Y12.2.1 32 = .ok (.iload_n 2, 1) := by decide +kernel
theorem d12_33 : decode Y12.2.1 33 = .ok (.invokestatic 63, 3) := by decide +kernel
theorem d12_36 : decode Y12.2.1 36 = .ok (.iload_n 1, 1) := by decide +kernel
theorem d12_37 : decode Y12.2.1 37 = .ok (.iload_n 2, 1) := by decide +kernel
theorem d12_38 : decode Y12.2.1 38 = .ok (.if_icmp .ne 7, 3) := by decide +kernel
theorem d12_41 : decode Y12.2.1 41 = .ok (.iconst 0, 1) := by decide +kernel
theorem d12_42 : decode Y12.2.1 42 = .ok (.goto 13, 3) := by decide +kernel
theorem d12_45 : decode Y12.2.1 45 = .ok (.iload_n 3, 1) := by decide +kernel
theorem d12_46 : decode Y12.2.1 46 = .ok (.ifCond .le 7, 3) := by decide +kernel
theorem d12_49 : decode Y12.2.1 49 = .ok (.iload_n 3, 1) := by decide +kernel
theorem d12_50 : decode Y12.2.1 50 = .ok (.goto 5, 3) := by decide +kernel
theorem d12_53 : decode Y12.2.1 53 = .ok (.ldc 67, 2) := by decide +kernel
theorem d12_55 : decode Y12.2.1 55 = .ok (.invokestatic 107, 3) := by decide +kernel
theorem d12_58 : decode Y12.2.1 58 = .ok (.iinc 2 1, 3) := by decide +kernel
theorem d12_61 : decode Y12.2.1 61 = .ok (.goto (-49), 3) := by decide +kernel
theorem d12_64 : decode Y12.2.1 64 = .ok (.iinc 1 1, 3) := by decide +kernel
theorem d12_67 : decode Y12.2.1 67 = .ok (.goto (-65), 3) := by decide +kernel
theorem d12_70 : decode Y12.2.1 70 = .ok (.iconst 0, 1) := by decide +kernel
theorem d12_71 : decode Y12.2.1 71 = .ok (.istore_n 1, 1) := by decide +kernel
theorem d12_72 : decode Y12.2.1 72 = .ok (.iload_n 1, 1) := by decide +kernel
theorem d12_73 : decode Y12.2.1 73 = .ok (.aload_n 0, 1) := by decide +kernel
theorem d12_74 : decode Y12.2.1 74 = .ok (.getfield 34, 3) := by decide +kernel
theorem d12_77 : decode Y12.2.1 77 = .ok (.if_icmp .ge 79, 3) := by decide +kernel
theorem d12_80 : decode Y12.2.1 80 = .ok (.iconst 0, 1) := by decide +kernel
theorem d12_81 : decode Y12.2.1 81 = .ok (.istore_n 2, 1) := by decide +kernel
theorem d12_82 : decode Y12.2.1 82 = .ok (.iload_n 2, 1) := by decide +kernel
theorem d12_83 : decode Y12.2.1 83 = .ok (.aload_n 0, 1) := by decide +kernel
theorem d12_84 : decode Y12.2.1 84 = .ok (.getfield 34, 3) := by decide +kernel
theorem d12_87 : decode Y12.2.1 87 = .ok (.if_icmp .ge 63, 3) := by decide +kernel
theorem d12_90 : decode Y12.2.1 90 = .ok (.iconst 0, 1) := by decide +kernel
theorem d12_91 : decode Y12.2.1 91 = .ok (.istore_n 3, 1) := by decide +kernel
theorem d12_92 : decode Y12.2.1 92 = .ok (.iload_n 3, 1) := by decide +kernel
theorem d12_93 : decode Y12.2.1 93 = .ok (.aload_n 0, 1) := by decide +kernel
theorem d12_94 : decode Y12.2.1 94 = .ok (.getfield 34, 3) := by decide +kernel
theorem d12_97 : decode Y12.2.1 97 = .ok (.if_icmp .ge 47, 3) := by decide +kernel
theorem d12_100 : decode Y12.2.1 100 = .ok (.aload_n 0, 1) := by decide +kernel
theorem d12_101 : decode Y12.2.1 101 = .ok (.iload_n 2, 1) := by decide +kernel
theorem d12_102 : decode Y12.2.1 102 = .ok (.iload_n 1, 1) := by decide +kernel
theorem d12_103 : decode Y12.2.1 103 = .ok (.invokevirtual 140, 3) := by decide +kernel
theorem d12_106 : decode Y12.2.1 106 = .ok (.aload_n 0, 1) := by decide +kernel
theorem d12_107 : decode Y12.2.1 107 = .ok (.iload_n 1, 1) := by decide +kernel
theorem d12_108 : decode Y12.2.1 108 = .ok (.iload_n 3, 1) := by decide +kernel
theorem d12_109 : decode Y12.2.1 109 = .ok (.invokevirtual 140, 3) := by decide +kernel
theorem d12_112 : decode Y12.2.1 112 = .ok (.iadd, 1) := by decide +kernel
theorem d12_113 : decode Y12.2.1 113 = .ok (.istore 4, 2) := by decide +kernel
theorem d12_115 : decode Y12.2.1 115 = .ok (.aload_n 0, 1) := by decide +kernel
theorem d12_116 : decode Y12.2.1 116 = .ok (.getfield 21, 3) := by decide +kernel
theorem d12_119 : decode Y12.2.1 119 = .ok (.iload_n 2, 1) := by decide +kernel
theorem d12_120 : decode Y12.2.1 120 = .ok (.iload_n 3, 1) := by decide +kernel
theorem d12_121 : decode Y12.2.1 121 = .ok (.invokestatic 63, 3) := by decide +kernel
theorem d12_124 : decode Y12.2.1 124 = .ok (.aload_n 0, 1) := by decide +kernel
theorem d12_125 : decode Y12.2.1 125 = .ok (.iload_n 2, 1) := by decide +kernel
theorem d12_126 : decode Y12.2.1 126 = .ok (.iload_n 3, 1) := by decide +kernel
theorem d12_127 : decode Y12.2.1 127 = .ok (.invokevirtual 140, 3) := by decide +kernel
theorem d12_130 : decode Y12.2.1 130 = .ok (.iload 4, 2) := by decide +kernel
theorem d12_132 : decode Y12.2.1 132 = .ok (.invokestatic 142, 3) := by decide +kernel
theorem d12_135 : decode Y12.2.1 135 = .ok (.invokestatic 107, 3) := by decide +kernel
theorem d12_138 : decode Y12.2.1 138 = .ok (.iinc 3 1, 3) := by decide +kernel
theorem d12_141 : decode Y12.2.1 141 = .ok (.goto (-49), 3) := by decide +kernel
theorem d12_144 : decode Y12.2.1 144 = .ok (.iinc 2 1, 3) := by decide +kernel
theorem d12_147 : decode Y12.2.1 147 = .ok (.goto (-65), 3) := by decide +kernel
theorem d12_150 : decode Y12.2.1 150 = .ok (.iinc 1 1, 3) := by decide +kernel
theorem d12_153 : decode Y12.2.1 153 = .ok (.goto (-81), 3) := by decide +kernel
theorem d12_156 : decode Y12.2.1 156 = .ok (.return_, 1) := by decide +kernel
noncomputable def L12_2 (d : Nat) (a0 : Nat) (x1 : Int32) (o2 : Option ts_V) (o3 : Option ts_V) (m : lt_m) : Option lt_r := lt_run d Y12 2 [some (.inr (.inr (some a0))), some (.inl x1), o2, o3, none] [] m
noncomputable def L12_12 (d : Nat) (a0 : Nat) (x1 : Int32) (x2 : Int32) (o3 : Option ts_V) (m : lt_m) : Option lt_r := lt_run d Y12 12 [some (.inr (.inr (some a0))), some (.inl x1), some (.inl x2), o3, none] [] m
noncomputable def L12_72 (d : Nat) (a0 : Nat) (x1 : Int32) (o2 : Option ts_V) (o3 : Option ts_V) (o4 : Option ts_V) (m : lt_m) : Option lt_r := lt_run d Y12 72 [some (.inr (.inr (some a0))), some (.inl x1), o2, o3, o4] [] m
noncomputable def L12_82 (d : Nat) (a0 : Nat) (x1 : Int32) (x2 : Int32) (o3 : Option ts_V) (o4 : Option ts_V) (m : lt_m) : Option lt_r := lt_run d Y12 82 [some (.inr (.inr (some a0))), some (.inl x1), some (.inl x2), o3, o4] [] m
noncomputable def L12_92 (d : Nat) (a0 : Nat) (x1 : Int32) (x2 : Int32) (x3 : Int32) (o4 : Option ts_V) (m : lt_m) : Option lt_r := lt_run d Y12 92 [some (.inr (.inr (some a0))), some (.inl x1), some (.inl x2), some (.inl x3), o4] [] m
theorem E12 (d : Nat) (a0 : Nat) (h0 : ts_sh a0 = (0, 5)) (m : lt_m) : lt_ev (d + 1) 12 [.inr (.inr (some a0))] m = L12_2 d a0 (0 : Int32) none none m := by
  refine Eq.trans (lt_enter2 (ls := [some (.inr (.inr (some a0))), none, none, none, none]) hY12 (Nat.le_of_ble_eq_true rfl) (by rfl)) ?_
  refine Eq.trans (li_iconst d12_0 ic_0) ?_
  refine Eq.trans (li_istore_n (ls' := [some (.inr (.inr (some a0))), some (.inl (0 : Int32)), none, none, none]) d12_1 (by decide) (by rfl)) ?_
  rfl
theorem E12_2 (d : Nat) (a0 : Nat) (x1 : Int32) (o2 : Option ts_V) (o3 : Option ts_V) (h0 : ts_sh a0 = (0, 5)) (m : lt_m) : L12_2 d a0 x1 o2 o3 m = if (m.1 a0 6) ≤ x1 then (L12_72 d a0 (0 : Int32) (o2) (o3) none m) else (L12_12 d a0 x1 (0 : Int32) (o3) m) := by
  show lt_run d Y12 2 [some (.inr (.inr (some a0))), some (.inl x1), o2, o3, none] [] m = _
  refine Eq.trans (li_iload_n d12_2 (by rfl)) ?_
  refine Eq.trans (li_aload_n d12_3 (by rfl)) ?_
  refine Eq.trans (li_geti d12_4 fa_5_34 h0 rfl) ?_
  refine Eq.trans (li_icmp_ge (t := 70) d12_7 (by rfl)) ?_
  refine lt_ite (fun c1 => ?_) (fun c1 => ?_)
  · refine Eq.trans (li_iconst d12_70 ic_0) ?_
    refine Eq.trans (li_istore_n (ls' := [some (.inr (.inr (some a0))), some (.inl (0 : Int32)), o2, o3, none]) d12_71 (by decide) (by rfl)) ?_
    rfl
  · refine Eq.trans (li_iconst d12_10 ic_0) ?_
    refine Eq.trans (li_istore_n (ls' := [some (.inr (.inr (some a0))), some (.inl x1), some (.inl (0 : Int32)), o3, none]) d12_11 (by decide) (by rfl)) ?_
    rfl
theorem E12_12 (d : Nat) (a0 : Nat) (x1 : Int32) (x2 : Int32) (o3 : Option ts_V) (h0 : ts_sh a0 = (0, 5)) (m : lt_m) : L12_12 d a0 x1 x2 o3 m = if (m.1 a0 6) ≤ x2 then (L12_2 d a0 (x1 + (1 : Int32)) (some (.inl x2)) (o3) m) else (lt_cI (lt_ev d 13 [.inr (.inr (some a0)), .inl x1, .inl x2] m) (fun v1 m1 => (lt_cI (lt_ev d 15 [.inl x1, .inl x2] m1) (fun v2 m2 => (if ¬ x1 = x2 then (if v1 ≤ 0 then (lt_cV (lt_ev d 17 [.inr (.inr (some (a0 + 4))), .inl v2, .inl (1000000 : Int32)] m2) (fun m3 => (L12_12 d a0 x1 (x2 + (1 : Int32)) (some (.inl v1)) m3))) else (lt_cV (lt_ev d 17 [.inr (.inr (some (a0 + 4))), .inl v2, .inl v1] m2) (fun m4 => (L12_12 d a0 x1 (x2 + (1 : Int32)) (some (.inl v1)) m4)))) else (lt_cV (lt_ev d 17 [.inr (.inr (some (a0 + 4))), .inl v2, .inl (0 : Int32)] m2) (fun m5 => (L12_12 d a0 x1 (x2 + (1 : Int32)) (some (.inl v1)) m5)))))))) := by
  show lt_run d Y12 12 [some (.inr (.inr (some a0))), some (.inl x1), some (.inl x2), o3, none] [] m = _
  refine Eq.trans (li_iload_n d12_12 (by rfl)) ?_
  refine Eq.trans (li_aload_n d12_13 (by rfl)) ?_
  refine Eq.trans (li_geti d12_14 fa_5_34 h0 rfl) ?_
  refine Eq.trans (li_icmp_ge (t := 64) d12_17 (by rfl)) ?_
  refine lt_ite (fun c1 => ?_) (fun c1 => ?_)
  · refine Eq.trans (li_iinc (ls' := [some (.inr (.inr (some a0))), some (.inl (x1 + (1 : Int32))), some (.inl x2), o3, none]) d12_64 (by rfl) (by decide) ic_1 (by rfl)) ?_
    refine Eq.trans (li_goto (t := 2) d12_67 (by rfl)) ?_
    rfl
  · refine Eq.trans (li_aload_n d12_20 (by rfl)) ?_
    refine Eq.trans (li_iload_n d12_21 (by rfl)) ?_
    refine Eq.trans (li_iload_n d12_22 (by rfl)) ?_
    refine Eq.trans (li_ivI d12_23 ca_5_131 kd_13 kl_13 (by rfl) (by rfl) h0 (Nat.le_of_ble_eq_true rfl) (Nat.le_of_ble_eq_true rfl)) ?_
    refine lt_cI_c (fun v1 m1 => ?_)
    refine Eq.trans (li_istore_n (ls' := [some (.inr (.inr (some a0))), some (.inl x1), some (.inl x2), some (.inl v1), none]) d12_26 (by decide) (by rfl)) ?_
    refine Eq.trans (li_aload_n d12_27 (by rfl)) ?_
    refine Eq.trans (li_getr d12_28 fa_5_21 h0 rfl rfl rfl (by decide)) ?_
    refine Eq.trans (li_iload_n d12_31 (by rfl)) ?_
    refine Eq.trans (li_iload_n d12_32 (by rfl)) ?_
    refine Eq.trans (li_isI d12_33 bi_5_63 ca_5_63 kd_15 (by rfl) (by rfl) (Nat.le_of_ble_eq_true rfl) (Nat.le_of_ble_eq_true rfl)) ?_
    refine lt_cI_c (fun v2 m2 => ?_)
    refine Eq.trans (li_iload_n d12_36 (by rfl)) ?_
    refine Eq.trans (li_iload_n d12_37 (by rfl)) ?_
    refine Eq.trans (li_icmp_ne (t := 45) d12_38 (by rfl)) ?_
    refine lt_ite (fun c2 => ?_) (fun c2 => ?_)
    · refine Eq.trans (li_iload_n d12_45 (by rfl)) ?_
      refine Eq.trans (li_if_le (t := 53) d12_46 (by rfl)) ?_
      refine lt_ite (fun c3 => ?_) (fun c3 => ?_)
      · refine Eq.trans (li_ldc d12_53 cI_5_67) ?_
        refine Eq.trans (li_isV d12_55 bi_5_107 ca_5_107 kd_17 (by rfl) (by rfl) (Nat.le_of_ble_eq_true rfl) (Nat.le_of_ble_eq_true rfl)) ?_
        refine lt_cV_c (fun m3 => ?_)
        refine Eq.trans (li_iinc (ls' := [some (.inr (.inr (some a0))), some (.inl x1), some (.inl (x2 + (1 : Int32))), some (.inl v1), none]) d12_58 (by rfl) (by decide) ic_1 (by rfl)) ?_
        refine Eq.trans (li_goto (t := 12) d12_61 (by rfl)) ?_
        rfl
      · refine Eq.trans (li_iload_n d12_49 (by rfl)) ?_
        refine Eq.trans (li_goto (t := 55) d12_50 (by rfl)) ?_
        refine Eq.trans (li_isV d12_55 bi_5_107 ca_5_107 kd_17 (by rfl) (by rfl) (Nat.le_of_ble_eq_true rfl) (Nat.le_of_ble_eq_true rfl)) ?_
        refine lt_cV_c (fun m4 => ?_)
        refine Eq.trans (li_iinc (ls' := [some (.inr (.inr (some a0))), some (.inl x1), some (.inl (x2 + (1 : Int32))), some (.inl v1), none]) d12_58 (by rfl) (by decide) ic_1 (by rfl)) ?_
        refine Eq.trans (li_goto (t := 12) d12_61 (by rfl)) ?_
        rfl
    · refine Eq.trans (li_iconst d12_41 ic_0) ?_
      refine Eq.trans (li_goto (t := 55) d12_42 (by rfl)) ?_
      refine Eq.trans (li_isV d12_55 bi_5_107 ca_5_107 kd_17 (by rfl) (by rfl) (Nat.le_of_ble_eq_true rfl) (Nat.le_of_ble_eq_true rfl)) ?_
      refine lt_cV_c (fun m5 => ?_)
      refine Eq.trans (li_iinc (ls' := [some (.inr (.inr (some a0))), some (.inl x1), some (.inl (x2 + (1 : Int32))), some (.inl v1), none]) d12_58 (by rfl) (by decide) ic_1 (by rfl)) ?_
      refine Eq.trans (li_goto (t := 12) d12_61 (by rfl)) ?_
      rfl
theorem E12_72 (d : Nat) (a0 : Nat) (x1 : Int32) (o2 : Option ts_V) (o3 : Option ts_V) (o4 : Option ts_V) (h0 : ts_sh a0 = (0, 5)) (m : lt_m) : L12_72 d a0 x1 o2 o3 o4 m = if (m.1 a0 6) ≤ x1 then (some (none, m)) else (L12_82 d a0 x1 (0 : Int32) (o3) (o4) m) := by
  show lt_run d Y12 72 [some (.inr (.inr (some a0))), some (.inl x1), o2, o3, o4] [] m = _
  refine Eq.trans (li_iload_n d12_72 (by rfl)) ?_
  refine Eq.trans (li_aload_n d12_73 (by rfl)) ?_
  refine Eq.trans (li_geti d12_74 fa_5_34 h0 rfl) ?_
  refine Eq.trans (li_icmp_ge (t := 156) d12_77 (by rfl)) ?_
  refine lt_ite (fun c1 => ?_) (fun c1 => ?_)
  · exact li_vret d12_156 rfl
  · refine Eq.trans (li_iconst d12_80 ic_0) ?_
    refine Eq.trans (li_istore_n (ls' := [some (.inr (.inr (some a0))), some (.inl x1), some (.inl (0 : Int32)), o3, o4]) d12_81 (by decide) (by rfl)) ?_
    rfl
theorem E12_82 (d : Nat) (a0 : Nat) (x1 : Int32) (x2 : Int32) (o3 : Option ts_V) (o4 : Option ts_V) (h0 : ts_sh a0 = (0, 5)) (m : lt_m) : L12_82 d a0 x1 x2 o3 o4 m = if (m.1 a0 6) ≤ x2 then (L12_72 d a0 (x1 + (1 : Int32)) (some (.inl x2)) (o3) (o4) m) else (L12_92 d a0 x1 x2 (0 : Int32) (o4) m) := by
  show lt_run d Y12 82 [some (.inr (.inr (some a0))), some (.inl x1), some (.inl x2), o3, o4] [] m = _
  refine Eq.trans (li_iload_n d12_82 (by rfl)) ?_
  refine Eq.trans (li_aload_n d12_83 (by rfl)) ?_
  refine Eq.trans (li_geti d12_84 fa_5_34 h0 rfl) ?_
  refine Eq.trans (li_icmp_ge (t := 150) d12_87 (by rfl)) ?_
  refine lt_ite (fun c1 => ?_) (fun c1 => ?_)
  · refine Eq.trans (li_iinc (ls' := [some (.inr (.inr (some a0))), some (.inl (x1 + (1 : Int32))), some (.inl x2), o3, o4]) d12_150 (by rfl) (by decide) ic_1 (by rfl)) ?_
    refine Eq.trans (li_goto (t := 72) d12_153 (by rfl)) ?_
    rfl
  · refine Eq.trans (li_iconst d12_90 ic_0) ?_
    refine Eq.trans (li_istore_n (ls' := [some (.inr (.inr (some a0))), some (.inl x1), some (.inl x2), some (.inl (0 : Int32)), o4]) d12_91 (by decide) (by rfl)) ?_
    rfl
theorem E12_92 (d : Nat) (a0 : Nat) (x1 : Int32) (x2 : Int32) (x3 : Int32) (o4 : Option ts_V) (h0 : ts_sh a0 = (0, 5)) (m : lt_m) : L12_92 d a0 x1 x2 x3 o4 m = if (m.1 a0 6) ≤ x3 then (L12_82 d a0 x1 (x2 + (1 : Int32)) (some (.inl x3)) (o4) m) else (lt_cI (lt_ev d 18 [.inr (.inr (some a0)), .inl x2, .inl x1] m) (fun v1 m1 => (lt_cI (lt_ev d 18 [.inr (.inr (some a0)), .inl x1, .inl x3] m1) (fun v2 m2 => (lt_cI (lt_ev d 15 [.inl x2, .inl x3] m2) (fun v3 m3 => (lt_cI (lt_ev d 18 [.inr (.inr (some a0)), .inl x2, .inl x3] m3) (fun v4 m4 => (lt_cV (lt_ev d 17 [.inr (.inr (some (a0 + 4))), .inl v3, .inl (lm_min v4 (v1 + v2))] m4) (fun m5 => (L12_92 d a0 x1 x2 (x3 + (1 : Int32)) (some (.inl (v1 + v2))) m5))))))))))) := by
  show lt_run d Y12 92 [some (.inr (.inr (some a0))), some (.inl x1), some (.inl x2), some (.inl x3), o4] [] m = _
  refine Eq.trans (li_iload_n d12_92 (by rfl)) ?_
  refine Eq.trans (li_aload_n d12_93 (by rfl)) ?_
  refine Eq.trans (li_geti d12_94 fa_5_34 h0 rfl) ?_
  refine Eq.trans (li_icmp_ge (t := 144) d12_97 (by rfl)) ?_
  refine lt_ite (fun c1 => ?_) (fun c1 => ?_)
  · refine Eq.trans (li_iinc (ls' := [some (.inr (.inr (some a0))), some (.inl x1), some (.inl (x2 + (1 : Int32))), some (.inl x3), o4]) d12_144 (by rfl) (by decide) ic_1 (by rfl)) ?_
    refine Eq.trans (li_goto (t := 82) d12_147 (by rfl)) ?_
    rfl
  · refine Eq.trans (li_aload_n d12_100 (by rfl)) ?_
    refine Eq.trans (li_iload_n d12_101 (by rfl)) ?_
    refine Eq.trans (li_iload_n d12_102 (by rfl)) ?_
    refine Eq.trans (li_ivI d12_103 ca_5_140 kd_18 kl_18 (by rfl) (by rfl) h0 (Nat.le_of_ble_eq_true rfl) (Nat.le_of_ble_eq_true rfl)) ?_
    refine lt_cI_c (fun v1 m1 => ?_)
    refine Eq.trans (li_aload_n d12_106 (by rfl)) ?_
    refine Eq.trans (li_iload_n d12_107 (by rfl)) ?_
    refine Eq.trans (li_iload_n d12_108 (by rfl)) ?_
    refine Eq.trans (li_ivI d12_109 ca_5_140 kd_18 kl_18 (by rfl) (by rfl) h0 (Nat.le_of_ble_eq_true rfl) (Nat.le_of_ble_eq_true rfl)) ?_
    refine lt_cI_c (fun v2 m2 => ?_)
    refine Eq.trans (li_iadd d12_112) ?_
    refine Eq.trans (li_istore (ls' := [some (.inr (.inr (some a0))), some (.inl x1), some (.inl x2), some (.inl x3), some (.inl (v1 + v2))]) d12_113 (by decide) (by rfl)) ?_
    refine Eq.trans (li_aload_n d12_115 (by rfl)) ?_
    refine Eq.trans (li_getr d12_116 fa_5_21 h0 rfl rfl rfl (by decide)) ?_
    refine Eq.trans (li_iload_n d12_119 (by rfl)) ?_
    refine Eq.trans (li_iload_n d12_120 (by rfl)) ?_
    refine Eq.trans (li_isI d12_121 bi_5_63 ca_5_63 kd_15 (by rfl) (by rfl) (Nat.le_of_ble_eq_true rfl) (Nat.le_of_ble_eq_true rfl)) ?_
    refine lt_cI_c (fun v3 m3 => ?_)
    refine Eq.trans (li_aload_n d12_124 (by rfl)) ?_
    refine Eq.trans (li_iload_n d12_125 (by rfl)) ?_
    refine Eq.trans (li_iload_n d12_126 (by rfl)) ?_
    refine Eq.trans (li_ivI d12_127 ca_5_140 kd_18 kl_18 (by rfl) (by rfl) h0 (Nat.le_of_ble_eq_true rfl) (Nat.le_of_ble_eq_true rfl)) ?_
    refine lt_cI_c (fun v4 m4 => ?_)
    refine Eq.trans (li_iload d12_130 (by rfl)) ?_
    refine Eq.trans (li_min d12_132 bi_5_142 (Nat.le_of_ble_eq_true rfl)) ?_
    refine Eq.trans (li_isV d12_135 bi_5_107 ca_5_107 kd_17 (by rfl) (by rfl) (Nat.le_of_ble_eq_true rfl) (Nat.le_of_ble_eq_true rfl)) ?_
    refine lt_cV_c (fun m5 => ?_)
    refine Eq.trans (li_iinc (ls' := [some (.inr (.inr (some a0))), some (.inl x1), some (.inl x2), some (.inl (x3 + (1 : Int32))), some (.inl (v1 + v2))]) d12_138 (by rfl) (by decide) ic_1 (by rfl)) ?_
    refine Eq.trans (li_goto (t := 92) d12_141 (by rfl)) ?_
    rfl
/-! TransitSeals$Net.roadHours(II)I -/
theorem d13_0 : decode Y13.2.1 0 = .ok (.aload_n 0, 1) := by decide +kernel
theorem d13_1 : decode Y13.2.1 1 = .ok (.iload_n 1, 1) := by decide +kernel
theorem d13_2 : decode Y13.2.1 2 = .ok (.invokevirtual 59, 3) := by decide +kernel
theorem d13_5 : decode Y13.2.1 5 = .ok (.ifCond .eq 26, 3) := by decide +kernel
theorem d13_8 : decode Y13.2.1 8 = .ok (.aload_n 0, 1) := by decide +kernel
theorem d13_9 : decode Y13.2.1 9 = .ok (.iload_n 2, 1) := by decide +kernel
theorem d13_10 : decode Y13.2.1 10 = .ok (.invokevirtual 59, 3) := by decide +kernel
theorem d13_13 : decode Y13.2.1 13 = .ok (.ifCond .eq 18, 3) := by decide +kernel
theorem d13_16 : decode Y13.2.1 16 = .ok (.aload_n 0, 1) := by decide +kernel
theorem d13_17 : decode Y13.2.1 17 = .ok (.getfield 18, 3) := by decide +kernel
theorem d13_20 : decode Y13.2.1 20 = .ok (.iload_n 1, 1) := by decide +kernel
theorem d13_21 : decode Y13.2.1 21 = .ok (.iload_n 2, 1) := by decide +kernel
theorem d13_22 : decode Y13.2.1 22 = .ok (.invokestatic 63, 3) := by decide +kernel
theorem d13_25 : decode Y13.2.1 25 = .ok (.invokestatic 47, 3) := by decide +kernel
theorem d13_28 : decode Y13.2.1 28 = .ok (.goto 4, 3) := by decide +kernel
theorem d13_31 : decode Y13.2.1 31 = .ok (.iconst 0, 1) := by decide +kernel
theorem d13_32 : decode Y13.2.1 32 = .ok (.ireturn, 1) := by decide +kernel
theorem E13 (d : Nat) (a0 : Nat) (x1 : Int32) (x2 : Int32) (h0 : ts_sh a0 = (0, 5)) (m : lt_m) : lt_ev (d + 1) 13 [.inr (.inr (some a0)), .inl x1, .inl x2] m = lt_cI (lt_ev d 14 [.inr (.inr (some a0)), .inl x1] m) (fun v1 m1 => (if v1 = 0 then (some (some (.inl (0 : Int32)), m1)) else (lt_cI (lt_ev d 14 [.inr (.inr (some a0)), .inl x2] m1) (fun v2 m2 => (if v2 = 0 then (some (some (.inl (0 : Int32)), m2)) else (lt_cI (lt_ev d 15 [.inl x1, .inl x2] m2) (fun v3 m3 => (lt_cI (lt_ev d 16 [.inr (.inr (some (a0 + 3))), .inl v3] m3) (fun v4 m4 => (some (some (.inl v4), m4))))))))))) := by
  refine Eq.trans (lt_enter2 (ls := [some (.inr (.inr (some a0))), some (.inl x1), some (.inl x2)]) hY13 (Nat.le_of_ble_eq_true rfl) (by rfl)) ?_
  refine Eq.trans (li_aload_n d13_0 (by rfl)) ?_
  refine Eq.trans (li_iload_n d13_1 (by rfl)) ?_
  refine Eq.trans (li_ivI d13_2 ca_5_59 kd_14 kl_14 (by rfl) (by rfl) h0 (Nat.le_of_ble_eq_true rfl) (Nat.le_of_ble_eq_true rfl)) ?_
  refine lt_cI_c (fun v1 m1 => ?_)
  refine Eq.trans (li_if_eq (t := 31) d13_5 (by rfl)) ?_
  refine lt_ite (fun c1 => ?_) (fun c1 => ?_)
  · refine Eq.trans (li_iconst d13_31 ic_0) ?_
    exact li_iret d13_32 rfl
  · refine Eq.trans (li_aload_n d13_8 (by rfl)) ?_
    refine Eq.trans (li_iload_n d13_9 (by rfl)) ?_
    refine Eq.trans (li_ivI d13_10 ca_5_59 kd_14 kl_14 (by rfl) (by rfl) h0 (Nat.le_of_ble_eq_true rfl) (Nat.le_of_ble_eq_true rfl)) ?_
    refine lt_cI_c (fun v2 m2 => ?_)
    refine Eq.trans (li_if_eq (t := 31) d13_13 (by rfl)) ?_
    refine lt_ite (fun c2 => ?_) (fun c2 => ?_)
    · refine Eq.trans (li_iconst d13_31 ic_0) ?_
      exact li_iret d13_32 rfl
    · refine Eq.trans (li_aload_n d13_16 (by rfl)) ?_
      refine Eq.trans (li_getr d13_17 fa_5_18 h0 rfl rfl rfl (by decide)) ?_
      refine Eq.trans (li_iload_n d13_20 (by rfl)) ?_
      refine Eq.trans (li_iload_n d13_21 (by rfl)) ?_
      refine Eq.trans (li_isI d13_22 bi_5_63 ca_5_63 kd_15 (by rfl) (by rfl) (Nat.le_of_ble_eq_true rfl) (Nat.le_of_ble_eq_true rfl)) ?_
      refine lt_cI_c (fun v3 m3 => ?_)
      refine Eq.trans (li_isI d13_25 bi_5_47 ca_5_47 kd_16 (by rfl) (by rfl) (Nat.le_of_ble_eq_true rfl) (Nat.le_of_ble_eq_true rfl)) ?_
      refine lt_cI_c (fun v4 m4 => ?_)
      refine Eq.trans (li_goto (t := 32) d13_28 (by rfl)) ?_
      exact li_iret d13_32 rfl
/-! TransitSeals$Net.hasOffice(I)Z -/
theorem d14_0 : decode Y14.2.1 0 = .ok (.iload_n 1, 1) := by decide +kernel
theorem d14_1 : decode Y14.2.1 1 = .ok (.ifCond .lt 15, 3) := by decide +kernel
theorem d14_4 : decode Y14.2.1 4 = .ok (.iload_n 1, 1) := by decide +kernel
theorem d14_5 : decode Y14.2.1 5 = .ok (.aload_n 0, 1) := by decide +kernel
theorem d14_6 : decode Y14.2.1 6 = .ok (.getfield 34, 3) := by decide +kernel
theorem d14_9 : decode Y14.2.1 9 = .ok (.if_icmp .ge 7, 3) := by decide +kernel
theorem d14_12 : decode Y14.2.1 12 = .ok (.iconst 1, 1) := by decide +kernel
theorem d14_13 : decode Y14.2.1 13 = .ok (.goto 4, 3) := by decide +kernel
theorem d14_16 : decode Y14.2.1 16 = .ok (.iconst 0, 1) := by decide +kernel
theorem d14_17 : decode Y14.2.1 17 = .ok (.ireturn, 1) := by decide +kernel
theorem E14 (d : Nat) (a0 : Nat) (x1 : Int32) (h0 : ts_sh a0 = (0, 5)) (m : lt_m) : lt_ev (d + 1) 14 [.inr (.inr (some a0)), .inl x1] m = if x1 < 0 then (some (some (.inl (0 : Int32)), m)) else (if (m.1 a0 6) ≤ x1 then (some (some (.inl (0 : Int32)), m)) else (some (some (.inl (1 : Int32)), m))) := by
  refine Eq.trans (lt_enter2 (ls := [some (.inr (.inr (some a0))), some (.inl x1)]) hY14 (Nat.le_of_ble_eq_true rfl) (by rfl)) ?_
  refine Eq.trans (li_iload_n d14_0 (by rfl)) ?_
  refine Eq.trans (li_if_lt (t := 16) d14_1 (by rfl)) ?_
  refine lt_ite (fun c1 => ?_) (fun c1 => ?_)
  · refine Eq.trans (li_iconst d14_16 ic_0) ?_
    exact li_zret d14_17 rfl (by decide)
  · refine Eq.trans (li_iload_n d14_4 (by rfl)) ?_
    refine Eq.trans (li_aload_n d14_5 (by rfl)) ?_
    refine Eq.trans (li_geti d14_6 fa_5_34 h0 rfl) ?_
    refine Eq.trans (li_icmp_ge (t := 16) d14_9 (by rfl)) ?_
    refine lt_ite (fun c2 => ?_) (fun c2 => ?_)
    · refine Eq.trans (li_iconst d14_16 ic_0) ?_
      exact li_zret d14_17 rfl (by decide)
    · refine Eq.trans (li_iconst d14_12 ic_1) ?_
      refine Eq.trans (li_goto (t := 17) d14_13 (by rfl)) ?_
      exact li_zret d14_17 rfl (by decide)
/-! TransitSeals$Net.pair(II)I -/
theorem d15_0 : decode Y15.2.1 0 = .ok (.iload_n 0, 1) := by decide +kernel
theorem d15_1 : decode Y15.2.1 1 = .ok (.bipush 12, 2) := by decide +kernel
theorem d15_3 : decode Y15.2.1 3 = .ok (.imul, 1) := by decide +kernel
theorem d15_4 : decode Y15.2.1 4 = .ok (.iload_n 1, 1) := by decide +kernel
theorem d15_5 : decode Y15.2.1 5 = .ok (.iadd, 1) := by decide +kernel
theorem d15_6 : decode Y15.2.1 6 = .ok (.ireturn, 1) := by decide +kernel
theorem E15 (d : Nat) (x0 : Int32) (x1 : Int32)  (m : lt_m) : lt_ev (d + 1) 15 [.inl x0, .inl x1] m = some (some (.inl ((x0 * (12 : Int32)) + x1)), m) := by
  refine Eq.trans (lt_enter2 (ls := [some (.inl x0), some (.inl x1)]) hY15 (Nat.le_of_ble_eq_true rfl) (by rfl)) ?_
  refine Eq.trans (li_iload_n d15_0 (by rfl)) ?_
  refine Eq.trans (li_bipush d15_1 bi_12) ?_
  refine Eq.trans (li_imul d15_3) ?_
  refine Eq.trans (li_iload_n d15_4 (by rfl)) ?_
  refine Eq.trans (li_iadd d15_5) ?_
  exact li_iret d15_6 rfl
/-! TransitSeals.numberIn([II)I -/
theorem d16_0 : decode Y16.2.1 0 = .ok (.iload_n 1, 1) := by decide +kernel
theorem d16_1 : decode Y16.2.1 1 = .ok (.ifCond .lt 15, 3) := by decide +kernel
theorem d16_4 : decode Y16.2.1 4 = .ok (.iload_n 1, 1) := by decide +kernel
theorem d16_5 : decode Y16.2.1 5 = .ok (.aload_n 0, 1) := by decide +kernel
theorem d16_6 : decode Y16.2.1 6 = .ok (.arraylength, 1) := by decide +kernel
theorem d16_7 : decode Y16.2.1 7 = .ok (.if_icmp .ge 9, 3) := by decide +kernel
theorem d16_10 : decode Y16.2.1 10 = .ok (.aload_n 0, 1) := by decide +kernel
theorem d16_11 : decode Y16.2.1 11 = .ok (.iload_n 1, 1) := by decide +kernel
theorem d16_12 : decode Y16.2.1 12 = .ok (.iaload, 1) := by decide +kernel
theorem d16_13 : decode Y16.2.1 13 = .ok (.goto 4, 3) := by decide +kernel
theorem d16_16 : decode Y16.2.1 16 = .ok (.iconst 0, 1) := by decide +kernel
theorem d16_17 : decode Y16.2.1 17 = .ok (.ireturn, 1) := by decide +kernel
theorem E16 (d : Nat) (a0 : Nat) (n0 : Nat) (x1 : Int32) (h0 : ts_sh a0 = (1, n0)) (m : lt_m) : lt_ev (d + 1) 16 [.inr (.inr (some a0)), .inl x1] m = if x1 < 0 then (some (some (.inl (0 : Int32)), m)) else (if (Int32.ofNat n0) ≤ x1 then (some (some (.inl (0 : Int32)), m)) else (lt_gd (0 ≤ x1 ∧ (x1).toNatClampNeg < n0) (some (some (.inl (m.1 a0 (x1).toNatClampNeg)), m)))) := by
  refine Eq.trans (lt_enter2 (ls := [some (.inr (.inr (some a0))), some (.inl x1)]) hY16 (Nat.le_of_ble_eq_true rfl) (by rfl)) ?_
  refine Eq.trans (li_iload_n d16_0 (by rfl)) ?_
  refine Eq.trans (li_if_lt (t := 16) d16_1 (by rfl)) ?_
  refine lt_ite (fun c1 => ?_) (fun c1 => ?_)
  · refine Eq.trans (li_iconst d16_16 ic_0) ?_
    exact li_iret d16_17 rfl
  · refine Eq.trans (li_iload_n d16_4 (by rfl)) ?_
    refine Eq.trans (li_aload_n d16_5 (by rfl)) ?_
    refine Eq.trans (li_alen d16_6 h0 (by decide) (by rfl)) ?_
    refine Eq.trans (li_icmp_ge (t := 16) d16_7 (by rfl)) ?_
    refine lt_ite (fun c2 => ?_) (fun c2 => ?_)
    · refine Eq.trans (li_iconst d16_16 ic_0) ?_
      exact li_iret d16_17 rfl
    · refine Eq.trans (li_aload_n d16_10 (by rfl)) ?_
      refine Eq.trans (li_iload_n d16_11 (by rfl)) ?_
      refine Eq.trans (li_iald d16_12 h0) ?_
      refine lt_gd_c (fun g1 => ?_)
      refine Eq.trans (li_goto (t := 17) d16_13 (by rfl)) ?_
      exact li_iret d16_17 rfl
/-! TransitSeals.put([III)V -/
theorem d17_0 : decode Y17.2.1 0 = .ok (.iload_n 1, 1) := by decide +kernel
theorem d17_1 : decode Y17.2.1 1 = .ok (.ifCond .lt 13, 3) := by decide +kernel
theorem d17_4 : decode Y17.2.1 4 = .ok (.iload_n 1, 1) := by decide +kernel
theorem d17_5 : decode Y17.2.1 5 = .ok (.aload_n 0, 1) := by decide +kernel
theorem d17_6 : decode Y17.2.1 6 = .ok (.arraylength, 1) := by decide +kernel
theorem d17_7 : decode Y17.2.1 7 = .ok (.if_icmp .ge 7, 3) := by decide +kernel
theorem d17_10 : decode Y17.2.1 10 = .ok (.aload_n 0, 1) := by decide +kernel
theorem d17_11 : decode Y17.2.1 11 = .ok (.iload_n 1, 1) := by decide +kernel
theorem d17_12 : decode Y17.2.1 12 = .ok (.iload_n 2, 1) := by decide +kernel
theorem d17_13 : decode Y17.2.1 13 = .ok (.iastore, 1) := by decide +kernel
theorem d17_14 : decode Y17.2.1 14 = .ok (.return_, 1) := by decide +kernel
theorem E17 (d : Nat) (a0 : Nat) (n0 : Nat) (x1 : Int32) (x2 : Int32) (h0 : ts_sh a0 = (1, n0)) (m : lt_m) : lt_ev (d + 1) 17 [.inr (.inr (some a0)), .inl x1, .inl x2] m = if x1 < 0 then (some (none, m)) else (if (Int32.ofNat n0) ≤ x1 then (some (none, m)) else (lt_gd (0 ≤ x1 ∧ (x1).toNatClampNeg < n0) (some (none, (lm_i m a0 (x1).toNatClampNeg x2))))) := by
  refine Eq.trans (lt_enter2 (ls := [some (.inr (.inr (some a0))), some (.inl x1), some (.inl x2)]) hY17 (Nat.le_of_ble_eq_true rfl) (by rfl)) ?_
  refine Eq.trans (li_iload_n d17_0 (by rfl)) ?_
  refine Eq.trans (li_if_lt (t := 14) d17_1 (by rfl)) ?_
  refine lt_ite (fun c1 => ?_) (fun c1 => ?_)
  · exact li_vret d17_14 rfl
  · refine Eq.trans (li_iload_n d17_4 (by rfl)) ?_
    refine Eq.trans (li_aload_n d17_5 (by rfl)) ?_
    refine Eq.trans (li_alen d17_6 h0 (by decide) (by rfl)) ?_
    refine Eq.trans (li_icmp_ge (t := 14) d17_7 (by rfl)) ?_
    refine lt_ite (fun c2 => ?_) (fun c2 => ?_)
    · exact li_vret d17_14 rfl
    · refine Eq.trans (li_aload_n d17_10 (by rfl)) ?_
      refine Eq.trans (li_iload_n d17_11 (by rfl)) ?_
      refine Eq.trans (li_iload_n d17_12 (by rfl)) ?_
      refine Eq.trans (li_iast d17_13 h0) ?_
      refine lt_gd_c (fun g1 => ?_)
      exact li_vret d17_14 rfl
/-! TransitSeals$Net.wayHours(II)I -/
theorem d18_0 : decode Y18.2.1 0 = .ok (.aload_n 0, 1) := by decide +kernel
theorem d18_1 : decode Y18.2.1 1 = .ok (.iload_n 1, 1) := by decide +kernel
theorem d18_2 : decode Y18.2.1 2 = .ok (.invokevirtual 59, 3) := by decide +kernel
theorem d18_5 : decode Y18.2.1 5 = .ok (.ifCond .eq 26, 3) := by decide +kernel
theorem d18_8 : decode Y18.2.1 8 = .ok (.aload_n 0, 1) := by decide +kernel
theorem d18_9 : decode Y18.2.1 9 = .ok (.iload_n 2, 1) := by decide +kernel
theorem d18_10 : decode Y18.2.1 10 = .ok (.invokevirtual 59, 3) := by decide +kernel
theorem d18_13 : decode Y18.2.1 13 = .ok (.ifCond .eq 18, 3) := by decide +kernel
theorem d18_16 : decode Y18.2.1 16 = .ok (.aload_n 0, 1) := by decide +kernel
theorem d18_17 : decode Y18.2.1 17 = .ok (.getfield 21, 3) := by decide +kernel
theorem d18_20 : decode Y18.2.1 20 = .ok (.iload_n 1, 1) := by decide +kernel
theorem d18_21 : decode Y18.2.1 21 = .ok (.iload_n 2, 1) := by decide +kernel
theorem d18_22 : decode Y18.2.1 22 = .ok (.invokestatic 63, 3) := by decide +kernel
theorem d18_25 : decode Y18.2.1 25 = .ok (.invokestatic 47, 3) := by decide +kernel
theorem d18_28 : decode Y18.2.1 28 = .ok (.goto 5, 3) := by decide +kernel
theorem d18_31 : decode Y18.2.1 31 = .ok (.ldc 67, 2) := by decide +kernel
theorem d18_33 : decode Y18.2.1 33 = .ok (.ireturn, 1) := by decide +kernel
theorem E18 (d : Nat) (a0 : Nat) (x1 : Int32) (x2 : Int32) (h0 : ts_sh a0 = (0, 5)) (m : lt_m) : lt_ev (d + 1) 18 [.inr (.inr (some a0)), .inl x1, .inl x2] m = lt_cI (lt_ev d 14 [.inr (.inr (some a0)), .inl x1] m) (fun v1 m1 => (if v1 = 0 then (some (some (.inl (1000000 : Int32)), m1)) else (lt_cI (lt_ev d 14 [.inr (.inr (some a0)), .inl x2] m1) (fun v2 m2 => (if v2 = 0 then (some (some (.inl (1000000 : Int32)), m2)) else (lt_cI (lt_ev d 15 [.inl x1, .inl x2] m2) (fun v3 m3 => (lt_cI (lt_ev d 16 [.inr (.inr (some (a0 + 4))), .inl v3] m3) (fun v4 m4 => (some (some (.inl v4), m4))))))))))) := by
  refine Eq.trans (lt_enter2 (ls := [some (.inr (.inr (some a0))), some (.inl x1), some (.inl x2)]) hY18 (Nat.le_of_ble_eq_true rfl) (by rfl)) ?_
  refine Eq.trans (li_aload_n d18_0 (by rfl)) ?_
  refine Eq.trans (li_iload_n d18_1 (by rfl)) ?_
  refine Eq.trans (li_ivI d18_2 ca_5_59 kd_14 kl_14 (by rfl) (by rfl) h0 (Nat.le_of_ble_eq_true rfl) (Nat.le_of_ble_eq_true rfl)) ?_
  refine lt_cI_c (fun v1 m1 => ?_)
  refine Eq.trans (li_if_eq (t := 31) d18_5 (by rfl)) ?_
  refine lt_ite (fun c1 => ?_) (fun c1 => ?_)
  · refine Eq.trans (li_ldc d18_31 cI_5_67) ?_
    exact li_iret d18_33 rfl
  · refine Eq.trans (li_aload_n d18_8 (by rfl)) ?_
    refine Eq.trans (li_iload_n d18_9 (by rfl)) ?_
    refine Eq.trans (li_ivI d18_10 ca_5_59 kd_14 kl_14 (by rfl) (by rfl) h0 (Nat.le_of_ble_eq_true rfl) (Nat.le_of_ble_eq_true rfl)) ?_
    refine lt_cI_c (fun v2 m2 => ?_)
    refine Eq.trans (li_if_eq (t := 31) d18_13 (by rfl)) ?_
    refine lt_ite (fun c2 => ?_) (fun c2 => ?_)
    · refine Eq.trans (li_ldc d18_31 cI_5_67) ?_
      exact li_iret d18_33 rfl
    · refine Eq.trans (li_aload_n d18_16 (by rfl)) ?_
      refine Eq.trans (li_getr d18_17 fa_5_21 h0 rfl rfl rfl (by decide)) ?_
      refine Eq.trans (li_iload_n d18_20 (by rfl)) ?_
      refine Eq.trans (li_iload_n d18_21 (by rfl)) ?_
      refine Eq.trans (li_isI d18_22 bi_5_63 ca_5_63 kd_15 (by rfl) (by rfl) (Nat.le_of_ble_eq_true rfl) (Nat.le_of_ble_eq_true rfl)) ?_
      refine lt_cI_c (fun v3 m3 => ?_)
      refine Eq.trans (li_isI d18_25 bi_5_47 ca_5_47 kd_16 (by rfl) (by rfl) (Nat.le_of_ble_eq_true rfl) (Nat.le_of_ble_eq_true rfl)) ?_
      refine lt_cI_c (fun v4 m4 => ?_)
      refine Eq.trans (li_goto (t := 33) d18_28 (by rfl)) ?_
      exact li_iret d18_33 rfl
/-! TransitSeals$Net.writeDown()V -/
theorem d19_0 : decode Y19.2.1 0 = .ok (.aload_n 0, 1) := by decide +kernel
theorem d19_1 : decode Y19.2.1 1 = .ok (.getfield 30, 3) := by decide +kernel
theorem d19_4 : decode Y19.2.1 4 = .ok (.iconst 0, 1) := by decide +kernel
theorem d19_5 : decode Y19.2.1 5 = .ok (.invokevirtual 147, 3) := by decide +kernel
theorem d19_8 : decode Y19.2.1 8 = .ok (.iconst 0, 1) := by decide +kernel
theorem d19_9 : decode Y19.2.1 9 = .ok (.istore_n 1, 1) := by decide +kernel
theorem d19_10 : decode Y19.2.1 10 = .ok (.iload_n 1, 1) := by decide +kernel
theorem d19_11 : decode Y19.2.1 11 = .ok (.aload_n 0, 1) := by decide +kernel
theorem d19_12 : decode Y19.2.1 12 = .ok (.getfield 34, 3) := by decide +kernel
theorem d19_15 : decode Y19.2.1 15 = .ok (.if_icmp .ge 21, 3) := by decide +kernel
theorem d19_18 : decode Y19.2.1 18 = .ok (.aload_n 0, 1) := by decide +kernel
theorem d19_19 : decode Y19.2.1 19 = .ok (.getfield 30, 3) := by decide +kernel
theorem d19_22 : decode Y19.2.1 22 = .ok (.aload_n 0, 1) := by decide +kernel
theorem d19_23 : decode Y19.2.1 23 = .ok (.iload_n 1, 1) := by decide +kernel
theorem d19_24 : decode Y19.2.1 24 = .ok (.invokevirtual 151, 3) := by decide +kernel
theorem d19_27 : decode Y19.2.1 27 = .ok (.invokevirtual 154, 3) := by decide +kernel
theorem d19_30 : decode Y19.2.1 30 = .ok (.iinc 1 1, 3) := by decide +kernel
theorem d19_33 : decode Y19.2.1 33 = .ok (.goto (-23), 3) := by decide +kernel
theorem d19_36 : decode Y19.2.1 36 = .ok (.aload_n 0, 1) := by decide +kernel
theorem d19_37 : decode Y19.2.1 37 = .ok (.getfield 30, 3) := by decide +kernel
theorem d19_40 : decode Y19.2.1 40 = .ok (.bipush 124, 2) := by decide +kernel
theorem d19_42 : decode Y19.2.1 42 = .ok (.invokevirtual 157, 3) := by decide +kernel
theorem d19_45 : decode Y19.2.1 45 = .ok (.iconst 1, 1) := by decide +kernel
theorem d19_46 : decode Y19.2.1 46 = .ok (.istore_n 1, 1) := by decide +kernel
theorem d19_47 : decode Y19.2.1 47 = .ok (.iconst 0, 1) := by decide +kernel
theorem d19_48 : decode Y19.2.1 48 = .ok (.istore_n 2, 1) := by decide +kernel
theorem d19_49 : decode Y19.2.1 49 = .ok (.iload_n 2, 1) := by decide +kernel
theorem d19_50 : decode Y19.2.1 50 = .ok (.aload_n 0, 1) := by decide +kernel
theorem d19_51 : decode Y19.2.1 51 = .ok (.getfield 34, 3) := by decide +kernel
theorem d19_54 : decode Y19.2.1 54 = .ok (.if_icmp .ge 45, 3) := by decide +kernel
theorem d19_57 : decode Y19.2.1 57 = .ok (.iload_n 2, 1) := by decide +kernel
theorem d19_58 : decode Y19.2.1 58 = .ok (.iconst 1, 1) := by decide +kernel
theorem d19_59 : decode Y19.2.1 59 = .ok (.iadd, 1) := by decide +kernel
theorem d19_60 : decode Y19.2.1 60 = .ok (.istore_n 3, 1) := by decide +kernel
theorem d19_61 : decode Y19.2.1 61 = .ok (.iload_n 3, 1) := by decide +kernel
theorem d19_62 : decode Y19.2.1 62 = .ok (.aload_n 0, 1) := by decide +kernel
theorem d19_63 : decode Y19.2.1 63 = .ok (.getfield 34, 3) := by decide +kernel
theorem d19_66 : decode Y19.2.1 66 = .ok (.if_icmp .ge 27, 3) := by decide +kernel
theorem d19_69 : decode Y19.2.1 69 = .ok (.aload_n 0, 1) := by decide +kernel
theorem d19_70 : decode Y19.2.1 70 = .ok (.iload_n 2, 1) := by decide +kernel
theorem d19_71 : decode Y19.2.1 71 = .ok (.iload_n 3, 1) := by decide +kernel
theorem d19_72 : decode Y19.2.1 72 = .ok (.invokevirtual 131, 3) := by decide +kernel
theorem d19_75 : decode Y19.2.1 75 = .ok (.ifCond .le 12, 3) := by decide +kernel
theorem d19_78 : decode Y19.2.1 78 = .ok (.aload_n 0, 1) := by decide +kernel
theorem d19_79 : decode Y19.2.1 79 = .ok (.iload_n 2, 1) := by decide +kernel
theorem d19_80 : decode Y19.2.1 80 = .ok (.iload_n 3, 1) := by decide +kernel
theorem d19_81 : decode Y19.2.1 81 = .ok (.iload_n 1, 1) := by decide +kernel
theorem d19_82 : decode Y19.2.1 82 = .ok (.invokevirtual 160, 3) := by decide +kernel
theorem d19_85 : decode Y19.2.1 85 = .ok (.iconst 0, 1) := by decide +kernel
theorem d19_86 : decode Y19.2.1 86 = .ok (.istore_n 1, 1) := by decide +kernel
theorem d19_87 : decode Y19.2.1 87 = .ok (.iinc 3 1, 3) := by decide +kernel
theorem d19_90 : decode Y19.2.1 90 = .ok (.goto (-29), 3) := by decide +kernel
theorem d19_93 : decode Y19.2.1 93 = .ok (.iinc 2 1, 3) := by decide +kernel
theorem d19_96 : decode Y19.2.1 96 = .ok (.goto (-47), 3) := by decide +kernel
theorem d19_99 : decode Y19.2.1 99 = .ok (.iconst 0, 1) := by decide +kernel
theorem d19_100 : decode Y19.2.1 100 = .ok (.istore_n 2, 1) := by decide +kernel
theorem d19_101 : decode Y19.2.1 101 = .ok (.iload_n 2, 1) := by decide +kernel
theorem d19_102 : decode Y19.2.1 102 = .ok (.aload_n 0, 1) := by decide +kernel
theorem d19_103 : decode Y19.2.1 103 = .ok (.getfield 44, 3) := by decide +kernel
theorem d19_106 : decode Y19.2.1 106 = .ok (.if_icmp .ge 39, 3) := by decide +kernel
theorem d19_109 : decode Y19.2.1 109 = .ok (.aload_n 0, 1) := by decide +kernel
theorem d19_110 : decode Y19.2.1 110 = .ok (.getfield 30, 3) := by decide +kernel
theorem d19_113 : decode Y19.2.1 113 = .ok (.iload_n 2, 1) := by decide +kernel
theorem d19_114 : decode Y19.2.1 114 = .ok (.ifCond .ne 8, 3) := by decide +kernel
theorem d19_117 : decode Y19.2.1 117 = .ok (.bipush 124, 2) := by decide +kernel
theorem d19_119 : decode Y19.2.1 119 = .ok (.goto 5, 3) := by decide +kernel
theorem d19_122 : decode Y19.2.1 122 = .ok (.bipush 44, 2) := by decide +kernel
theorem d19_124 : decode Y19.2.1 124 = .ok (.invokevirtual 157, 3) := by decide +kernel
theorem d19_127 : decode Y19.2.1 127 = .ok (.aload_n 0, 1) := by decide +kernel
theorem d19_128 : decode Y19.2.1 128 = .ok (.getfield 30, 3) := by decide +kernel
theorem d19_131 : decode Y19.2.1 131 = .ok (.aload_n 0, 1) := by decide +kernel
theorem d19_132 : decode Y19.2.1 132 = .ok (.iload_n 2, 1) := by decide +kernel
theorem d19_133 : decode Y19.2.1 133 = .ok (.invokevirtual 164, 3) := by decide +kernel
theorem d19_136 : decode Y19.2.1 136 = .ok (.invokevirtual 154, 3) := by decide +kernel
theorem d19_139 : decode Y19.2.1 139 = .ok (.iinc 2 1, 3) := by decide +kernel
theorem d19_142 : decode Y19.2.1 142 = .ok (.goto (-41), 3) := by decide +kernel
theorem d19_145 : decode Y19.2.1 145 = .ok (.return_, 1) := by decide +kernel
noncomputable def L19_10 (d : Nat) (a0 : Nat) (x1 : Int32) (m : lt_m) : Option lt_r := lt_run d Y19 10 [some (.inr (.inr (some a0))), some (.inl x1), none, none] [] m
noncomputable def L19_49 (d : Nat) (a0 : Nat) (x1 : Int32) (x2 : Int32) (o3 : Option ts_V) (m : lt_m) : Option lt_r := lt_run d Y19 49 [some (.inr (.inr (some a0))), some (.inl x1), some (.inl x2), o3] [] m
noncomputable def L19_61 (d : Nat) (a0 : Nat) (x1 : Int32) (x2 : Int32) (x3 : Int32) (m : lt_m) : Option lt_r := lt_run d Y19 61 [some (.inr (.inr (some a0))), some (.inl x1), some (.inl x2), some (.inl x3)] [] m
noncomputable def L19_101 (d : Nat) (a0 : Nat) (x1 : Int32) (x2 : Int32) (o3 : Option ts_V) (m : lt_m) : Option lt_r := lt_run d Y19 101 [some (.inr (.inr (some a0))), some (.inl x1), some (.inl x2), o3] [] m
theorem E19 (d : Nat) (a0 : Nat) (h0 : ts_sh a0 = (0, 5)) (m : lt_m) : lt_ev (d + 1) 19 [.inr (.inr (some a0))] m = lt_cV (lt_ev d 20 [.inr (.inr (some (a0 + 6))), .inl (0 : Int32)] m) (fun m1 => (L19_10 d a0 (0 : Int32) m1)) := by
  refine Eq.trans (lt_enter2 (ls := [some (.inr (.inr (some a0))), none, none, none]) hY19 (Nat.le_of_ble_eq_true rfl) (by rfl)) ?_
  refine Eq.trans (li_aload_n d19_0 (by rfl)) ?_
  refine Eq.trans (li_getr d19_1 fa_5_30 h0 rfl rfl rfl (by decide)) ?_
  refine Eq.trans (li_iconst d19_4 ic_0) ?_
  refine Eq.trans (li_ivV d19_5 ca_5_147 kd_20 kl_20 (by rfl) (by rfl) (sf_of h0 5 (by decide) (by decide)) (Nat.le_of_ble_eq_true rfl) (Nat.le_of_ble_eq_true rfl)) ?_
  refine lt_cV_c (fun m1 => ?_)
  refine Eq.trans (li_iconst d19_8 ic_0) ?_
  refine Eq.trans (li_istore_n (ls' := [some (.inr (.inr (some a0))), some (.inl (0 : Int32)), none, none]) d19_9 (by decide) (by rfl)) ?_
  rfl
theorem E19_10 (d : Nat) (a0 : Nat) (x1 : Int32) (h0 : ts_sh a0 = (0, 5)) (m : lt_m) : L19_10 d a0 x1 m = if (m.1 a0 6) ≤ x1 then (lt_cV (lt_ev d 23 [.inr (.inr (some (a0 + 6))), .inl (124 : Int32)] m) (fun m1 => (L19_49 d a0 (1 : Int32) (0 : Int32) none m1))) else (lt_cI (lt_ev d 21 [.inr (.inr (some a0)), .inl x1] m) (fun v1 m2 => (lt_cV (lt_ev d 22 [.inr (.inr (some (a0 + 6))), .inl v1] m2) (fun m3 => (L19_10 d a0 (x1 + (1 : Int32)) m3))))) := by
  show lt_run d Y19 10 [some (.inr (.inr (some a0))), some (.inl x1), none, none] [] m = _
  refine Eq.trans (li_iload_n d19_10 (by rfl)) ?_
  refine Eq.trans (li_aload_n d19_11 (by rfl)) ?_
  refine Eq.trans (li_geti d19_12 fa_5_34 h0 rfl) ?_
  refine Eq.trans (li_icmp_ge (t := 36) d19_15 (by rfl)) ?_
  refine lt_ite (fun c1 => ?_) (fun c1 => ?_)
  · refine Eq.trans (li_aload_n d19_36 (by rfl)) ?_
    refine Eq.trans (li_getr d19_37 fa_5_30 h0 rfl rfl rfl (by decide)) ?_
    refine Eq.trans (li_bipush d19_40 bi_124) ?_
    refine Eq.trans (li_ivV d19_42 ca_5_157 kd_23 kl_23 (by rfl) (by rfl) (sf_of h0 5 (by decide) (by decide)) (Nat.le_of_ble_eq_true rfl) (Nat.le_of_ble_eq_true rfl)) ?_
    refine lt_cV_c (fun m1 => ?_)
    refine Eq.trans (li_iconst d19_45 ic_1) ?_
    refine Eq.trans (li_istore_n (ls' := [some (.inr (.inr (some a0))), some (.inl (1 : Int32)), none, none]) d19_46 (by decide) (by rfl)) ?_
    refine Eq.trans (li_iconst d19_47 ic_0) ?_
    refine Eq.trans (li_istore_n (ls' := [some (.inr (.inr (some a0))), some (.inl (1 : Int32)), some (.inl (0 : Int32)), none]) d19_48 (by decide) (by rfl)) ?_
    rfl
  · refine Eq.trans (li_aload_n d19_18 (by rfl)) ?_
    refine Eq.trans (li_getr d19_19 fa_5_30 h0 rfl rfl rfl (by decide)) ?_
    refine Eq.trans (li_aload_n d19_22 (by rfl)) ?_
    refine Eq.trans (li_iload_n d19_23 (by rfl)) ?_
    refine Eq.trans (li_ivI d19_24 ca_5_151 kd_21 kl_21 (by rfl) (by rfl) h0 (Nat.le_of_ble_eq_true rfl) (Nat.le_of_ble_eq_true rfl)) ?_
    refine lt_cI_c (fun v1 m2 => ?_)
    refine Eq.trans (li_ivV d19_27 ca_5_154 kd_22 kl_22 (by rfl) (by rfl) (sf_of h0 5 (by decide) (by decide)) (Nat.le_of_ble_eq_true rfl) (Nat.le_of_ble_eq_true rfl)) ?_
    refine lt_cV_c (fun m3 => ?_)
    refine Eq.trans (li_iinc (ls' := [some (.inr (.inr (some a0))), some (.inl (x1 + (1 : Int32))), none, none]) d19_30 (by rfl) (by decide) ic_1 (by rfl)) ?_
    refine Eq.trans (li_goto (t := 10) d19_33 (by rfl)) ?_
    rfl
theorem E19_49 (d : Nat) (a0 : Nat) (x1 : Int32) (x2 : Int32) (o3 : Option ts_V) (h0 : ts_sh a0 = (0, 5)) (m : lt_m) : L19_49 d a0 x1 x2 o3 m = if (m.1 a0 6) ≤ x2 then (L19_101 d a0 x1 (0 : Int32) (o3) m) else (L19_61 d a0 x1 x2 (x2 + (1 : Int32)) m) := by
  show lt_run d Y19 49 [some (.inr (.inr (some a0))), some (.inl x1), some (.inl x2), o3] [] m = _
  refine Eq.trans (li_iload_n d19_49 (by rfl)) ?_
  refine Eq.trans (li_aload_n d19_50 (by rfl)) ?_
  refine Eq.trans (li_geti d19_51 fa_5_34 h0 rfl) ?_
  refine Eq.trans (li_icmp_ge (t := 99) d19_54 (by rfl)) ?_
  refine lt_ite (fun c1 => ?_) (fun c1 => ?_)
  · refine Eq.trans (li_iconst d19_99 ic_0) ?_
    refine Eq.trans (li_istore_n (ls' := [some (.inr (.inr (some a0))), some (.inl x1), some (.inl (0 : Int32)), o3]) d19_100 (by decide) (by rfl)) ?_
    rfl
  · refine Eq.trans (li_iload_n d19_57 (by rfl)) ?_
    refine Eq.trans (li_iconst d19_58 ic_1) ?_
    refine Eq.trans (li_iadd d19_59) ?_
    refine Eq.trans (li_istore_n (ls' := [some (.inr (.inr (some a0))), some (.inl x1), some (.inl x2), some (.inl (x2 + (1 : Int32)))]) d19_60 (by decide) (by rfl)) ?_
    rfl
theorem E19_61 (d : Nat) (a0 : Nat) (x1 : Int32) (x2 : Int32) (x3 : Int32) (h0 : ts_sh a0 = (0, 5)) (m : lt_m) : L19_61 d a0 x1 x2 x3 m = if (m.1 a0 6) ≤ x3 then (L19_49 d a0 x1 (x2 + (1 : Int32)) (some (.inl x3)) m) else (lt_cI (lt_ev d 13 [.inr (.inr (some a0)), .inl x2, .inl x3] m) (fun v1 m1 => (if v1 ≤ 0 then (L19_61 d a0 x1 x2 (x3 + (1 : Int32)) m1) else (lt_cV (lt_ev d 24 [.inr (.inr (some a0)), .inl x2, .inl x3, .inl x1] m1) (fun m2 => (L19_61 d a0 (0 : Int32) x2 (x3 + (1 : Int32)) m2)))))) := by
  show lt_run d Y19 61 [some (.inr (.inr (some a0))), some (.inl x1), some (.inl x2), some (.inl x3)] [] m = _
  refine Eq.trans (li_iload_n d19_61 (by rfl)) ?_
  refine Eq.trans (li_aload_n d19_62 (by rfl)) ?_
  refine Eq.trans (li_geti d19_63 fa_5_34 h0 rfl) ?_
  refine Eq.trans (li_icmp_ge (t := 93) d19_66 (by rfl)) ?_
  refine lt_ite (fun c1 => ?_) (fun c1 => ?_)
  · refine Eq.trans (li_iinc (ls' := [some (.inr (.inr (some a0))), some (.inl x1), some (.inl (x2 + (1 : Int32))), some (.inl x3)]) d19_93 (by rfl) (by decide) ic_1 (by rfl)) ?_
    refine Eq.trans (li_goto (t := 49) d19_96 (by rfl)) ?_
    rfl
  · refine Eq.trans (li_aload_n d19_69 (by rfl)) ?_
    refine Eq.trans (li_iload_n d19_70 (by rfl)) ?_
    refine Eq.trans (li_iload_n d19_71 (by rfl)) ?_
    refine Eq.trans (li_ivI d19_72 ca_5_131 kd_13 kl_13 (by rfl) (by rfl) h0 (Nat.le_of_ble_eq_true rfl) (Nat.le_of_ble_eq_true rfl)) ?_
    refine lt_cI_c (fun v1 m1 => ?_)
    refine Eq.trans (li_if_le (t := 87) d19_75 (by rfl)) ?_
    refine lt_ite (fun c2 => ?_) (fun c2 => ?_)
    · refine Eq.trans (li_iinc (ls' := [some (.inr (.inr (some a0))), some (.inl x1), some (.inl x2), some (.inl (x3 + (1 : Int32)))]) d19_87 (by rfl) (by decide) ic_1 (by rfl)) ?_
      refine Eq.trans (li_goto (t := 61) d19_90 (by rfl)) ?_
      rfl
    · refine Eq.trans (li_aload_n d19_78 (by rfl)) ?_
      refine Eq.trans (li_iload_n d19_79 (by rfl)) ?_
      refine Eq.trans (li_iload_n d19_80 (by rfl)) ?_
      refine Eq.trans (li_iload_n d19_81 (by rfl)) ?_
      refine Eq.trans (li_ivV d19_82 ca_5_160 kd_24 kl_24 (by rfl) (by rfl) h0 (Nat.le_of_ble_eq_true rfl) (Nat.le_of_ble_eq_true rfl)) ?_
      refine lt_cV_c (fun m2 => ?_)
      refine Eq.trans (li_iconst d19_85 ic_0) ?_
      refine Eq.trans (li_istore_n (ls' := [some (.inr (.inr (some a0))), some (.inl (0 : Int32)), some (.inl x2), some (.inl x3)]) d19_86 (by decide) (by rfl)) ?_
      refine Eq.trans (li_iinc (ls' := [some (.inr (.inr (some a0))), some (.inl (0 : Int32)), some (.inl x2), some (.inl (x3 + (1 : Int32)))]) d19_87 (by rfl) (by decide) ic_1 (by rfl)) ?_
      refine Eq.trans (li_goto (t := 61) d19_90 (by rfl)) ?_
      rfl
theorem E19_101 (d : Nat) (a0 : Nat) (x1 : Int32) (x2 : Int32) (o3 : Option ts_V) (h0 : ts_sh a0 = (0, 5)) (m : lt_m) : L19_101 d a0 x1 x2 o3 m = if (m.1 a0 8) ≤ x2 then (some (none, m)) else (if ¬ x2 = 0 then (lt_cV (lt_ev d 23 [.inr (.inr (some (a0 + 6))), .inl (44 : Int32)] m) (fun m1 => (lt_cI (lt_ev d 25 [.inr (.inr (some a0)), .inl x2] m1) (fun v1 m2 => (lt_cV (lt_ev d 22 [.inr (.inr (some (a0 + 6))), .inl v1] m2) (fun m3 => (L19_101 d a0 x1 (x2 + (1 : Int32)) (o3) m3))))))) else (lt_cV (lt_ev d 23 [.inr (.inr (some (a0 + 6))), .inl (124 : Int32)] m) (fun m4 => (lt_cI (lt_ev d 25 [.inr (.inr (some a0)), .inl x2] m4) (fun v2 m5 => (lt_cV (lt_ev d 22 [.inr (.inr (some (a0 + 6))), .inl v2] m5) (fun m6 => (L19_101 d a0 x1 (x2 + (1 : Int32)) (o3) m6)))))))) := by
  show lt_run d Y19 101 [some (.inr (.inr (some a0))), some (.inl x1), some (.inl x2), o3] [] m = _
  refine Eq.trans (li_iload_n d19_101 (by rfl)) ?_
  refine Eq.trans (li_aload_n d19_102 (by rfl)) ?_
  refine Eq.trans (li_geti d19_103 fa_5_44 h0 rfl) ?_
  refine Eq.trans (li_icmp_ge (t := 145) d19_106 (by rfl)) ?_
  refine lt_ite (fun c1 => ?_) (fun c1 => ?_)
  · exact li_vret d19_145 rfl
  · refine Eq.trans (li_aload_n d19_109 (by rfl)) ?_
    refine Eq.trans (li_getr d19_110 fa_5_30 h0 rfl rfl rfl (by decide)) ?_
    refine Eq.trans (li_iload_n d19_113 (by rfl)) ?_
    refine Eq.trans (li_if_ne (t := 122) d19_114 (by rfl)) ?_
    refine lt_ite (fun c2 => ?_) (fun c2 => ?_)
    · refine Eq.trans (li_bipush d19_122 bi_44) ?_
      refine Eq.trans (li_ivV d19_124 ca_5_157 kd_23 kl_23 (by rfl) (by rfl) (sf_of h0 5 (by decide) (by decide)) (Nat.le_of_ble_eq_true rfl) (Nat.le_of_ble_eq_true rfl)) ?_
      refine lt_cV_c (fun m1 => ?_)
      refine Eq.trans (li_aload_n d19_127 (by rfl)) ?_
      refine Eq.trans (li_getr d19_128 fa_5_30 h0 rfl rfl rfl (by decide)) ?_
      refine Eq.trans (li_aload_n d19_131 (by rfl)) ?_
      refine Eq.trans (li_iload_n d19_132 (by rfl)) ?_
      refine Eq.trans (li_ivI d19_133 ca_5_164 kd_25 kl_25 (by rfl) (by rfl) h0 (Nat.le_of_ble_eq_true rfl) (Nat.le_of_ble_eq_true rfl)) ?_
      refine lt_cI_c (fun v1 m2 => ?_)
      refine Eq.trans (li_ivV d19_136 ca_5_154 kd_22 kl_22 (by rfl) (by rfl) (sf_of h0 5 (by decide) (by decide)) (Nat.le_of_ble_eq_true rfl) (Nat.le_of_ble_eq_true rfl)) ?_
      refine lt_cV_c (fun m3 => ?_)
      refine Eq.trans (li_iinc (ls' := [some (.inr (.inr (some a0))), some (.inl x1), some (.inl (x2 + (1 : Int32))), o3]) d19_139 (by rfl) (by decide) ic_1 (by rfl)) ?_
      refine Eq.trans (li_goto (t := 101) d19_142 (by rfl)) ?_
      rfl
    · refine Eq.trans (li_bipush d19_117 bi_124) ?_
      refine Eq.trans (li_goto (t := 124) d19_119 (by rfl)) ?_
      refine Eq.trans (li_ivV d19_124 ca_5_157 kd_23 kl_23 (by rfl) (by rfl) (sf_of h0 5 (by decide) (by decide)) (Nat.le_of_ble_eq_true rfl) (Nat.le_of_ble_eq_true rfl)) ?_
      refine lt_cV_c (fun m4 => ?_)
      refine Eq.trans (li_aload_n d19_127 (by rfl)) ?_
      refine Eq.trans (li_getr d19_128 fa_5_30 h0 rfl rfl rfl (by decide)) ?_
      refine Eq.trans (li_aload_n d19_131 (by rfl)) ?_
      refine Eq.trans (li_iload_n d19_132 (by rfl)) ?_
      refine Eq.trans (li_ivI d19_133 ca_5_164 kd_25 kl_25 (by rfl) (by rfl) h0 (Nat.le_of_ble_eq_true rfl) (Nat.le_of_ble_eq_true rfl)) ?_
      refine lt_cI_c (fun v2 m5 => ?_)
      refine Eq.trans (li_ivV d19_136 ca_5_154 kd_22 kl_22 (by rfl) (by rfl) (sf_of h0 5 (by decide) (by decide)) (Nat.le_of_ble_eq_true rfl) (Nat.le_of_ble_eq_true rfl)) ?_
      refine lt_cV_c (fun m6 => ?_)
      refine Eq.trans (li_iinc (ls' := [some (.inr (.inr (some a0))), some (.inl x1), some (.inl (x2 + (1 : Int32))), o3]) d19_139 (by rfl) (by decide) ic_1 (by rfl)) ?_
      refine Eq.trans (li_goto (t := 101) d19_142 (by rfl)) ?_
      rfl
/-! TransitSeals$Text.cutTo(I)V -/
theorem d20_0 : decode Y20.2.1 0 = .ok (.iload_n 1, 1) := by decide +kernel
theorem d20_1 : decode Y20.2.1 1 = .ok (.ifCond .lt 16, 3) := by decide +kernel
theorem d20_4 : decode Y20.2.1 4 = .ok (.iload_n 1, 1) := by decide +kernel
theorem d20_5 : decode Y20.2.1 5 = .ok (.aload_n 0, 1) := by decide +kernel
theorem d20_6 : decode Y20.2.1 6 = .ok (.getfield 15, 3) := by decide +kernel
theorem d20_9 : decode Y20.2.1 9 = .ok (.if_icmp .gt 8, 3) := by decide +kernel
theorem d20_12 : decode Y20.2.1 12 = .ok (.aload_n 0, 1) := by decide +kernel
theorem d20_13 : decode Y20.2.1 13 = .ok (.iload_n 1, 1) := by decide +kernel
theorem d20_14 : decode Y20.2.1 14 = .ok (.putfield 15, 3) := by decide +kernel
theorem d20_17 : decode Y20.2.1 17 = .ok (.return_, 1) := by decide +kernel
theorem E20 (d : Nat) (a0 : Nat) (x1 : Int32) (h0 : ts_sh a0 = (0, 10)) (m : lt_m) : lt_ev (d + 1) 20 [.inr (.inr (some a0)), .inl x1] m = if x1 < 0 then (some (none, m)) else (if (m.1 a0 1) < x1 then (some (none, m)) else (some (none, (lm_i m a0 1 x1)))) := by
  refine Eq.trans (lt_enter2 (ls := [some (.inr (.inr (some a0))), some (.inl x1)]) hY20 (Nat.le_of_ble_eq_true rfl) (by rfl)) ?_
  refine Eq.trans (li_iload_n d20_0 (by rfl)) ?_
  refine Eq.trans (li_if_lt (t := 17) d20_1 (by rfl)) ?_
  refine lt_ite (fun c1 => ?_) (fun c1 => ?_)
  · exact li_vret d20_17 rfl
  · refine Eq.trans (li_iload_n d20_4 (by rfl)) ?_
    refine Eq.trans (li_aload_n d20_5 (by rfl)) ?_
    refine Eq.trans (li_geti d20_6 fa_10_15 h0 rfl) ?_
    refine Eq.trans (li_icmp_gt (t := 17) d20_9 (by rfl)) ?_
    refine lt_ite (fun c2 => ?_) (fun c2 => ?_)
    · exact li_vret d20_17 rfl
    · refine Eq.trans (li_aload_n d20_12 (by rfl)) ?_
      refine Eq.trans (li_iload_n d20_13 (by rfl)) ?_
      refine Eq.trans (li_puti d20_14 fa_10_15 h0 rfl rfl) ?_
      exact li_vret d20_17 rfl
/-! TransitSeals$Net.countryOf(I)I -/
theorem d21_0 : decode Y21.2.1 0 = .ok (.aload_n 0, 1) := by decide +kernel
theorem d21_1 : decode Y21.2.1 1 = .ok (.getfield 9, 3) := by decide +kernel
theorem d21_4 : decode Y21.2.1 4 = .ok (.iload_n 1, 1) := by decide +kernel
theorem d21_5 : decode Y21.2.1 5 = .ok (.invokestatic 47, 3) := by decide +kernel
theorem d21_8 : decode Y21.2.1 8 = .ok (.ireturn, 1) := by decide +kernel
theorem E21 (d : Nat) (a0 : Nat) (x1 : Int32) (h0 : ts_sh a0 = (0, 5)) (m : lt_m) : lt_ev (d + 1) 21 [.inr (.inr (some a0)), .inl x1] m = lt_cI (lt_ev d 16 [.inr (.inr (some (a0 + 1))), .inl x1] m) (fun v1 m1 => (some (some (.inl v1), m1))) := by
  refine Eq.trans (lt_enter2 (ls := [some (.inr (.inr (some a0))), some (.inl x1)]) hY21 (Nat.le_of_ble_eq_true rfl) (by rfl)) ?_
  refine Eq.trans (li_aload_n d21_0 (by rfl)) ?_
  refine Eq.trans (li_getr d21_1 fa_5_9 h0 rfl rfl rfl (by decide)) ?_
  refine Eq.trans (li_iload_n d21_4 (by rfl)) ?_
  refine Eq.trans (li_isI d21_5 bi_5_47 ca_5_47 kd_16 (by rfl) (by rfl) (Nat.le_of_ble_eq_true rfl) (Nat.le_of_ble_eq_true rfl)) ?_
  refine lt_cI_c (fun v1 m1 => ?_)
  exact li_iret d21_8 rfl
/-! TransitSeals$Text.addNumber(I)V -/
theorem d22_0 : decode Y22.2.1 0 = .ok (.iload_n 1, 1) := by decide +kernel
theorem d22_1 : decode Y22.2.1 1 = .ok (.bipush 100, 2) := by decide +kernel
theorem d22_3 : decode Y22.2.1 3 = .ok (.if_icmp .lt 17, 3) := by decide +kernel
theorem d22_6 : decode Y22.2.1 6 = .ok (.aload_n 0, 1) := by decide +kernel
theorem d22_7 : decode Y22.2.1 7 = .ok (.bipush 48, 2) := by decide +kernel
theorem d22_9 : decode Y22.2.1 9 = .ok (.iload_n 1, 1) := by decide +kernel
theorem d22_10 : decode Y22.2.1 10 = .ok (.bipush 100, 2) := by decide +kernel
theorem d22_12 : decode Y22.2.1 12 = .ok (.idiv, 1) := by decide +kernel
theorem d22_13 : decode Y22.2.1 13 = .ok (.bipush 10, 2) := by decide +kernel
theorem d22_15 : decode Y22.2.1 15 = .ok (.irem, 1) := by decide +kernel
theorem d22_16 : decode Y22.2.1 16 = .ok (.iadd, 1) := by decide +kernel
theorem d22_17 : decode Y22.2.1 17 = .ok (.invokevirtual 23, 3) := by decide +kernel
theorem d22_20 : decode Y22.2.1 20 = .ok (.iload_n 1, 1) := by decide +kernel
theorem d22_21 : decode Y22.2.1 21 = .ok (.bipush 10, 2) := by decide +kernel
theorem d22_23 : decode Y22.2.1 23 = .ok (.if_icmp .lt 17, 3) := by decide +kernel
theorem d22_26 : decode Y22.2.1 26 = .ok (.aload_n 0, 1) := by decide +kernel
theorem d22_27 : decode Y22.2.1 27 = .ok (.bipush 48, 2) := by decide +kernel
theorem d22_29 : decode Y22.2.1 29 = .ok (.iload_n 1, 1) := by decide +kernel
theorem d22_30 : decode Y22.2.1 30 = .ok (.bipush 10, 2) := by decide +kernel
theorem d22_32 : decode Y22.2.1 32 = .ok (.idiv, 1) := by decide +kernel
theorem d22_33 : decode Y22.2.1 33 = .ok (.bipush 10, 2) := by decide +kernel
theorem d22_35 : decode Y22.2.1 35 = .ok (.irem, 1) := by decide +kernel
theorem d22_36 : decode Y22.2.1 36 = .ok (.iadd, 1) := by decide +kernel
theorem d22_37 : decode Y22.2.1 37 = .ok (.invokevirtual 23, 3) := by decide +kernel
theorem d22_40 : decode Y22.2.1 40 = .ok (.aload_n 0, 1) := by decide +kernel
theorem d22_41 : decode Y22.2.1 41 = .ok (.bipush 48, 2) := by decide +kernel
theorem d22_43 : decode Y22.2.1 43 = .ok (.iload_n 1, 1) := by decide +kernel
theorem d22_44 : decode Y22.2.1 44 = .ok (.bipush 10, 2) := by decide +kernel
theorem d22_46 : decode Y22.2.1 46 = .ok (.irem, 1) := by decide +kernel
theorem d22_47 : decode Y22.2.1 47 = .ok (.iadd, 1) := by decide +kernel
theorem d22_48 : decode Y22.2.1 48 = .ok (.invokevirtual 23, 3) := by decide +kernel
theorem d22_51 : decode Y22.2.1 51 = .ok (.return_, 1) := by decide +kernel
noncomputable def L22_20 (d : Nat) (a0 : Nat) (x1 : Int32) (m : lt_m) : Option lt_r := lt_run d Y22 20 [some (.inr (.inr (some a0))), some (.inl x1)] [] m
theorem E22 (d : Nat) (a0 : Nat) (x1 : Int32) (h0 : ts_sh a0 = (0, 10)) (m : lt_m) : lt_ev (d + 1) 22 [.inr (.inr (some a0)), .inl x1] m = if x1 < (100 : Int32) then (L22_20 d a0 x1 m) else (lt_cV (lt_ev d 23 [.inr (.inr (some a0)), .inl ((48 : Int32) + ((x1 / (100 : Int32)) - (x1 / (100 : Int32)) / (10 : Int32) * (10 : Int32)))] m) (fun m1 => (L22_20 d a0 x1 m1))) := by
  refine Eq.trans (lt_enter2 (ls := [some (.inr (.inr (some a0))), some (.inl x1)]) hY22 (Nat.le_of_ble_eq_true rfl) (by rfl)) ?_
  refine Eq.trans (li_iload_n d22_0 (by rfl)) ?_
  refine Eq.trans (li_bipush d22_1 bi_100) ?_
  refine Eq.trans (li_icmp_lt (t := 20) d22_3 (by rfl)) ?_
  refine lt_ite (fun c1 => ?_) (fun c1 => ?_)
  · rfl
  · refine Eq.trans (li_aload_n d22_6 (by rfl)) ?_
    refine Eq.trans (li_bipush d22_7 bi_48) ?_
    refine Eq.trans (li_iload_n d22_9 (by rfl)) ?_
    refine Eq.trans (li_bipush d22_10 bi_100) ?_
    refine Eq.trans (li_idiv d22_12) ?_
    refine Eq.trans (lt_gd_t (by decide)) ?_
    refine Eq.trans (li_bipush d22_13 bi_10) ?_
    refine Eq.trans (li_irem d22_15) ?_
    refine Eq.trans (lt_gd_t (by decide)) ?_
    refine Eq.trans (li_iadd d22_16) ?_
    refine Eq.trans (li_ivV d22_17 ca_10_23 kd_23 kl_23 (by rfl) (by rfl) h0 (Nat.le_of_ble_eq_true rfl) (Nat.le_of_ble_eq_true rfl)) ?_
    refine lt_cV_c (fun m1 => ?_)
    rfl
theorem E22_20 (d : Nat) (a0 : Nat) (x1 : Int32) (h0 : ts_sh a0 = (0, 10)) (m : lt_m) : L22_20 d a0 x1 m = if x1 < (10 : Int32) then (lt_cV (lt_ev d 23 [.inr (.inr (some a0)), .inl ((48 : Int32) + (x1 - x1 / (10 : Int32) * (10 : Int32)))] m) (fun m1 => (some (none, m1)))) else (lt_cV (lt_ev d 23 [.inr (.inr (some a0)), .inl ((48 : Int32) + ((x1 / (10 : Int32)) - (x1 / (10 : Int32)) / (10 : Int32) * (10 : Int32)))] m) (fun m2 => (lt_cV (lt_ev d 23 [.inr (.inr (some a0)), .inl ((48 : Int32) + (x1 - x1 / (10 : Int32) * (10 : Int32)))] m2) (fun m3 => (some (none, m3)))))) := by
  show lt_run d Y22 20 [some (.inr (.inr (some a0))), some (.inl x1)] [] m = _
  refine Eq.trans (li_iload_n d22_20 (by rfl)) ?_
  refine Eq.trans (li_bipush d22_21 bi_10) ?_
  refine Eq.trans (li_icmp_lt (t := 40) d22_23 (by rfl)) ?_
  refine lt_ite (fun c1 => ?_) (fun c1 => ?_)
  · refine Eq.trans (li_aload_n d22_40 (by rfl)) ?_
    refine Eq.trans (li_bipush d22_41 bi_48) ?_
    refine Eq.trans (li_iload_n d22_43 (by rfl)) ?_
    refine Eq.trans (li_bipush d22_44 bi_10) ?_
    refine Eq.trans (li_irem d22_46) ?_
    refine Eq.trans (lt_gd_t (by decide)) ?_
    refine Eq.trans (li_iadd d22_47) ?_
    refine Eq.trans (li_ivV d22_48 ca_10_23 kd_23 kl_23 (by rfl) (by rfl) h0 (Nat.le_of_ble_eq_true rfl) (Nat.le_of_ble_eq_true rfl)) ?_
    refine lt_cV_c (fun m1 => ?_)
    exact li_vret d22_51 rfl
  · refine Eq.trans (li_aload_n d22_26 (by rfl)) ?_
    refine Eq.trans (li_bipush d22_27 bi_48) ?_
    refine Eq.trans (li_iload_n d22_29 (by rfl)) ?_
    refine Eq.trans (li_bipush d22_30 bi_10) ?_
    refine Eq.trans (li_idiv d22_32) ?_
    refine Eq.trans (lt_gd_t (by decide)) ?_
    refine Eq.trans (li_bipush d22_33 bi_10) ?_
    refine Eq.trans (li_irem d22_35) ?_
    refine Eq.trans (lt_gd_t (by decide)) ?_
    refine Eq.trans (li_iadd d22_36) ?_
    refine Eq.trans (li_ivV d22_37 ca_10_23 kd_23 kl_23 (by rfl) (by rfl) h0 (Nat.le_of_ble_eq_true rfl) (Nat.le_of_ble_eq_true rfl)) ?_
    refine lt_cV_c (fun m2 => ?_)
    refine Eq.trans (li_aload_n d22_40 (by rfl)) ?_
    refine Eq.trans (li_bipush d22_41 bi_48) ?_
    refine Eq.trans (li_iload_n d22_43 (by rfl)) ?_
    refine Eq.trans (li_bipush d22_44 bi_10) ?_
    refine Eq.trans (li_irem d22_46) ?_
    refine Eq.trans (lt_gd_t (by decide)) ?_
    refine Eq.trans (li_iadd d22_47) ?_
    refine Eq.trans (li_ivV d22_48 ca_10_23 kd_23 kl_23 (by rfl) (by rfl) h0 (Nat.le_of_ble_eq_true rfl) (Nat.le_of_ble_eq_true rfl)) ?_
    refine lt_cV_c (fun m3 => ?_)
    exact li_vret d22_51 rfl
/-! TransitSeals$Text.add(I)V -/
theorem d23_0 : decode Y23.2.1 0 = .ok (.aload_n 0, 1) := by decide +kernel
theorem d23_1 : decode Y23.2.1 1 = .ok (.getfield 15, 3) := by decide +kernel
theorem d23_4 : decode Y23.2.1 4 = .ok (.aload_n 0, 1) := by decide +kernel
theorem d23_5 : decode Y23.2.1 5 = .ok (.getfield 9, 3) := by decide +kernel
theorem d23_8 : decode Y23.2.1 8 = .ok (.arraylength, 1) := by decide +kernel
theorem d23_9 : decode Y23.2.1 9 = .ok (.if_icmp .ge 25, 3) := by decide +kernel
theorem d23_12 : decode Y23.2.1 12 = .ok (.aload_n 0, 1) := by decide +kernel
theorem d23_13 : decode Y23.2.1 13 = .ok (.getfield 9, 3) := by decide +kernel
theorem d23_16 : decode Y23.2.1 16 = .ok (.aload_n 0, 1) := by decide +kernel
theorem d23_17 : decode Y23.2.1 17 = .ok (.getfield 15, 3) := by decide +kernel
theorem d23_20 : decode Y23.2.1 20 = .ok (.iload_n 1, 1) := by decide +kernel
theorem d23_21 : decode Y23.2.1 21 = .ok (.invokestatic 19, 3) := by decide +kernel
theorem d23_24 : decode Y23.2.1 24 = .ok (.aload_n 0, 1) := by decide +kernel
theorem d23_25 : decode Y23.2.1 25 = .ok (.dup, 1) := by decide +kernel
theorem d23_26 : decode Y23.2.1 26 = .ok (.getfield 15, 3) := by decide +kernel
theorem d23_29 : decode Y23.2.1 29 = .ok (.iconst 1, 1) := by decide +kernel
theorem d23_30 : decode Y23.2.1 30 = .ok (.iadd, 1) := by decide +kernel
theorem d23_31 : decode Y23.2.1 31 = .ok (.putfield 15, 3) := by decide +kernel
theorem d23_34 : decode Y23.2.1 34 = .ok (.return_, 1) := by decide +kernel
theorem E23 (d : Nat) (a0 : Nat) (x1 : Int32) (h0 : ts_sh a0 = (0, 10)) (m : lt_m) : lt_ev (d + 1) 23 [.inr (.inr (some a0)), .inl x1] m = if (200 : Int32) ≤ (m.1 a0 1) then (some (none, m)) else (lt_cV (lt_ev d 17 [.inr (.inr (some (a0 + 1))), .inl (m.1 a0 1), .inl x1] m) (fun m1 => (some (none, (lm_i m1 a0 1 ((m1.1 a0 1) + (1 : Int32))))))) := by
  refine Eq.trans (lt_enter2 (ls := [some (.inr (.inr (some a0))), some (.inl x1)]) hY23 (Nat.le_of_ble_eq_true rfl) (by rfl)) ?_
  refine Eq.trans (li_aload_n d23_0 (by rfl)) ?_
  refine Eq.trans (li_geti d23_1 fa_10_15 h0 rfl) ?_
  refine Eq.trans (li_aload_n d23_4 (by rfl)) ?_
  refine Eq.trans (li_getr d23_5 fa_10_9 h0 rfl rfl rfl (by decide)) ?_
  refine Eq.trans (li_alen d23_8 (sf_of h0 0 (by decide) (by decide)) (by decide) (by rfl)) ?_
  refine Eq.trans (li_icmp_ge (t := 34) d23_9 (by rfl)) ?_
  refine lt_ite (fun c1 => ?_) (fun c1 => ?_)
  · exact li_vret d23_34 rfl
  · refine Eq.trans (li_aload_n d23_12 (by rfl)) ?_
    refine Eq.trans (li_getr d23_13 fa_10_9 h0 rfl rfl rfl (by decide)) ?_
    refine Eq.trans (li_aload_n d23_16 (by rfl)) ?_
    refine Eq.trans (li_geti d23_17 fa_10_15 h0 rfl) ?_
    refine Eq.trans (li_iload_n d23_20 (by rfl)) ?_
    refine Eq.trans (li_isV d23_21 bi_10_19 ca_10_19 kd_17 (by rfl) (by rfl) (Nat.le_of_ble_eq_true rfl) (Nat.le_of_ble_eq_true rfl)) ?_
    refine lt_cV_c (fun m1 => ?_)
    refine Eq.trans (li_aload_n d23_24 (by rfl)) ?_
    refine Eq.trans (li_dup d23_25 rfl) ?_
    refine Eq.trans (li_geti d23_26 fa_10_15 h0 rfl) ?_
    refine Eq.trans (li_iconst d23_29 ic_1) ?_
    refine Eq.trans (li_iadd d23_30) ?_
    refine Eq.trans (li_puti d23_31 fa_10_15 h0 rfl rfl) ?_
    exact li_vret d23_34 rfl
/-! TransitSeals$Net.writeRoad(IIZ)V -/
theorem d24_0 : decode Y24.2.1 0 = .ok (.iload_n 3, 1) := by decide +kernel
theorem d24_1 : decode Y24.2.1 1 = .ok (.ifCond .ne 12, 3) := by decide +kernel
theorem d24_4 : decode Y24.2.1 4 = .ok (.aload_n 0, 1) := by decide +kernel
theorem d24_5 : decode Y24.2.1 5 = .ok (.getfield 30, 3) := by decide +kernel
theorem d24_8 : decode Y24.2.1 8 = .ok (.bipush 44, 2) := by decide +kernel
theorem d24_10 : decode Y24.2.1 10 = .ok (.invokevirtual 157, 3) := by decide +kernel
theorem d24_13 : decode Y24.2.1 13 = .ok (.aload_n 0, 1) := by decide +kernel
theorem d24_14 : decode Y24.2.1 14 = .ok (.getfield 30, 3) := by decide +kernel
theorem d24_17 : decode Y24.2.1 17 = .ok (.iload_n 1, 1) := by decide +kernel
theorem d24_18 : decode Y24.2.1 18 = .ok (.invokevirtual 154, 3) := by decide +kernel
theorem d24_21 : decode Y24.2.1 21 = .ok (.aload_n 0, 1) := by decide +kernel
theorem d24_22 : decode Y24.2.1 22 = .ok (.getfield 30, 3) := by decide +kernel
theorem d24_25 : decode Y24.2.1 25 = .ok (.bipush 45, 2) := by decide +kernel
theorem d24_27 : decode Y24.2.1 27 = .ok (.invokevirtual 157, 3) := by decide +kernel
theorem d24_30 : decode Y24.2.1 30 = .ok (.aload_n 0, 1) := by decide +kernel
theorem d24_31 : decode Y24.2.1 31 = .ok (.getfield 30, 3) := by decide +kernel
theorem d24_34 : decode Y24.2.1 34 = .ok (.iload_n 2, 1) := by decide +kernel
theorem d24_35 : decode Y24.2.1 35 = .ok (.invokevirtual 154, 3) := by decide +kernel
theorem d24_38 : decode Y24.2.1 38 = .ok (.aload_n 0, 1) := by decide +kernel
theorem d24_39 : decode Y24.2.1 39 = .ok (.getfield 30, 3) := by decide +kernel
theorem d24_42 : decode Y24.2.1 42 = .ok (.bipush 58, 2) := by decide +kernel
theorem d24_44 : decode Y24.2.1 44 = .ok (.invokevirtual 157, 3) := by decide +kernel
theorem d24_47 : decode Y24.2.1 47 = .ok (.aload_n 0, 1) := by decide +kernel
theorem d24_48 : decode Y24.2.1 48 = .ok (.getfield 30, 3) := by decide +kernel
theorem d24_51 : decode Y24.2.1 51 = .ok (.aload_n 0, 1) := by decide +kernel
theorem d24_52 : decode Y24.2.1 52 = .ok (.iload_n 1, 1) := by decide +kernel
theorem d24_53 : decode Y24.2.1 53 = .ok (.iload_n 2, 1) := by decide +kernel
theorem d24_54 : decode Y24.2.1 54 = .ok (.invokevirtual 131, 3) := by decide +kernel
theorem d24_57 : decode Y24.2.1 57 = .ok (.invokevirtual 154, 3) := by decide +kernel
theorem d24_60 : decode Y24.2.1 60 = .ok (.return_, 1) := by decide +kernel
noncomputable def L24_13 (d : Nat) (a0 : Nat) (x1 : Int32) (x2 : Int32) (x3 : Int32) (m : lt_m) : Option lt_r := lt_run d Y24 13 [some (.inr (.inr (some a0))), some (.inl x1), some (.inl x2), some (.inl x3)] [] m
theorem E24 (d : Nat) (a0 : Nat) (x1 : Int32) (x2 : Int32) (x3 : Int32) (h0 : ts_sh a0 = (0, 5)) (m : lt_m) : lt_ev (d + 1) 24 [.inr (.inr (some a0)), .inl x1, .inl x2, .inl x3] m = if ¬ x3 = 0 then (L24_13 d a0 x1 x2 x3 m) else (lt_cV (lt_ev d 23 [.inr (.inr (some (a0 + 6))), .inl (44 : Int32)] m) (fun m1 => (L24_13 d a0 x1 x2 x3 m1))) := by
  refine Eq.trans (lt_enter2 (ls := [some (.inr (.inr (some a0))), some (.inl x1), some (.inl x2), some (.inl x3)]) hY24 (Nat.le_of_ble_eq_true rfl) (by rfl)) ?_
  refine Eq.trans (li_iload_n d24_0 (by rfl)) ?_
  refine Eq.trans (li_if_ne (t := 13) d24_1 (by rfl)) ?_
  refine lt_ite (fun c1 => ?_) (fun c1 => ?_)
  · rfl
  · refine Eq.trans (li_aload_n d24_4 (by rfl)) ?_
    refine Eq.trans (li_getr d24_5 fa_5_30 h0 rfl rfl rfl (by decide)) ?_
    refine Eq.trans (li_bipush d24_8 bi_44) ?_
    refine Eq.trans (li_ivV d24_10 ca_5_157 kd_23 kl_23 (by rfl) (by rfl) (sf_of h0 5 (by decide) (by decide)) (Nat.le_of_ble_eq_true rfl) (Nat.le_of_ble_eq_true rfl)) ?_
    refine lt_cV_c (fun m1 => ?_)
    rfl
theorem E24_13 (d : Nat) (a0 : Nat) (x1 : Int32) (x2 : Int32) (x3 : Int32) (h0 : ts_sh a0 = (0, 5)) (m : lt_m) : L24_13 d a0 x1 x2 x3 m = lt_cV (lt_ev d 22 [.inr (.inr (some (a0 + 6))), .inl x1] m) (fun m1 => (lt_cV (lt_ev d 23 [.inr (.inr (some (a0 + 6))), .inl (45 : Int32)] m1) (fun m2 => (lt_cV (lt_ev d 22 [.inr (.inr (some (a0 + 6))), .inl x2] m2) (fun m3 => (lt_cV (lt_ev d 23 [.inr (.inr (some (a0 + 6))), .inl (58 : Int32)] m3) (fun m4 => (lt_cI (lt_ev d 13 [.inr (.inr (some a0)), .inl x1, .inl x2] m4) (fun v1 m5 => (lt_cV (lt_ev d 22 [.inr (.inr (some (a0 + 6))), .inl v1] m5) (fun m6 => (some (none, m6))))))))))))) := by
  show lt_run d Y24 13 [some (.inr (.inr (some a0))), some (.inl x1), some (.inl x2), some (.inl x3)] [] m = _
  refine Eq.trans (li_aload_n d24_13 (by rfl)) ?_
  refine Eq.trans (li_getr d24_14 fa_5_30 h0 rfl rfl rfl (by decide)) ?_
  refine Eq.trans (li_iload_n d24_17 (by rfl)) ?_
  refine Eq.trans (li_ivV d24_18 ca_5_154 kd_22 kl_22 (by rfl) (by rfl) (sf_of h0 5 (by decide) (by decide)) (Nat.le_of_ble_eq_true rfl) (Nat.le_of_ble_eq_true rfl)) ?_
  refine lt_cV_c (fun m1 => ?_)
  refine Eq.trans (li_aload_n d24_21 (by rfl)) ?_
  refine Eq.trans (li_getr d24_22 fa_5_30 h0 rfl rfl rfl (by decide)) ?_
  refine Eq.trans (li_bipush d24_25 bi_45) ?_
  refine Eq.trans (li_ivV d24_27 ca_5_157 kd_23 kl_23 (by rfl) (by rfl) (sf_of h0 5 (by decide) (by decide)) (Nat.le_of_ble_eq_true rfl) (Nat.le_of_ble_eq_true rfl)) ?_
  refine lt_cV_c (fun m2 => ?_)
  refine Eq.trans (li_aload_n d24_30 (by rfl)) ?_
  refine Eq.trans (li_getr d24_31 fa_5_30 h0 rfl rfl rfl (by decide)) ?_
  refine Eq.trans (li_iload_n d24_34 (by rfl)) ?_
  refine Eq.trans (li_ivV d24_35 ca_5_154 kd_22 kl_22 (by rfl) (by rfl) (sf_of h0 5 (by decide) (by decide)) (Nat.le_of_ble_eq_true rfl) (Nat.le_of_ble_eq_true rfl)) ?_
  refine lt_cV_c (fun m3 => ?_)
  refine Eq.trans (li_aload_n d24_38 (by rfl)) ?_
  refine Eq.trans (li_getr d24_39 fa_5_30 h0 rfl rfl rfl (by decide)) ?_
  refine Eq.trans (li_bipush d24_42 bi_58) ?_
  refine Eq.trans (li_ivV d24_44 ca_5_157 kd_23 kl_23 (by rfl) (by rfl) (sf_of h0 5 (by decide) (by decide)) (Nat.le_of_ble_eq_true rfl) (Nat.le_of_ble_eq_true rfl)) ?_
  refine lt_cV_c (fun m4 => ?_)
  refine Eq.trans (li_aload_n d24_47 (by rfl)) ?_
  refine Eq.trans (li_getr d24_48 fa_5_30 h0 rfl rfl rfl (by decide)) ?_
  refine Eq.trans (li_aload_n d24_51 (by rfl)) ?_
  refine Eq.trans (li_iload_n d24_52 (by rfl)) ?_
  refine Eq.trans (li_iload_n d24_53 (by rfl)) ?_
  refine Eq.trans (li_ivI d24_54 ca_5_131 kd_13 kl_13 (by rfl) (by rfl) h0 (Nat.le_of_ble_eq_true rfl) (Nat.le_of_ble_eq_true rfl)) ?_
  refine lt_cI_c (fun v1 m5 => ?_)
  refine Eq.trans (li_ivV d24_57 ca_5_154 kd_22 kl_22 (by rfl) (by rfl) (sf_of h0 5 (by decide) (by decide)) (Nat.le_of_ble_eq_true rfl) (Nat.le_of_ble_eq_true rfl)) ?_
  refine lt_cV_c (fun m6 => ?_)
  exact li_vret d24_60 rfl
/-! TransitSeals$Net.dutyOf(I)I -/
theorem d25_0 : decode Y25.2.1 0 = .ok (.aload_n 0, 1) := by decide +kernel
theorem d25_1 : decode Y25.2.1 1 = .ok (.getfield 15, 3) := by decide +kernel
theorem d25_4 : decode Y25.2.1 4 = .ok (.iload_n 1, 1) := by decide +kernel
theorem d25_5 : decode Y25.2.1 5 = .ok (.invokestatic 47, 3) := by decide +kernel
theorem d25_8 : decode Y25.2.1 8 = .ok (.ireturn, 1) := by decide +kernel
theorem E25 (d : Nat) (a0 : Nat) (x1 : Int32) (h0 : ts_sh a0 = (0, 5)) (m : lt_m) : lt_ev (d + 1) 25 [.inr (.inr (some a0)), .inl x1] m = lt_cI (lt_ev d 16 [.inr (.inr (some (a0 + 2))), .inl x1] m) (fun v1 m1 => (some (some (.inl v1), m1))) := by
  refine Eq.trans (lt_enter2 (ls := [some (.inr (.inr (some a0))), some (.inl x1)]) hY25 (Nat.le_of_ble_eq_true rfl) (by rfl)) ?_
  refine Eq.trans (li_aload_n d25_0 (by rfl)) ?_
  refine Eq.trans (li_getr d25_1 fa_5_15 h0 rfl rfl rfl (by decide)) ?_
  refine Eq.trans (li_iload_n d25_4 (by rfl)) ?_
  refine Eq.trans (li_isI d25_5 bi_5_47 ca_5_47 kd_16 (by rfl) (by rfl) (Nat.le_of_ble_eq_true rfl) (Nat.le_of_ble_eq_true rfl)) ?_
  refine lt_cI_c (fun v1 m1 => ?_)
  exact li_iret d25_8 rfl
/-! TransitSeals.sign(I)I -/
theorem d26_0 : decode Y26.2.1 0 = .ok (.aload_n 0, 1) := by decide +kernel
theorem d26_1 : decode Y26.2.1 1 = .ok (.getfield 10, 3) := by decide +kernel
theorem d26_4 : decode Y26.2.1 4 = .ok (.getfield 68, 3) := by decide +kernel
theorem d26_7 : decode Y26.2.1 7 = .ok (.astore_n 2, 1) := by decide +kernel
theorem d26_8 : decode Y26.2.1 8 = .ok (.aload_n 2, 1) := by decide +kernel
theorem d26_9 : decode Y26.2.1 9 = .ok (.invokevirtual 72, 3) := by decide +kernel
theorem d26_12 : decode Y26.2.1 12 = .ok (.iconst 4, 1) := by decide +kernel
theorem d26_13 : decode Y26.2.1 13 = .ok (.iadd, 1) := by decide +kernel
theorem d26_14 : decode Y26.2.1 14 = .ok (.sipush 200, 3) := by decide +kernel
theorem d26_17 : decode Y26.2.1 17 = .ok (.if_icmp .le 5, 3) := by decide +kernel
theorem d26_20 : decode Y26.2.1 20 = .ok (.iconst (-1), 1) := by decide +kernel
theorem d26_21 : decode Y26.2.1 21 = .ok (.ireturn, 1) := by decide +kernel
theorem d26_22 : decode Y26.2.1 22 = .ok (.bipush 24, 2) := by decide +kernel
theorem d26_24 : decode Y26.2.1 24 = .ok (.istore_n 3, 1) := by decide +kernel
theorem d26_25 : decode Y26.2.1 25 = .ok (.iload_n 3, 1) := by decide +kernel
theorem d26_26 : decode Y26.2.1 26 = .ok (.ifCond .lt 20, 3) := by decide +kernel
theorem d26_29 : decode Y26.2.1 29 = .ok (.aload_n 2, 1) := by decide +kernel
theorem d26_30 : decode Y26.2.1 30 = .ok (.iload_n 1, 1) := by decide +kernel
theorem d26_31 : decode Y26.2.1 31 = .ok (.iload_n 3, 1) := by decide +kernel
theorem d26_32 : decode Y26.2.1 32 = .ok (.ishr, 1) := by decide +kernel
theorem d26_33 : decode Y26.2.1 33 = .ok (.sipush 255, 3) := by decide +kernel
theorem d26_36 : decode Y26.2.1 36 = .ok (.iand, 1) := by decide +kernel
theorem d26_37 : decode Y26.2.1 37 = .ok (.invokevirtual 78, 3) := by decide +kernel
theorem d26_40 : decode Y26.2.1 40 = .ok (.iinc 3 (-8), 3) := by decide +kernel
theorem d26_43 : decode Y26.2.1 43 = .ok (.goto (-18), 3) := by decide +kernel
theorem d26_46 : decode Y26.2.1 46 = .ok (.aload_n 2, 1) := by decide +kernel
theorem d26_47 : decode Y26.2.1 47 = .ok (.invokevirtual 72, 3) := by decide +kernel
theorem d26_50 : decode Y26.2.1 50 = .ok (.ireturn, 1) := by decide +kernel
noncomputable def L26_25 (d : Nat) (a0 : Nat) (x1 : Int32) (x3 : Int32) (m : lt_m) : Option lt_r := lt_run d Y26 25 [some (.inr (.inr (some a0))), some (.inl x1), some (.inr (.inr (some ((a0 + 1) + 1)))), some (.inl x3)] [] m
theorem E26 (d : Nat) (a0 : Nat) (x1 : Int32) (h0 : ts_sh a0 = (0, 11)) (m : lt_m) : lt_ev (d + 1) 26 [.inr (.inr (some a0)), .inl x1] m = lt_cI (lt_ev d 27 [.inr (.inr (some ((a0 + 1) + 1)))] m) (fun v1 m1 => (if (v1 + (4 : Int32)) ≤ (200 : Int32) then (L26_25 d a0 x1 (24 : Int32) m1) else (some (some (.inl (-1 : Int32)), m1)))) := by
  refine Eq.trans (lt_enter2 (ls := [some (.inr (.inr (some a0))), some (.inl x1), none, none]) hY26 (Nat.le_of_ble_eq_true rfl) (by rfl)) ?_
  refine Eq.trans (li_aload_n d26_0 (by rfl)) ?_
  refine Eq.trans (li_getr d26_1 fa_11_10 h0 rfl rfl rfl (by decide)) ?_
  refine Eq.trans (li_getr d26_4 fa_11_68 (sf_of h0 0 (by decide) (by decide)) rfl rfl rfl (by decide)) ?_
  refine Eq.trans (li_astore_n (ls' := [some (.inr (.inr (some a0))), some (.inl x1), some (.inr (.inr (some ((a0 + 1) + 1)))), none]) d26_7 (by decide) (by rfl)) ?_
  refine Eq.trans (li_aload_n d26_8 (by rfl)) ?_
  refine Eq.trans (li_ivI d26_9 ca_11_72 kd_27 kl_27 (by rfl) (by rfl) (sf_of (sf_of h0 0 (by decide) (by decide)) 0 (by decide) (by decide)) (Nat.le_of_ble_eq_true rfl) (Nat.le_of_ble_eq_true rfl)) ?_
  refine lt_cI_c (fun v1 m1 => ?_)
  refine Eq.trans (li_iconst d26_12 ic_4) ?_
  refine Eq.trans (li_iadd d26_13) ?_
  refine Eq.trans (li_sipush d26_14 si_200) ?_
  refine Eq.trans (li_icmp_le (t := 22) d26_17 (by rfl)) ?_
  refine lt_ite (fun c1 => ?_) (fun c1 => ?_)
  · refine Eq.trans (li_bipush d26_22 bi_24) ?_
    refine Eq.trans (li_istore_n (ls' := [some (.inr (.inr (some a0))), some (.inl x1), some (.inr (.inr (some ((a0 + 1) + 1)))), some (.inl (24 : Int32))]) d26_24 (by decide) (by rfl)) ?_
    rfl
  · refine Eq.trans (li_iconst d26_20 ic_n1) ?_
    exact li_iret d26_21 rfl
theorem E26_25 (d : Nat) (a0 : Nat) (x1 : Int32) (x3 : Int32) (h0 : ts_sh a0 = (0, 11)) (m : lt_m) : L26_25 d a0 x1 x3 m = if x3 < 0 then (lt_cI (lt_ev d 27 [.inr (.inr (some ((a0 + 1) + 1)))] m) (fun v1 m1 => (some (some (.inl v1), m1)))) else (lt_cV (lt_ev d 23 [.inr (.inr (some ((a0 + 1) + 1))), .inl ((x1 >>> (x3 &&& 31)) &&& (255 : Int32))] m) (fun m2 => (L26_25 d a0 x1 (x3 + (-8 : Int32)) m2))) := by
  show lt_run d Y26 25 [some (.inr (.inr (some a0))), some (.inl x1), some (.inr (.inr (some ((a0 + 1) + 1)))), some (.inl x3)] [] m = _
  refine Eq.trans (li_iload_n d26_25 (by rfl)) ?_
  refine Eq.trans (li_if_lt (t := 46) d26_26 (by rfl)) ?_
  refine lt_ite (fun c1 => ?_) (fun c1 => ?_)
  · refine Eq.trans (li_aload_n d26_46 (by rfl)) ?_
    refine Eq.trans (li_ivI d26_47 ca_11_72 kd_27 kl_27 (by rfl) (by rfl) (sf_of (sf_of h0 0 (by decide) (by decide)) 0 (by decide) (by decide)) (Nat.le_of_ble_eq_true rfl) (Nat.le_of_ble_eq_true rfl)) ?_
    refine lt_cI_c (fun v1 m1 => ?_)
    exact li_iret d26_50 rfl
  · refine Eq.trans (li_aload_n d26_29 (by rfl)) ?_
    refine Eq.trans (li_iload_n d26_30 (by rfl)) ?_
    refine Eq.trans (li_iload_n d26_31 (by rfl)) ?_
    refine Eq.trans (li_ishr d26_32) ?_
    refine Eq.trans (li_sipush d26_33 si_255) ?_
    refine Eq.trans (li_iand d26_36) ?_
    refine Eq.trans (li_ivV d26_37 ca_11_78 kd_23 kl_23 (by rfl) (by rfl) (sf_of (sf_of h0 0 (by decide) (by decide)) 0 (by decide) (by decide)) (Nat.le_of_ble_eq_true rfl) (Nat.le_of_ble_eq_true rfl)) ?_
    refine lt_cV_c (fun m2 => ?_)
    refine Eq.trans (li_iinc (ls' := [some (.inr (.inr (some a0))), some (.inl x1), some (.inr (.inr (some ((a0 + 1) + 1)))), some (.inl (x3 + (-8 : Int32)))]) d26_40 (by rfl) (by decide) ic_n8 (by rfl)) ?_
    refine Eq.trans (li_goto (t := 25) d26_43 (by rfl)) ?_
    rfl
/-! TransitSeals$Text.size()I -/
theorem d27_0 : decode Y27.2.1 0 = .ok (.aload_n 0, 1) := by decide +kernel
theorem d27_1 : decode Y27.2.1 1 = .ok (.getfield 15, 3) := by decide +kernel
theorem d27_4 : decode Y27.2.1 4 = .ok (.ireturn, 1) := by decide +kernel
theorem E27 (d : Nat) (a0 : Nat) (h0 : ts_sh a0 = (0, 10)) (m : lt_m) : lt_ev (d + 1) 27 [.inr (.inr (some a0))] m = some (some (.inl (m.1 a0 1)), m) := by
  refine Eq.trans (lt_enter2 (ls := [some (.inr (.inr (some a0)))]) hY27 (Nat.le_of_ble_eq_true rfl) (by rfl)) ?_
  refine Eq.trans (li_aload_n d27_0 (by rfl)) ?_
  refine Eq.trans (li_geti d27_1 fa_10_15 h0 rfl) ?_
  exact li_iret d27_4 rfl
/-! TransitSeals.end(I)Z -/
theorem d28_0 : decode Y28.2.1 0 = .ok (.iload_n 1, 1) := by decide +kernel
theorem d28_1 : decode Y28.2.1 1 = .ok (.ifCond .lt 17, 3) := by decide +kernel
theorem d28_4 : decode Y28.2.1 4 = .ok (.iload_n 1, 1) := by decide +kernel
theorem d28_5 : decode Y28.2.1 5 = .ok (.aload_n 0, 1) := by decide +kernel
theorem d28_6 : decode Y28.2.1 6 = .ok (.getfield 10, 3) := by decide +kernel
theorem d28_9 : decode Y28.2.1 9 = .ok (.getfield 68, 3) := by decide +kernel
theorem d28_12 : decode Y28.2.1 12 = .ok (.invokevirtual 72, 3) := by decide +kernel
theorem d28_15 : decode Y28.2.1 15 = .ok (.if_icmp .le 5, 3) := by decide +kernel
theorem d28_18 : decode Y28.2.1 18 = .ok (.iconst 0, 1) := by decide +kernel
theorem d28_19 : decode Y28.2.1 19 = .ok (.ireturn, 1) := by decide +kernel
theorem d28_20 : decode Y28.2.1 20 = .ok (.aload_n 0, 1) := by decide +kernel
theorem d28_21 : decode Y28.2.1 21 = .ok (.getfield 10, 3) := by decide +kernel
theorem d28_24 : decode Y28.2.1 24 = .ok (.getfield 68, 3) := by decide +kernel
theorem d28_27 : decode Y28.2.1 27 = .ok (.iload_n 1, 1) := by decide +kernel
theorem d28_28 : decode Y28.2.1 28 = .ok (.invokevirtual 82, 3) := by decide +kernel
theorem d28_31 : decode Y28.2.1 31 = .ok (.iconst 1, 1) := by decide +kernel
theorem d28_32 : decode Y28.2.1 32 = .ok (.ireturn, 1) := by decide +kernel
theorem E28 (d : Nat) (a0 : Nat) (x1 : Int32) (h0 : ts_sh a0 = (0, 11)) (m : lt_m) : lt_ev (d + 1) 28 [.inr (.inr (some a0)), .inl x1] m = if x1 < 0 then (some (some (.inl (0 : Int32)), m)) else (lt_cI (lt_ev d 27 [.inr (.inr (some ((a0 + 1) + 1)))] m) (fun v1 m1 => (if x1 ≤ v1 then (lt_cV (lt_ev d 20 [.inr (.inr (some ((a0 + 1) + 1))), .inl x1] m1) (fun m2 => (some (some (.inl (1 : Int32)), m2)))) else (some (some (.inl (0 : Int32)), m1))))) := by
  refine Eq.trans (lt_enter2 (ls := [some (.inr (.inr (some a0))), some (.inl x1)]) hY28 (Nat.le_of_ble_eq_true rfl) (by rfl)) ?_
  refine Eq.trans (li_iload_n d28_0 (by rfl)) ?_
  refine Eq.trans (li_if_lt (t := 18) d28_1 (by rfl)) ?_
  refine lt_ite (fun c1 => ?_) (fun c1 => ?_)
  · refine Eq.trans (li_iconst d28_18 ic_0) ?_
    exact li_zret d28_19 rfl (by decide)
  · refine Eq.trans (li_iload_n d28_4 (by rfl)) ?_
    refine Eq.trans (li_aload_n d28_5 (by rfl)) ?_
    refine Eq.trans (li_getr d28_6 fa_11_10 h0 rfl rfl rfl (by decide)) ?_
    refine Eq.trans (li_getr d28_9 fa_11_68 (sf_of h0 0 (by decide) (by decide)) rfl rfl rfl (by decide)) ?_
    refine Eq.trans (li_ivI d28_12 ca_11_72 kd_27 kl_27 (by rfl) (by rfl) (sf_of (sf_of h0 0 (by decide) (by decide)) 0 (by decide) (by decide)) (Nat.le_of_ble_eq_true rfl) (Nat.le_of_ble_eq_true rfl)) ?_
    refine lt_cI_c (fun v1 m1 => ?_)
    refine Eq.trans (li_icmp_le (t := 20) d28_15 (by rfl)) ?_
    refine lt_ite (fun c2 => ?_) (fun c2 => ?_)
    · refine Eq.trans (li_aload_n d28_20 (by rfl)) ?_
      refine Eq.trans (li_getr d28_21 fa_11_10 h0 rfl rfl rfl (by decide)) ?_
      refine Eq.trans (li_getr d28_24 fa_11_68 (sf_of h0 0 (by decide) (by decide)) rfl rfl rfl (by decide)) ?_
      refine Eq.trans (li_iload_n d28_27 (by rfl)) ?_
      refine Eq.trans (li_ivV d28_28 ca_11_82 kd_20 kl_20 (by rfl) (by rfl) (sf_of (sf_of h0 0 (by decide) (by decide)) 0 (by decide) (by decide)) (Nat.le_of_ble_eq_true rfl) (Nat.le_of_ble_eq_true rfl)) ?_
      refine lt_cV_c (fun m2 => ?_)
      refine Eq.trans (li_iconst d28_31 ic_1) ?_
      exact li_zret d28_32 rfl (by decide)
    · refine Eq.trans (li_iconst d28_18 ic_0) ?_
      exact li_zret d28_19 rfl (by decide)
/-! TransitSeals.net()I -/
theorem d29_0 : decode Y29.2.1 0 = .ok (.aload_n 0, 1) := by decide +kernel
theorem d29_1 : decode Y29.2.1 1 = .ok (.getfield 65, 3) := by decide +kernel
theorem d29_4 : decode Y29.2.1 4 = .ok (.aload_n 0, 1) := by decide +kernel
theorem d29_5 : decode Y29.2.1 5 = .ok (.getfield 10, 3) := by decide +kernel
theorem d29_8 : decode Y29.2.1 8 = .ok (.invokevirtual 85, 3) := by decide +kernel
theorem d29_11 : decode Y29.2.1 11 = .ok (.aload_n 0, 1) := by decide +kernel
theorem d29_12 : decode Y29.2.1 12 = .ok (.getfield 10, 3) := by decide +kernel
theorem d29_15 : decode Y29.2.1 15 = .ok (.invokevirtual 89, 3) := by decide +kernel
theorem d29_18 : decode Y29.2.1 18 = .ok (.ifCond .eq 11, 3) := by decide +kernel
theorem d29_21 : decode Y29.2.1 21 = .ok (.aload_n 0, 1) := by decide +kernel
theorem d29_22 : decode Y29.2.1 22 = .ok (.getfield 10, 3) := by decide +kernel
theorem d29_25 : decode Y29.2.1 25 = .ok (.invokevirtual 93, 3) := by decide +kernel
theorem d29_28 : decode Y29.2.1 28 = .ok (.ireturn, 1) := by decide +kernel
theorem d29_29 : decode Y29.2.1 29 = .ok (.aload_n 0, 1) := by decide +kernel
theorem d29_30 : decode Y29.2.1 30 = .ok (.getfield 65, 3) := by decide +kernel
theorem d29_33 : decode Y29.2.1 33 = .ok (.astore_n 1, 1) := by decide +kernel
theorem d29_34 : decode Y29.2.1 34 = .ok (.aload_n 0, 1) := by decide +kernel
theorem d29_35 : decode Y29.2.1 35 = .ok (.aload_n 0, 1) := by decide +kernel
theorem d29_36 : decode Y29.2.1 36 = .ok (.getfield 61, 3) := by decide +kernel
theorem d29_39 : decode Y29.2.1 39 = .ok (.putfield 65, 3) := by decide +kernel
theorem d29_42 : decode Y29.2.1 42 = .ok (.aload_n 0, 1) := by decide +kernel
theorem d29_43 : decode Y29.2.1 43 = .ok (.aload_n 1, 1) := by decide +kernel
theorem d29_44 : decode Y29.2.1 44 = .ok (.putfield 61, 3) := by decide +kernel
theorem d29_47 : decode Y29.2.1 47 = .ok (.aload_n 0, 1) := by decide +kernel
theorem d29_48 : decode Y29.2.1 48 = .ok (.getfield 47, 3) := by decide +kernel
theorem d29_51 : decode Y29.2.1 51 = .ok (.invokevirtual 96, 3) := by decide +kernel
theorem d29_54 : decode Y29.2.1 54 = .ok (.aload_n 0, 1) := by decide +kernel
theorem d29_55 : decode Y29.2.1 55 = .ok (.getfield 54, 3) := by decide +kernel
theorem d29_58 : decode Y29.2.1 58 = .ok (.invokevirtual 99, 3) := by decide +kernel
theorem d29_61 : decode Y29.2.1 61 = .ok (.aload_n 0, 1) := by decide +kernel
theorem d29_62 : decode Y29.2.1 62 = .ok (.getfield 19, 3) := by decide +kernel
theorem d29_65 : decode Y29.2.1 65 = .ok (.invokevirtual 100, 3) := by decide +kernel
theorem d29_68 : decode Y29.2.1 68 = .ok (.aload_n 0, 1) := by decide +kernel
theorem d29_69 : decode Y29.2.1 69 = .ok (.getfield 61, 3) := by decide +kernel
theorem d29_72 : decode Y29.2.1 72 = .ok (.getfield 101, 3) := by decide +kernel
theorem d29_75 : decode Y29.2.1 75 = .ok (.ireturn, 1) := by decide +kernel
theorem E29 (d : Nat) (a0 : Nat) (h0 : ts_sh a0 = (0, 11)) (m : lt_m) : lt_ev (d + 1) 29 [.inr (.inr (some a0))] m = lt_gd (ts_sh (m.2.2.2.1) = (0, 5)) (lt_cV (lt_ev d 30 [.inr (.inr (some (m.2.2.2.1))), .inr (.inr (some (a0 + 1)))] m) (fun m1 => (lt_cI (lt_ev d 38 [.inr (.inr (some (a0 + 1)))] m1) (fun v1 m2 => (if v1 = 0 then (lt_cV (lt_ev d 53 [.inr (.inr (some (a0 + 13)))] (lm_net (lm_draft m2 (m2.2.2.1)) (m2.2.2.2.1))) (fun m3 => (lt_cV (lt_ev d 55 [.inr (.inr (some (a0 + 81)))] m3) (fun m4 => (lt_cV (lt_ev d 56 [.inr (.inr (some (a0 + 4)))] m4) (fun m5 => (lt_gd (ts_sh (m5.2.2.1) = (0, 5)) (some (some (.inl (m5.1 (m5.2.2.1) 6)), m5))))))))) else (lt_cI (lt_ev d 52 [.inr (.inr (some (a0 + 1)))] m2) (fun v2 m6 => (some (some (.inl v2), m6))))))))) := by
  refine Eq.trans (lt_enter2 (ls := [some (.inr (.inr (some a0))), none]) hY29 (Nat.le_of_ble_eq_true rfl) (by rfl)) ?_
  refine Eq.trans (li_aload_n d29_0 (by rfl)) ?_
  refine Eq.trans (li_getdraft d29_1 fa_11_65 h0) ?_
  refine Eq.trans (li_aload_n d29_4 (by rfl)) ?_
  refine Eq.trans (li_getr d29_5 fa_11_10 h0 rfl rfl rfl (by decide)) ?_
  refine Eq.trans (li_ginv d29_8 ca_11_85 kl_30 (by rfl)) ?_
  refine lt_gd_c (fun g1 => ?_)
  refine Eq.trans (li_ivV d29_8 ca_11_85 kd_30 kl_30 (by rfl) (by rfl) g1 (Nat.le_of_ble_eq_true rfl) (Nat.le_of_ble_eq_true rfl)) ?_
  refine lt_cV_c (fun m1 => ?_)
  refine Eq.trans (li_aload_n d29_11 (by rfl)) ?_
  refine Eq.trans (li_getr d29_12 fa_11_10 h0 rfl rfl rfl (by decide)) ?_
  refine Eq.trans (li_ivI d29_15 ca_11_89 kd_38 kl_38 (by rfl) (by rfl) (sf_of h0 0 (by decide) (by decide)) (Nat.le_of_ble_eq_true rfl) (Nat.le_of_ble_eq_true rfl)) ?_
  refine lt_cI_c (fun v1 m2 => ?_)
  refine Eq.trans (li_if_eq (t := 29) d29_18 (by rfl)) ?_
  refine lt_ite (fun c1 => ?_) (fun c1 => ?_)
  · refine Eq.trans (li_aload_n d29_29 (by rfl)) ?_
    refine Eq.trans (li_getdraft d29_30 fa_11_65 h0) ?_
    refine Eq.trans (li_astore_n (ls' := [some (.inr (.inr (some a0))), some (.inr (.inr (some (m2.2.2.2.1))))]) d29_33 (by decide) (by rfl)) ?_
    refine Eq.trans (li_aload_n d29_34 (by rfl)) ?_
    refine Eq.trans (li_aload_n d29_35 (by rfl)) ?_
    refine Eq.trans (li_getnet d29_36 fa_11_61 h0) ?_
    refine Eq.trans (li_putdraft d29_39 fa_11_65 h0) ?_
    refine Eq.trans (li_aload_n d29_42 (by rfl)) ?_
    refine Eq.trans (li_aload_n d29_43 (by rfl)) ?_
    refine Eq.trans (li_putnet d29_44 fa_11_61 h0) ?_
    refine Eq.trans (li_aload_n d29_47 (by rfl)) ?_
    refine Eq.trans (li_getr d29_48 fa_11_47 h0 rfl rfl rfl (by decide)) ?_
    refine Eq.trans (li_ivV d29_51 ca_11_96 kd_53 kl_53 (by rfl) (by rfl) (sf_of h0 5 (by decide) (by decide)) (Nat.le_of_ble_eq_true rfl) (Nat.le_of_ble_eq_true rfl)) ?_
    refine lt_cV_c (fun m3 => ?_)
    refine Eq.trans (li_aload_n d29_54 (by rfl)) ?_
    refine Eq.trans (li_getr d29_55 fa_11_54 h0 rfl rfl rfl (by decide)) ?_
    refine Eq.trans (li_ivV d29_58 ca_11_99 kd_55 kl_55 (by rfl) (by rfl) (sf_of h0 6 (by decide) (by decide)) (Nat.le_of_ble_eq_true rfl) (Nat.le_of_ble_eq_true rfl)) ?_
    refine lt_cV_c (fun m4 => ?_)
    refine Eq.trans (li_aload_n d29_61 (by rfl)) ?_
    refine Eq.trans (li_getr d29_62 fa_11_19 h0 rfl rfl rfl (by decide)) ?_
    refine Eq.trans (li_ivV d29_65 ca_11_100 kd_56 kl_56 (by rfl) (by rfl) (sf_of h0 1 (by decide) (by decide)) (Nat.le_of_ble_eq_true rfl) (Nat.le_of_ble_eq_true rfl)) ?_
    refine lt_cV_c (fun m5 => ?_)
    refine Eq.trans (li_aload_n d29_68 (by rfl)) ?_
    refine Eq.trans (li_getnet d29_69 fa_11_61 h0) ?_
    refine Eq.trans (li_gget d29_72 fa_11_101) ?_
    refine lt_gd_c (fun g2 => ?_)
    refine Eq.trans (li_geti d29_72 fa_11_101 g2 rfl) ?_
    exact li_iret d29_75 rfl
  · refine Eq.trans (li_aload_n d29_21 (by rfl)) ?_
    refine Eq.trans (li_getr d29_22 fa_11_10 h0 rfl rfl rfl (by decide)) ?_
    refine Eq.trans (li_ivI d29_25 ca_11_93 kd_52 kl_52 (by rfl) (by rfl) (sf_of h0 0 (by decide) (by decide)) (Nat.le_of_ble_eq_true rfl) (Nat.le_of_ble_eq_true rfl)) ?_
    refine lt_cI_c (fun v2 m6 => ?_)
    exact li_iret d29_28 rfl
/-! TransitSeals$Net.readFrom(LTransitSeals$Reader;)V -/
theorem d30_0 : decode Y30.2.1 0 = .ok (.aload_n 1, 1) := by decide +kernel
theorem d30_1 : decode Y30.2.1 1 = .ok (.invokevirtual 68, 3) := by decide +kernel
theorem d30_4 : decode Y30.2.1 4 = .ok (.aload_n 0, 1) := by decide +kernel
theorem d30_5 : decode Y30.2.1 5 = .ok (.invokevirtual 73, 3) := by decide +kernel
theorem d30_8 : decode Y30.2.1 8 = .ok (.aload_n 0, 1) := by decide +kernel
theorem d30_9 : decode Y30.2.1 9 = .ok (.aload_n 1, 1) := by decide +kernel
theorem d30_10 : decode Y30.2.1 10 = .ok (.invokevirtual 76, 3) := by decide +kernel
theorem d30_13 : decode Y30.2.1 13 = .ok (.aload_n 0, 1) := by decide +kernel
theorem d30_14 : decode Y30.2.1 14 = .ok (.aload_n 1, 1) := by decide +kernel
theorem d30_15 : decode Y30.2.1 15 = .ok (.invokevirtual 80, 3) := by decide +kernel
theorem d30_18 : decode Y30.2.1 18 = .ok (.aload_n 0, 1) := by decide +kernel
theorem d30_19 : decode Y30.2.1 19 = .ok (.aload_n 1, 1) := by decide +kernel
theorem d30_20 : decode Y30.2.1 20 = .ok (.invokevirtual 83, 3) := by decide +kernel
theorem d30_23 : decode Y30.2.1 23 = .ok (.aload_n 1, 1) := by decide +kernel
theorem d30_24 : decode Y30.2.1 24 = .ok (.invokevirtual 86, 3) := by decide +kernel
theorem d30_27 : decode Y30.2.1 27 = .ok (.aload_n 1, 1) := by decide +kernel
theorem d30_28 : decode Y30.2.1 28 = .ok (.invokevirtual 89, 3) := by decide +kernel
theorem d30_31 : decode Y30.2.1 31 = .ok (.ifCond .ne 11, 3) := by decide +kernel
theorem d30_34 : decode Y30.2.1 34 = .ok (.aload_n 0, 1) := by decide +kernel
theorem d30_35 : decode Y30.2.1 35 = .ok (.invokevirtual 38, 3) := by decide +kernel
theorem d30_38 : decode Y30.2.1 38 = .ok (.aload_n 0, 1) := by decide +kernel
theorem d30_39 : decode Y30.2.1 39 = .ok (.invokevirtual 41, 3) := by decide +kernel
theorem d30_42 : decode Y30.2.1 42 = .ok (.return_, 1) := by decide +kernel
theorem E30 (d : Nat) (a0 : Nat) (a1 : Nat) (h0 : ts_sh a0 = (0, 5)) (h1 : ts_sh a1 = (0, 6)) (m : lt_m) : lt_ev (d + 1) 30 [.inr (.inr (some a0)), .inr (.inr (some a1))] m = lt_cV (lt_ev d 31 [.inr (.inr (some a1))] m) (fun m1 => (lt_cV (lt_ev d 32 [.inr (.inr (some a0))] m1) (fun m2 => (lt_cV (lt_ev d 34 [.inr (.inr (some a0)), .inr (.inr (some a1))] m2) (fun m3 => (lt_cV (lt_ev d 44 [.inr (.inr (some a0)), .inr (.inr (some a1))] m3) (fun m4 => (lt_cV (lt_ev d 50 [.inr (.inr (some a0)), .inr (.inr (some a1))] m4) (fun m5 => (lt_cV (lt_ev d 51 [.inr (.inr (some a1))] m5) (fun m6 => (lt_cI (lt_ev d 38 [.inr (.inr (some a1))] m6) (fun v1 m7 => (if ¬ v1 = 0 then (some (none, m7)) else (lt_cV (lt_ev d 12 [.inr (.inr (some a0))] m7) (fun m8 => (lt_cV (lt_ev d 19 [.inr (.inr (some a0))] m8) (fun m9 => (some (none, m9)))))))))))))))))))) := by
  refine Eq.trans (lt_enter2 (ls := [some (.inr (.inr (some a0))), some (.inr (.inr (some a1)))]) hY30 (Nat.le_of_ble_eq_true rfl) (by rfl)) ?_
  refine Eq.trans (li_aload_n d30_0 (by rfl)) ?_
  refine Eq.trans (li_ivV d30_1 ca_5_68 kd_31 kl_31 (by rfl) (by rfl) h1 (Nat.le_of_ble_eq_true rfl) (Nat.le_of_ble_eq_true rfl)) ?_
  refine lt_cV_c (fun m1 => ?_)
  refine Eq.trans (li_aload_n d30_4 (by rfl)) ?_
  refine Eq.trans (li_ivV d30_5 ca_5_73 kd_32 kl_32 (by rfl) (by rfl) h0 (Nat.le_of_ble_eq_true rfl) (Nat.le_of_ble_eq_true rfl)) ?_
  refine lt_cV_c (fun m2 => ?_)
  refine Eq.trans (li_aload_n d30_8 (by rfl)) ?_
  refine Eq.trans (li_aload_n d30_9 (by rfl)) ?_
  refine Eq.trans (li_ivV d30_10 ca_5_76 kd_34 kl_34 (by rfl) (by rfl) h0 (Nat.le_of_ble_eq_true rfl) (Nat.le_of_ble_eq_true rfl)) ?_
  refine lt_cV_c (fun m3 => ?_)
  refine Eq.trans (li_aload_n d30_13 (by rfl)) ?_
  refine Eq.trans (li_aload_n d30_14 (by rfl)) ?_
  refine Eq.trans (li_ivV d30_15 ca_5_80 kd_44 kl_44 (by rfl) (by rfl) h0 (Nat.le_of_ble_eq_true rfl) (Nat.le_of_ble_eq_true rfl)) ?_
  refine lt_cV_c (fun m4 => ?_)
  refine Eq.trans (li_aload_n d30_18 (by rfl)) ?_
  refine Eq.trans (li_aload_n d30_19 (by rfl)) ?_
  refine Eq.trans (li_ivV d30_20 ca_5_83 kd_50 kl_50 (by rfl) (by rfl) h0 (Nat.le_of_ble_eq_true rfl) (Nat.le_of_ble_eq_true rfl)) ?_
  refine lt_cV_c (fun m5 => ?_)
  refine Eq.trans (li_aload_n d30_23 (by rfl)) ?_
  refine Eq.trans (li_ivV d30_24 ca_5_86 kd_51 kl_51 (by rfl) (by rfl) h1 (Nat.le_of_ble_eq_true rfl) (Nat.le_of_ble_eq_true rfl)) ?_
  refine lt_cV_c (fun m6 => ?_)
  refine Eq.trans (li_aload_n d30_27 (by rfl)) ?_
  refine Eq.trans (li_ivI d30_28 ca_5_89 kd_38 kl_38 (by rfl) (by rfl) h1 (Nat.le_of_ble_eq_true rfl) (Nat.le_of_ble_eq_true rfl)) ?_
  refine lt_cI_c (fun v1 m7 => ?_)
  refine Eq.trans (li_if_ne (t := 42) d30_31 (by rfl)) ?_
  refine lt_ite (fun c1 => ?_) (fun c1 => ?_)
  · exact li_vret d30_42 rfl
  · refine Eq.trans (li_aload_n d30_34 (by rfl)) ?_
    refine Eq.trans (li_ivV d30_35 ca_5_38 kd_12 kl_12 (by rfl) (by rfl) h0 (Nat.le_of_ble_eq_true rfl) (Nat.le_of_ble_eq_true rfl)) ?_
    refine lt_cV_c (fun m8 => ?_)
    refine Eq.trans (li_aload_n d30_38 (by rfl)) ?_
    refine Eq.trans (li_ivV d30_39 ca_5_41 kd_19 kl_19 (by rfl) (by rfl) h0 (Nat.le_of_ble_eq_true rfl) (Nat.le_of_ble_eq_true rfl)) ?_
    refine lt_cV_c (fun m9 => ?_)
    exact li_vret d30_42 rfl
/-! TransitSeals$Reader.begin()V -/
theorem d31_0 : decode Y31.2.1 0 = .ok (.aload_n 0, 1) := by decide +kernel
theorem d31_1 : decode Y31.2.1 1 = .ok (.iconst 0, 1) := by decide +kernel
theorem d31_2 : decode Y31.2.1 2 = .ok (.putfield 22, 3) := by decide +kernel
theorem d31_5 : decode Y31.2.1 5 = .ok (.aload_n 0, 1) := by decide +kernel
theorem d31_6 : decode Y31.2.1 6 = .ok (.iconst (-1), 1) := by decide +kernel
theorem d31_7 : decode Y31.2.1 7 = .ok (.putfield 18, 3) := by decide +kernel
theorem d31_10 : decode Y31.2.1 10 = .ok (.return_, 1) := by decide +kernel
theorem E31 (d : Nat) (a0 : Nat) (h0 : ts_sh a0 = (0, 6)) (m : lt_m) : lt_ev (d + 1) 31 [.inr (.inr (some a0))] m = some (none, (lm_i (lm_i m a0 1 (0 : Int32)) a0 2 (-1 : Int32))) := by
  refine Eq.trans (lt_enter2 (ls := [some (.inr (.inr (some a0)))]) hY31 (Nat.le_of_ble_eq_true rfl) (by rfl)) ?_
  refine Eq.trans (li_aload_n d31_0 (by rfl)) ?_
  refine Eq.trans (li_iconst d31_1 ic_0) ?_
  refine Eq.trans (li_puti d31_2 fa_6_22 h0 rfl rfl) ?_
  refine Eq.trans (li_aload_n d31_5 (by rfl)) ?_
  refine Eq.trans (li_iconst d31_6 ic_n1) ?_
  refine Eq.trans (li_puti d31_7 fa_6_18 h0 rfl rfl) ?_
  exact li_vret d31_10 rfl
/-! TransitSeals$Net.clear()V -/
theorem d32_0 : decode Y32.2.1 0 = .ok (.aload_n 0, 1) := by decide +kernel
theorem d32_1 : decode Y32.2.1 1 = .ok (.iconst 0, 1) := by decide +kernel
theorem d32_2 : decode Y32.2.1 2 = .ok (.putfield 34, 3) := by decide +kernel
theorem d32_5 : decode Y32.2.1 5 = .ok (.aload_n 0, 1) := by decide +kernel
theorem d32_6 : decode Y32.2.1 6 = .ok (.iconst 0, 1) := by decide +kernel
theorem d32_7 : decode Y32.2.1 7 = .ok (.putfield 93, 3) := by decide +kernel
theorem d32_10 : decode Y32.2.1 10 = .ok (.aload_n 0, 1) := by decide +kernel
theorem d32_11 : decode Y32.2.1 11 = .ok (.iconst 0, 1) := by decide +kernel
theorem d32_12 : decode Y32.2.1 12 = .ok (.putfield 44, 3) := by decide +kernel
theorem d32_15 : decode Y32.2.1 15 = .ok (.aload_n 0, 1) := by decide +kernel
theorem d32_16 : decode Y32.2.1 16 = .ok (.getfield 18, 3) := by decide +kernel
theorem d32_19 : decode Y32.2.1 19 = .ok (.invokestatic 96, 3) := by decide +kernel
theorem d32_22 : decode Y32.2.1 22 = .ok (.aload_n 0, 1) := by decide +kernel
theorem d32_23 : decode Y32.2.1 23 = .ok (.getfield 24, 3) := by decide +kernel
theorem d32_26 : decode Y32.2.1 26 = .ok (.invokestatic 96, 3) := by decide +kernel
theorem d32_29 : decode Y32.2.1 29 = .ok (.return_, 1) := by decide +kernel
theorem E32 (d : Nat) (a0 : Nat) (h0 : ts_sh a0 = (0, 5)) (m : lt_m) : lt_ev (d + 1) 32 [.inr (.inr (some a0))] m = lt_cV (lt_ev d 33 [.inr (.inr (some (a0 + 3)))] (lm_i (lm_i (lm_i m a0 6 (0 : Int32)) a0 7 (0 : Int32)) a0 8 (0 : Int32))) (fun m1 => (lt_cV (lt_ev d 33 [.inr (.inr (some (a0 + 5)))] m1) (fun m2 => (some (none, m2))))) := by
  refine Eq.trans (lt_enter2 (ls := [some (.inr (.inr (some a0)))]) hY32 (Nat.le_of_ble_eq_true rfl) (by rfl)) ?_
  refine Eq.trans (li_aload_n d32_0 (by rfl)) ?_
  refine Eq.trans (li_iconst d32_1 ic_0) ?_
  refine Eq.trans (li_puti d32_2 fa_5_34 h0 rfl rfl) ?_
  refine Eq.trans (li_aload_n d32_5 (by rfl)) ?_
  refine Eq.trans (li_iconst d32_6 ic_0) ?_
  refine Eq.trans (li_puti d32_7 fa_5_93 h0 rfl rfl) ?_
  refine Eq.trans (li_aload_n d32_10 (by rfl)) ?_
  refine Eq.trans (li_iconst d32_11 ic_0) ?_
  refine Eq.trans (li_puti d32_12 fa_5_44 h0 rfl rfl) ?_
  refine Eq.trans (li_aload_n d32_15 (by rfl)) ?_
  refine Eq.trans (li_getr d32_16 fa_5_18 h0 rfl rfl rfl (by decide)) ?_
  refine Eq.trans (li_isV d32_19 bi_5_96 ca_5_96 kd_33 (by rfl) (by rfl) (Nat.le_of_ble_eq_true rfl) (Nat.le_of_ble_eq_true rfl)) ?_
  refine lt_cV_c (fun m1 => ?_)
  refine Eq.trans (li_aload_n d32_22 (by rfl)) ?_
  refine Eq.trans (li_getr d32_23 fa_5_24 h0 rfl rfl rfl (by decide)) ?_
  refine Eq.trans (li_isV d32_26 bi_5_96 ca_5_96 kd_33 (by rfl) (by rfl) (Nat.le_of_ble_eq_true rfl) (Nat.le_of_ble_eq_true rfl)) ?_
  refine lt_cV_c (fun m2 => ?_)
  exact li_vret d32_29 rfl
/-! TransitSeals.wipe([I)V -/
theorem d33_0 : decode Y33.2.1 0 = .ok (.iconst 0, 1) := by decide +kernel
theorem d33_1 : decode Y33.2.1 1 = .ok (.istore_n 1, 1) := by decide +kernel
theorem d33_2 : decode Y33.2.1 2 = .ok (.iload_n 1, 1) := by decide +kernel
theorem d33_3 : decode Y33.2.1 3 = .ok (.aload_n 0, 1) := by decide +kernel
theorem d33_4 : decode Y33.2.1 4 = .ok (.arraylength, 1) := by decide +kernel
theorem d33_5 : decode Y33.2.1 5 = .ok (.if_icmp .ge 13, 3) := by decide +kernel
theorem d33_8 : decode Y33.2.1 8 = .ok (.aload_n 0, 1) := by decide +kernel
theorem d33_9 : decode Y33.2.1 9 = .ok (.iload_n 1, 1) := by decide +kernel
theorem d33_10 : decode Y33.2.1 10 = .ok (.iconst 0, 1) := by decide +kernel
theorem d33_11 : decode Y33.2.1 11 = .ok (.iastore, 1) := by decide +kernel
theorem d33_12 : decode Y33.2.1 12 = .ok (.iinc 1 1, 3) := by decide +kernel
theorem d33_15 : decode Y33.2.1 15 = .ok (.goto (-13), 3) := by decide +kernel
theorem d33_18 : decode Y33.2.1 18 = .ok (.return_, 1) := by decide +kernel
noncomputable def L33_2 (d : Nat) (a0 : Nat) (n0 : Nat) (x1 : Int32) (m : lt_m) : Option lt_r := lt_run d Y33 2 [some (.inr (.inr (some a0))), some (.inl x1)] [] m
theorem E33 (d : Nat) (a0 : Nat) (n0 : Nat) (h0 : ts_sh a0 = (1, n0)) (m : lt_m) : lt_ev (d + 1) 33 [.inr (.inr (some a0))] m = L33_2 d a0 n0 (0 : Int32) m := by
  refine Eq.trans (lt_enter2 (ls := [some (.inr (.inr (some a0))), none]) hY33 (Nat.le_of_ble_eq_true rfl) (by rfl)) ?_
  refine Eq.trans (li_iconst d33_0 ic_0) ?_
  refine Eq.trans (li_istore_n (ls' := [some (.inr (.inr (some a0))), some (.inl (0 : Int32))]) d33_1 (by decide) (by rfl)) ?_
  rfl
theorem E33_2 (d : Nat) (a0 : Nat) (n0 : Nat) (x1 : Int32) (h0 : ts_sh a0 = (1, n0)) (m : lt_m) : L33_2 d a0 n0 x1 m = if (Int32.ofNat n0) ≤ x1 then (some (none, m)) else (lt_gd (0 ≤ x1 ∧ (x1).toNatClampNeg < n0) (L33_2 d a0 n0 (x1 + (1 : Int32)) (lm_i m a0 (x1).toNatClampNeg (0 : Int32)))) := by
  show lt_run d Y33 2 [some (.inr (.inr (some a0))), some (.inl x1)] [] m = _
  refine Eq.trans (li_iload_n d33_2 (by rfl)) ?_
  refine Eq.trans (li_aload_n d33_3 (by rfl)) ?_
  refine Eq.trans (li_alen d33_4 h0 (by decide) (by rfl)) ?_
  refine Eq.trans (li_icmp_ge (t := 18) d33_5 (by rfl)) ?_
  refine lt_ite (fun c1 => ?_) (fun c1 => ?_)
  · exact li_vret d33_18 rfl
  · refine Eq.trans (li_aload_n d33_8 (by rfl)) ?_
    refine Eq.trans (li_iload_n d33_9 (by rfl)) ?_
    refine Eq.trans (li_iconst d33_10 ic_0) ?_
    refine Eq.trans (li_iast d33_11 h0) ?_
    refine lt_gd_c (fun g1 => ?_)
    refine Eq.trans (li_iinc (ls' := [some (.inr (.inr (some a0))), some (.inl (x1 + (1 : Int32)))]) d33_12 (by rfl) (by decide) ic_1 (by rfl)) ?_
    refine Eq.trans (li_goto (t := 2) d33_15 (by rfl)) ?_
    rfl
/-! TransitSeals$Net.readCountries(LTransitSeals$Reader;)V -/
theorem d34_0 : decode Y34.2.1 0 = .ok (.iconst 0, 1) := by decide +kernel
theorem d34_1 : decode Y34.2.1 1 = .ok (.istore_n 2, 1) := by decide +kernel
theorem d34_2 : decode Y34.2.1 2 = .ok (.iload_n 2, 1) := by decide +kernel
theorem d34_3 : decode Y34.2.1 3 = .ok (.bipush 12, 2) := by decide +kernel
theorem d34_5 : decode Y34.2.1 5 = .ok (.if_icmp .ge 49, 3) := by decide +kernel
theorem d34_8 : decode Y34.2.1 8 = .ok (.aload_n 1, 1) := by decide +kernel
theorem d34_9 : decode Y34.2.1 9 = .ok (.invokevirtual 100, 3) := by decide +kernel
theorem d34_12 : decode Y34.2.1 12 = .ok (.ifCond .lt 42, 3) := by decide +kernel
theorem d34_15 : decode Y34.2.1 15 = .ok (.aload_n 1, 1) := by decide +kernel
theorem d34_16 : decode Y34.2.1 16 = .ok (.invokevirtual 100, 3) := by decide +kernel
theorem d34_19 : decode Y34.2.1 19 = .ok (.bipush 6, 2) := by decide +kernel
theorem d34_21 : decode Y34.2.1 21 = .ok (.if_icmp .ge 33, 3) := by decide +kernel
theorem d34_24 : decode Y34.2.1 24 = .ok (.aload_n 0, 1) := by decide +kernel
theorem d34_25 : decode Y34.2.1 25 = .ok (.getfield 9, 3) := by decide +kernel
theorem d34_28 : decode Y34.2.1 28 = .ok (.iload_n 2, 1) := by decide +kernel
theorem d34_29 : decode Y34.2.1 29 = .ok (.aload_n 1, 1) := by decide +kernel
theorem d34_30 : decode Y34.2.1 30 = .ok (.iconst 0, 1) := by decide +kernel
theorem d34_31 : decode Y34.2.1 31 = .ok (.iconst 5, 1) := by decide +kernel
theorem d34_32 : decode Y34.2.1 32 = .ok (.invokevirtual 104, 3) := by decide +kernel
theorem d34_35 : decode Y34.2.1 35 = .ok (.invokestatic 107, 3) := by decide +kernel
theorem d34_38 : decode Y34.2.1 38 = .ok (.aload_n 0, 1) := by decide +kernel
theorem d34_39 : decode Y34.2.1 39 = .ok (.dup, 1) := by decide +kernel
theorem d34_40 : decode Y34.2.1 40 = .ok (.getfield 34, 3) := by decide +kernel
theorem d34_43 : decode Y34.2.1 43 = .ok (.iconst 1, 1) := by decide +kernel
theorem d34_44 : decode Y34.2.1 44 = .ok (.iadd, 1) := by decide +kernel
theorem d34_45 : decode Y34.2.1 45 = .ok (.putfield 34, 3) := by decide +kernel
theorem d34_48 : decode Y34.2.1 48 = .ok (.iinc 2 1, 3) := by decide +kernel
theorem d34_51 : decode Y34.2.1 51 = .ok (.goto (-49), 3) := by decide +kernel
theorem d34_54 : decode Y34.2.1 54 = .ok (.aload_n 0, 1) := by decide +kernel
theorem d34_55 : decode Y34.2.1 55 = .ok (.getfield 34, 3) := by decide +kernel
theorem d34_58 : decode Y34.2.1 58 = .ok (.iconst 2, 1) := by decide +kernel
theorem d34_59 : decode Y34.2.1 59 = .ok (.if_icmp .ge 7, 3) := by decide +kernel
theorem d34_62 : decode Y34.2.1 62 = .ok (.aload_n 1, 1) := by decide +kernel
theorem d34_63 : decode Y34.2.1 63 = .ok (.invokevirtual 111, 3) := by decide +kernel
theorem d34_66 : decode Y34.2.1 66 = .ok (.aload_n 1, 1) := by decide +kernel
theorem d34_67 : decode Y34.2.1 67 = .ok (.bipush 124, 2) := by decide +kernel
theorem d34_69 : decode Y34.2.1 69 = .ok (.invokevirtual 114, 3) := by decide +kernel
theorem d34_72 : decode Y34.2.1 72 = .ok (.return_, 1) := by decide +kernel
noncomputable def L34_2 (d : Nat) (a0 : Nat) (a1 : Nat) (x2 : Int32) (m : lt_m) : Option lt_r := lt_run d Y34 2 [some (.inr (.inr (some a0))), some (.inr (.inr (some a1))), some (.inl x2)] [] m
noncomputable def L34_54 (d : Nat) (a0 : Nat) (a1 : Nat) (x2 : Int32) (m : lt_m) : Option lt_r := lt_run d Y34 54 [some (.inr (.inr (some a0))), some (.inr (.inr (some a1))), some (.inl x2)] [] m
theorem E34 (d : Nat) (a0 : Nat) (a1 : Nat) (h0 : ts_sh a0 = (0, 5)) (h1 : ts_sh a1 = (0, 6)) (m : lt_m) : lt_ev (d + 1) 34 [.inr (.inr (some a0)), .inr (.inr (some a1))] m = L34_2 d a0 a1 (0 : Int32) m := by
  refine Eq.trans (lt_enter2 (ls := [some (.inr (.inr (some a0))), some (.inr (.inr (some a1))), none]) hY34 (Nat.le_of_ble_eq_true rfl) (by rfl)) ?_
  refine Eq.trans (li_iconst d34_0 ic_0) ?_
  refine Eq.trans (li_istore_n (ls' := [some (.inr (.inr (some a0))), some (.inr (.inr (some a1))), some (.inl (0 : Int32))]) d34_1 (by decide) (by rfl)) ?_
  rfl
theorem E34_2 (d : Nat) (a0 : Nat) (a1 : Nat) (x2 : Int32) (h0 : ts_sh a0 = (0, 5)) (h1 : ts_sh a1 = (0, 6)) (m : lt_m) : L34_2 d a0 a1 x2 m = if (12 : Int32) ≤ x2 then (L34_54 d a0 a1 x2 m) else (lt_cI (lt_ev d 35 [.inr (.inr (some a1))] m) (fun v1 m1 => (if v1 < 0 then (L34_54 d a0 a1 x2 m1) else (lt_cI (lt_ev d 35 [.inr (.inr (some a1))] m1) (fun v2 m2 => (if (6 : Int32) ≤ v2 then (L34_54 d a0 a1 x2 m2) else (lt_cI (lt_ev d 37 [.inr (.inr (some a1)), .inl (0 : Int32), .inl (5 : Int32)] m2) (fun v3 m3 => (lt_cV (lt_ev d 17 [.inr (.inr (some (a0 + 1))), .inl x2, .inl v3] m3) (fun m4 => (L34_2 d a0 a1 (x2 + (1 : Int32)) (lm_i m4 a0 6 ((m4.1 a0 6) + (1 : Int32)))))))))))))) := by
  show lt_run d Y34 2 [some (.inr (.inr (some a0))), some (.inr (.inr (some a1))), some (.inl x2)] [] m = _
  refine Eq.trans (li_iload_n d34_2 (by rfl)) ?_
  refine Eq.trans (li_bipush d34_3 bi_12) ?_
  refine Eq.trans (li_icmp_ge (t := 54) d34_5 (by rfl)) ?_
  refine lt_ite (fun c1 => ?_) (fun c1 => ?_)
  · rfl
  · refine Eq.trans (li_aload_n d34_8 (by rfl)) ?_
    refine Eq.trans (li_ivI d34_9 ca_5_100 kd_35 kl_35 (by rfl) (by rfl) h1 (Nat.le_of_ble_eq_true rfl) (Nat.le_of_ble_eq_true rfl)) ?_
    refine lt_cI_c (fun v1 m1 => ?_)
    refine Eq.trans (li_if_lt (t := 54) d34_12 (by rfl)) ?_
    refine lt_ite (fun c2 => ?_) (fun c2 => ?_)
    · rfl
    · refine Eq.trans (li_aload_n d34_15 (by rfl)) ?_
      refine Eq.trans (li_ivI d34_16 ca_5_100 kd_35 kl_35 (by rfl) (by rfl) h1 (Nat.le_of_ble_eq_true rfl) (Nat.le_of_ble_eq_true rfl)) ?_
      refine lt_cI_c (fun v2 m2 => ?_)
      refine Eq.trans (li_bipush d34_19 bi_6) ?_
      refine Eq.trans (li_icmp_ge (t := 54) d34_21 (by rfl)) ?_
      refine lt_ite (fun c3 => ?_) (fun c3 => ?_)
      · rfl
      · refine Eq.trans (li_aload_n d34_24 (by rfl)) ?_
        refine Eq.trans (li_getr d34_25 fa_5_9 h0 rfl rfl rfl (by decide)) ?_
        refine Eq.trans (li_iload_n d34_28 (by rfl)) ?_
        refine Eq.trans (li_aload_n d34_29 (by rfl)) ?_
        refine Eq.trans (li_iconst d34_30 ic_0) ?_
        refine Eq.trans (li_iconst d34_31 ic_5) ?_
        refine Eq.trans (li_ivI d34_32 ca_5_104 kd_37 kl_37 (by rfl) (by rfl) h1 (Nat.le_of_ble_eq_true rfl) (Nat.le_of_ble_eq_true rfl)) ?_
        refine lt_cI_c (fun v3 m3 => ?_)
        refine Eq.trans (li_isV d34_35 bi_5_107 ca_5_107 kd_17 (by rfl) (by rfl) (Nat.le_of_ble_eq_true rfl) (Nat.le_of_ble_eq_true rfl)) ?_
        refine lt_cV_c (fun m4 => ?_)
        refine Eq.trans (li_aload_n d34_38 (by rfl)) ?_
        refine Eq.trans (li_dup d34_39 rfl) ?_
        refine Eq.trans (li_geti d34_40 fa_5_34 h0 rfl) ?_
        refine Eq.trans (li_iconst d34_43 ic_1) ?_
        refine Eq.trans (li_iadd d34_44) ?_
        refine Eq.trans (li_puti d34_45 fa_5_34 h0 rfl rfl) ?_
        refine Eq.trans (li_iinc (ls' := [some (.inr (.inr (some a0))), some (.inr (.inr (some a1))), some (.inl (x2 + (1 : Int32)))]) d34_48 (by rfl) (by decide) ic_1 (by rfl)) ?_
        refine Eq.trans (li_goto (t := 2) d34_51 (by rfl)) ?_
        rfl
theorem E34_54 (d : Nat) (a0 : Nat) (a1 : Nat) (x2 : Int32) (h0 : ts_sh a0 = (0, 5)) (h1 : ts_sh a1 = (0, 6)) (m : lt_m) : L34_54 d a0 a1 x2 m = if (2 : Int32) ≤ (m.1 a0 6) then (lt_cV (lt_ev d 42 [.inr (.inr (some a1)), .inl (124 : Int32)] m) (fun m1 => (some (none, m1)))) else (lt_cV (lt_ev d 39 [.inr (.inr (some a1))] m) (fun m2 => (lt_cV (lt_ev d 42 [.inr (.inr (some a1)), .inl (124 : Int32)] m2) (fun m3 => (some (none, m3)))))) := by
  show lt_run d Y34 54 [some (.inr (.inr (some a0))), some (.inr (.inr (some a1))), some (.inl x2)] [] m = _
  refine Eq.trans (li_aload_n d34_54 (by rfl)) ?_
  refine Eq.trans (li_geti d34_55 fa_5_34 h0 rfl) ?_
  refine Eq.trans (li_iconst d34_58 ic_2) ?_
  refine Eq.trans (li_icmp_ge (t := 66) d34_59 (by rfl)) ?_
  refine lt_ite (fun c1 => ?_) (fun c1 => ?_)
  · refine Eq.trans (li_aload_n d34_66 (by rfl)) ?_
    refine Eq.trans (li_bipush d34_67 bi_124) ?_
    refine Eq.trans (li_ivV d34_69 ca_5_114 kd_42 kl_42 (by rfl) (by rfl) h1 (Nat.le_of_ble_eq_true rfl) (Nat.le_of_ble_eq_true rfl)) ?_
    refine lt_cV_c (fun m1 => ?_)
    exact li_vret d34_72 rfl
  · refine Eq.trans (li_aload_n d34_62 (by rfl)) ?_
    refine Eq.trans (li_ivV d34_63 ca_5_111 kd_39 kl_39 (by rfl) (by rfl) h1 (Nat.le_of_ble_eq_true rfl) (Nat.le_of_ble_eq_true rfl)) ?_
    refine lt_cV_c (fun m2 => ?_)
    refine Eq.trans (li_aload_n d34_66 (by rfl)) ?_
    refine Eq.trans (li_bipush d34_67 bi_124) ?_
    refine Eq.trans (li_ivV d34_69 ca_5_114 kd_42 kl_42 (by rfl) (by rfl) h1 (Nat.le_of_ble_eq_true rfl) (Nat.le_of_ble_eq_true rfl)) ?_
    refine lt_cV_c (fun m3 => ?_)
    exact li_vret d34_72 rfl
/-! TransitSeals$Reader.digit()I -/
theorem d35_0 : decode Y35.2.1 0 = .ok (.aload_n 0, 1) := by decide +kernel
theorem d35_1 : decode Y35.2.1 1 = .ok (.getfield 12, 3) := by decide +kernel
theorem d35_4 : decode Y35.2.1 4 = .ok (.aload_n 0, 1) := by decide +kernel
theorem d35_5 : decode Y35.2.1 5 = .ok (.getfield 22, 3) := by decide +kernel
theorem d35_8 : decode Y35.2.1 8 = .ok (.invokevirtual 29, 3) := by decide +kernel
theorem d35_11 : decode Y35.2.1 11 = .ok (.istore_n 1, 1) := by decide +kernel
theorem d35_12 : decode Y35.2.1 12 = .ok (.iload_n 1, 1) := by decide +kernel
theorem d35_13 : decode Y35.2.1 13 = .ok (.bipush 48, 2) := by decide +kernel
theorem d35_15 : decode Y35.2.1 15 = .ok (.if_icmp .lt 16, 3) := by decide +kernel
theorem d35_18 : decode Y35.2.1 18 = .ok (.iload_n 1, 1) := by decide +kernel
theorem d35_19 : decode Y35.2.1 19 = .ok (.bipush 57, 2) := by decide +kernel
theorem d35_21 : decode Y35.2.1 21 = .ok (.if_icmp .gt 10, 3) := by decide +kernel
theorem d35_24 : decode Y35.2.1 24 = .ok (.iload_n 1, 1) := by decide +kernel
theorem d35_25 : decode Y35.2.1 25 = .ok (.bipush 48, 2) := by decide +kernel
theorem d35_27 : decode Y35.2.1 27 = .ok (.isub, 1) := by decide +kernel
theorem d35_28 : decode Y35.2.1 28 = .ok (.goto 4, 3) := by decide +kernel
theorem d35_31 : decode Y35.2.1 31 = .ok (.iconst (-1), 1) := by decide +kernel
theorem d35_32 : decode Y35.2.1 32 = .ok (.ireturn, 1) := by decide +kernel
theorem E35 (d : Nat) (a0 : Nat) (h0 : ts_sh a0 = (0, 6)) (m : lt_m) : lt_ev (d + 1) 35 [.inr (.inr (some a0))] m = lt_cI (lt_ev d 36 [.inr (.inr (some (a0 + 1))), .inl (m.1 a0 1)] m) (fun v1 m1 => (if v1 < (48 : Int32) then (some (some (.inl (-1 : Int32)), m1)) else (if (57 : Int32) < v1 then (some (some (.inl (-1 : Int32)), m1)) else (some (some (.inl (v1 - (48 : Int32))), m1))))) := by
  refine Eq.trans (lt_enter2 (ls := [some (.inr (.inr (some a0))), none]) hY35 (Nat.le_of_ble_eq_true rfl) (by rfl)) ?_
  refine Eq.trans (li_aload_n d35_0 (by rfl)) ?_
  refine Eq.trans (li_getr d35_1 fa_6_12 h0 rfl rfl rfl (by decide)) ?_
  refine Eq.trans (li_aload_n d35_4 (by rfl)) ?_
  refine Eq.trans (li_geti d35_5 fa_6_22 h0 rfl) ?_
  refine Eq.trans (li_ivI d35_8 ca_6_29 kd_36 kl_36 (by rfl) (by rfl) (sf_of h0 0 (by decide) (by decide)) (Nat.le_of_ble_eq_true rfl) (Nat.le_of_ble_eq_true rfl)) ?_
  refine lt_cI_c (fun v1 m1 => ?_)
  refine Eq.trans (li_istore_n (ls' := [some (.inr (.inr (some a0))), some (.inl v1)]) d35_11 (by decide) (by rfl)) ?_
  refine Eq.trans (li_iload_n d35_12 (by rfl)) ?_
  refine Eq.trans (li_bipush d35_13 bi_48) ?_
  refine Eq.trans (li_icmp_lt (t := 31) d35_15 (by rfl)) ?_
  refine lt_ite (fun c1 => ?_) (fun c1 => ?_)
  · refine Eq.trans (li_iconst d35_31 ic_n1) ?_
    exact li_iret d35_32 rfl
  · refine Eq.trans (li_iload_n d35_18 (by rfl)) ?_
    refine Eq.trans (li_bipush d35_19 bi_57) ?_
    refine Eq.trans (li_icmp_gt (t := 31) d35_21 (by rfl)) ?_
    refine lt_ite (fun c2 => ?_) (fun c2 => ?_)
    · refine Eq.trans (li_iconst d35_31 ic_n1) ?_
      exact li_iret d35_32 rfl
    · refine Eq.trans (li_iload_n d35_24 (by rfl)) ?_
      refine Eq.trans (li_bipush d35_25 bi_48) ?_
      refine Eq.trans (li_isub d35_27) ?_
      refine Eq.trans (li_goto (t := 32) d35_28 (by rfl)) ?_
      exact li_iret d35_32 rfl
/-! TransitSeals$Text.signAt(I)I -/
theorem d36_0 : decode Y36.2.1 0 = .ok (.iload_n 1, 1) := by decide +kernel
theorem d36_1 : decode Y36.2.1 1 = .ok (.ifCond .lt 29, 3) := by decide +kernel
theorem d36_4 : decode Y36.2.1 4 = .ok (.iload_n 1, 1) := by decide +kernel
theorem d36_5 : decode Y36.2.1 5 = .ok (.aload_n 0, 1) := by decide +kernel
theorem d36_6 : decode Y36.2.1 6 = .ok (.getfield 15, 3) := by decide +kernel
theorem d36_9 : decode Y36.2.1 9 = .ok (.if_icmp .ge 21, 3) := by decide +kernel
theorem d36_12 : decode Y36.2.1 12 = .ok (.iload_n 1, 1) := by decide +kernel
theorem d36_13 : decode Y36.2.1 13 = .ok (.aload_n 0, 1) := by decide +kernel
theorem d36_14 : decode Y36.2.1 14 = .ok (.getfield 9, 3) := by decide +kernel
theorem d36_17 : decode Y36.2.1 17 = .ok (.arraylength, 1) := by decide +kernel
theorem d36_18 : decode Y36.2.1 18 = .ok (.if_icmp .ge 12, 3) := by decide +kernel
theorem d36_21 : decode Y36.2.1 21 = .ok (.aload_n 0, 1) := by decide +kernel
theorem d36_22 : decode Y36.2.1 22 = .ok (.getfield 9, 3) := by decide +kernel
theorem d36_25 : decode Y36.2.1 25 = .ok (.iload_n 1, 1) := by decide +kernel
theorem d36_26 : decode Y36.2.1 26 = .ok (.iaload, 1) := by decide +kernel
theorem d36_27 : decode Y36.2.1 27 = .ok (.goto 4, 3) := by decide +kernel
theorem d36_30 : decode Y36.2.1 30 = .ok (.iconst (-1), 1) := by decide +kernel
theorem d36_31 : decode Y36.2.1 31 = .ok (.ireturn, 1) := by decide +kernel
theorem E36 (d : Nat) (a0 : Nat) (x1 : Int32) (h0 : ts_sh a0 = (0, 10)) (m : lt_m) : lt_ev (d + 1) 36 [.inr (.inr (some a0)), .inl x1] m = if x1 < 0 then (some (some (.inl (-1 : Int32)), m)) else (if (m.1 a0 1) ≤ x1 then (some (some (.inl (-1 : Int32)), m)) else (if (200 : Int32) ≤ x1 then (some (some (.inl (-1 : Int32)), m)) else (lt_gd (0 ≤ x1 ∧ (x1).toNatClampNeg < 200) (some (some (.inl (m.1 (a0 + 1) (x1).toNatClampNeg)), m))))) := by
  refine Eq.trans (lt_enter2 (ls := [some (.inr (.inr (some a0))), some (.inl x1)]) hY36 (Nat.le_of_ble_eq_true rfl) (by rfl)) ?_
  refine Eq.trans (li_iload_n d36_0 (by rfl)) ?_
  refine Eq.trans (li_if_lt (t := 30) d36_1 (by rfl)) ?_
  refine lt_ite (fun c1 => ?_) (fun c1 => ?_)
  · refine Eq.trans (li_iconst d36_30 ic_n1) ?_
    exact li_iret d36_31 rfl
  · refine Eq.trans (li_iload_n d36_4 (by rfl)) ?_
    refine Eq.trans (li_aload_n d36_5 (by rfl)) ?_
    refine Eq.trans (li_geti d36_6 fa_10_15 h0 rfl) ?_
    refine Eq.trans (li_icmp_ge (t := 30) d36_9 (by rfl)) ?_
    refine lt_ite (fun c2 => ?_) (fun c2 => ?_)
    · refine Eq.trans (li_iconst d36_30 ic_n1) ?_
      exact li_iret d36_31 rfl
    · refine Eq.trans (li_iload_n d36_12 (by rfl)) ?_
      refine Eq.trans (li_aload_n d36_13 (by rfl)) ?_
      refine Eq.trans (li_getr d36_14 fa_10_9 h0 rfl rfl rfl (by decide)) ?_
      refine Eq.trans (li_alen d36_17 (sf_of h0 0 (by decide) (by decide)) (by decide) (by rfl)) ?_
      refine Eq.trans (li_icmp_ge (t := 30) d36_18 (by rfl)) ?_
      refine lt_ite (fun c3 => ?_) (fun c3 => ?_)
      · refine Eq.trans (li_iconst d36_30 ic_n1) ?_
        exact li_iret d36_31 rfl
      · refine Eq.trans (li_aload_n d36_21 (by rfl)) ?_
        refine Eq.trans (li_getr d36_22 fa_10_9 h0 rfl rfl rfl (by decide)) ?_
        refine Eq.trans (li_iload_n d36_25 (by rfl)) ?_
        refine Eq.trans (li_iald d36_26 (sf_of h0 0 (by decide) (by decide))) ?_
        refine lt_gd_c (fun g1 => ?_)
        refine Eq.trans (li_goto (t := 31) d36_27 (by rfl)) ?_
        exact li_iret d36_31 rfl
/-! TransitSeals$Reader.number(II)I -/
theorem d37_0 : decode Y37.2.1 0 = .ok (.aload_n 0, 1) := by decide +kernel
theorem d37_1 : decode Y37.2.1 1 = .ok (.invokevirtual 48, 3) := by decide +kernel
theorem d37_4 : decode Y37.2.1 4 = .ok (.ifCond .eq 5, 3) := by decide +kernel
theorem d37_7 : decode Y37.2.1 7 = .ok (.iconst (-1), 1) := by decide +kernel
theorem d37_8 : decode Y37.2.1 8 = .ok (.ireturn, 1) := by decide +kernel
theorem d37_9 : decode Y37.2.1 9 = .ok (.aload_n 0, 1) := by decide +kernel
theorem d37_10 : decode Y37.2.1 10 = .ok (.invokevirtual 51, 3) := by decide +kernel
theorem d37_13 : decode Y37.2.1 13 = .ok (.iconst (-1), 1) := by decide +kernel
theorem d37_14 : decode Y37.2.1 14 = .ok (.if_icmp .ne 9, 3) := by decide +kernel
theorem d37_17 : decode Y37.2.1 17 = .ok (.aload_n 0, 1) := by decide +kernel
theorem d37_18 : decode Y37.2.1 18 = .ok (.invokevirtual 37, 3) := by decide +kernel
theorem d37_21 : decode Y37.2.1 21 = .ok (.iconst (-1), 1) := by decide +kernel
theorem d37_22 : decode Y37.2.1 22 = .ok (.ireturn, 1) := by decide +kernel
theorem d37_23 : decode Y37.2.1 23 = .ok (.iload_n 2, 1) := by decide +kernel
theorem d37_24 : decode Y37.2.1 24 = .ok (.invokestatic 54, 3) := by decide +kernel
theorem d37_27 : decode Y37.2.1 27 = .ok (.istore_n 3, 1) := by decide +kernel
theorem d37_28 : decode Y37.2.1 28 = .ok (.iconst 0, 1) := by decide +kernel
theorem d37_29 : decode Y37.2.1 29 = .ok (.istore 4, 2) := by decide +kernel
theorem d37_31 : decode Y37.2.1 31 = .ok (.iconst 0, 1) := by decide +kernel
theorem d37_32 : decode Y37.2.1 32 = .ok (.istore 5, 2) := by decide +kernel
theorem d37_34 : decode Y37.2.1 34 = .ok (.iload 5, 2) := by decide +kernel
theorem d37_36 : decode Y37.2.1 36 = .ok (.iload_n 3, 1) := by decide +kernel
theorem d37_37 : decode Y37.2.1 37 = .ok (.if_icmp .ge 49, 3) := by decide +kernel
theorem d37_40 : decode Y37.2.1 40 = .ok (.aload_n 0, 1) := by decide +kernel
theorem d37_41 : decode Y37.2.1 41 = .ok (.invokevirtual 51, 3) := by decide +kernel
theorem d37_44 : decode Y37.2.1 44 = .ok (.iconst (-1), 1) := by decide +kernel
theorem d37_45 : decode Y37.2.1 45 = .ok (.if_icmp .eq 41, 3) := by decide +kernel
theorem d37_48 : decode Y37.2.1 48 = .ok (.iload 5, 2) := by decide +kernel
theorem d37_50 : decode Y37.2.1 50 = .ok (.ifCond .eq 8, 3) := by decide +kernel
theorem d37_53 : decode Y37.2.1 53 = .ok (.iload 4, 2) := by decide +kernel
theorem d37_55 : decode Y37.2.1 55 = .ok (.ifCond .le 31, 3) := by decide +kernel
theorem d37_58 : decode Y37.2.1 58 = .ok (.iload 4, 2) := by decide +kernel
theorem d37_60 : decode Y37.2.1 60 = .ok (.bipush 10, 2) := by decide +kernel
theorem d37_62 : decode Y37.2.1 62 = .ok (.imul, 1) := by decide +kernel
theorem d37_63 : decode Y37.2.1 63 = .ok (.aload_n 0, 1) := by decide +kernel
theorem d37_64 : decode Y37.2.1 64 = .ok (.invokevirtual 51, 3) := by decide +kernel
theorem d37_67 : decode Y37.2.1 67 = .ok (.iadd, 1) := by decide +kernel
theorem d37_68 : decode Y37.2.1 68 = .ok (.istore 4, 2) := by decide +kernel
theorem d37_70 : decode Y37.2.1 70 = .ok (.aload_n 0, 1) := by decide +kernel
theorem d37_71 : decode Y37.2.1 71 = .ok (.dup, 1) := by decide +kernel
theorem d37_72 : decode Y37.2.1 72 = .ok (.getfield 22, 3) := by decide +kernel
theorem d37_75 : decode Y37.2.1 75 = .ok (.iconst 1, 1) := by decide +kernel
theorem d37_76 : decode Y37.2.1 76 = .ok (.iadd, 1) := by decide +kernel
theorem d37_77 : decode Y37.2.1 77 = .ok (.putfield 22, 3) := by decide +kernel
theorem d37_80 : decode Y37.2.1 80 = .ok (.iinc 5 1, 3) := by decide +kernel
theorem d37_83 : decode Y37.2.1 83 = .ok (.goto (-49), 3) := by decide +kernel
theorem d37_86 : decode Y37.2.1 86 = .ok (.iload 4, 2) := by decide +kernel
theorem d37_88 : decode Y37.2.1 88 = .ok (.iload_n 1, 1) := by decide +kernel
theorem d37_89 : decode Y37.2.1 89 = .ok (.if_icmp .lt 9, 3) := by decide +kernel
theorem d37_92 : decode Y37.2.1 92 = .ok (.iload 4, 2) := by decide +kernel
theorem d37_94 : decode Y37.2.1 94 = .ok (.iload_n 2, 1) := by decide +kernel
theorem d37_95 : decode Y37.2.1 95 = .ok (.if_icmp .le 9, 3) := by decide +kernel
theorem d37_98 : decode Y37.2.1 98 = .ok (.aload_n 0, 1) := by decide +kernel
theorem d37_99 : decode Y37.2.1 99 = .ok (.invokevirtual 57, 3) := by decide +kernel
theorem d37_102 : decode Y37.2.1 102 = .ok (.iconst (-1), 1) := by decide +kernel
theorem d37_103 : decode Y37.2.1 103 = .ok (.ireturn, 1) := by decide +kernel
theorem d37_104 : decode Y37.2.1 104 = .ok (.iload 4, 2) := by decide +kernel
theorem d37_106 : decode Y37.2.1 106 = .ok (.ireturn, 1) := by decide +kernel
noncomputable def L37_34 (d : Nat) (a0 : Nat) (x1 : Int32) (x2 : Int32) (x3 : Int32) (x4 : Int32) (x5 : Int32) (m : lt_m) : Option lt_r := lt_run d Y37 34 [some (.inr (.inr (some a0))), some (.inl x1), some (.inl x2), some (.inl x3), some (.inl x4), some (.inl x5)] [] m
noncomputable def L37_58 (d : Nat) (a0 : Nat) (x1 : Int32) (x2 : Int32) (x3 : Int32) (x4 : Int32) (x5 : Int32) (m : lt_m) : Option lt_r := lt_run d Y37 58 [some (.inr (.inr (some a0))), some (.inl x1), some (.inl x2), some (.inl x3), some (.inl x4), some (.inl x5)] [] m
noncomputable def L37_86 (d : Nat) (a0 : Nat) (x1 : Int32) (x2 : Int32) (x3 : Int32) (x4 : Int32) (x5 : Int32) (m : lt_m) : Option lt_r := lt_run d Y37 86 [some (.inr (.inr (some a0))), some (.inl x1), some (.inl x2), some (.inl x3), some (.inl x4), some (.inl x5)] [] m
theorem E37 (d : Nat) (a0 : Nat) (x1 : Int32) (x2 : Int32) (h0 : ts_sh a0 = (0, 6)) (m : lt_m) : lt_ev (d + 1) 37 [.inr (.inr (some a0)), .inl x1, .inl x2] m = lt_cI (lt_ev d 38 [.inr (.inr (some a0))] m) (fun v1 m1 => (if v1 = 0 then (lt_cI (lt_ev d 35 [.inr (.inr (some a0))] m1) (fun v2 m2 => (if ¬ v2 = (-1 : Int32) then (lt_cI (lt_ev d 40 [.inl x2] m2) (fun v3 m3 => (L37_34 d a0 x1 x2 v3 (0 : Int32) (0 : Int32) m3))) else (lt_cV (lt_ev d 39 [.inr (.inr (some a0))] m2) (fun m4 => (some (some (.inl (-1 : Int32)), m4))))))) else (some (some (.inl (-1 : Int32)), m1)))) := by
  refine Eq.trans (lt_enter2 (ls := [some (.inr (.inr (some a0))), some (.inl x1), some (.inl x2), none, none, none]) hY37 (Nat.le_of_ble_eq_true rfl) (by rfl)) ?_
  refine Eq.trans (li_aload_n d37_0 (by rfl)) ?_
  refine Eq.trans (li_ivI d37_1 ca_6_48 kd_38 kl_38 (by rfl) (by rfl) h0 (Nat.le_of_ble_eq_true rfl) (Nat.le_of_ble_eq_true rfl)) ?_
  refine lt_cI_c (fun v1 m1 => ?_)
  refine Eq.trans (li_if_eq (t := 9) d37_4 (by rfl)) ?_
  refine lt_ite (fun c1 => ?_) (fun c1 => ?_)
  · refine Eq.trans (li_aload_n d37_9 (by rfl)) ?_
    refine Eq.trans (li_ivI d37_10 ca_6_51 kd_35 kl_35 (by rfl) (by rfl) h0 (Nat.le_of_ble_eq_true rfl) (Nat.le_of_ble_eq_true rfl)) ?_
    refine lt_cI_c (fun v2 m2 => ?_)
    refine Eq.trans (li_iconst d37_13 ic_n1) ?_
    refine Eq.trans (li_icmp_ne (t := 23) d37_14 (by rfl)) ?_
    refine lt_ite (fun c2 => ?_) (fun c2 => ?_)
    · refine Eq.trans (li_iload_n d37_23 (by rfl)) ?_
      refine Eq.trans (li_isI d37_24 bi_6_54 ca_6_54 kd_40 (by rfl) (by rfl) (Nat.le_of_ble_eq_true rfl) (Nat.le_of_ble_eq_true rfl)) ?_
      refine lt_cI_c (fun v3 m3 => ?_)
      refine Eq.trans (li_istore_n (ls' := [some (.inr (.inr (some a0))), some (.inl x1), some (.inl x2), some (.inl v3), none, none]) d37_27 (by decide) (by rfl)) ?_
      refine Eq.trans (li_iconst d37_28 ic_0) ?_
      refine Eq.trans (li_istore (ls' := [some (.inr (.inr (some a0))), some (.inl x1), some (.inl x2), some (.inl v3), some (.inl (0 : Int32)), none]) d37_29 (by decide) (by rfl)) ?_
      refine Eq.trans (li_iconst d37_31 ic_0) ?_
      refine Eq.trans (li_istore (ls' := [some (.inr (.inr (some a0))), some (.inl x1), some (.inl x2), some (.inl v3), some (.inl (0 : Int32)), some (.inl (0 : Int32))]) d37_32 (by decide) (by rfl)) ?_
      rfl
    · refine Eq.trans (li_aload_n d37_17 (by rfl)) ?_
      refine Eq.trans (li_ivV d37_18 ca_6_37 kd_39 kl_39 (by rfl) (by rfl) h0 (Nat.le_of_ble_eq_true rfl) (Nat.le_of_ble_eq_true rfl)) ?_
      refine lt_cV_c (fun m4 => ?_)
      refine Eq.trans (li_iconst d37_21 ic_n1) ?_
      exact li_iret d37_22 rfl
  · refine Eq.trans (li_iconst d37_7 ic_n1) ?_
    exact li_iret d37_8 rfl
theorem E37_34 (d : Nat) (a0 : Nat) (x1 : Int32) (x2 : Int32) (x3 : Int32) (x4 : Int32) (x5 : Int32) (h0 : ts_sh a0 = (0, 6)) (m : lt_m) : L37_34 d a0 x1 x2 x3 x4 x5 m = if x3 ≤ x5 then (L37_86 d a0 x1 x2 x3 x4 x5 m) else (lt_cI (lt_ev d 35 [.inr (.inr (some a0))] m) (fun v1 m1 => (if v1 = (-1 : Int32) then (L37_86 d a0 x1 x2 x3 x4 x5 m1) else (if x5 = 0 then (L37_58 d a0 x1 x2 x3 x4 x5 m1) else (if x4 ≤ 0 then (L37_86 d a0 x1 x2 x3 x4 x5 m1) else (L37_58 d a0 x1 x2 x3 x4 x5 m1)))))) := by
  show lt_run d Y37 34 [some (.inr (.inr (some a0))), some (.inl x1), some (.inl x2), some (.inl x3), some (.inl x4), some (.inl x5)] [] m = _
  refine Eq.trans (li_iload d37_34 (by rfl)) ?_
  refine Eq.trans (li_iload_n d37_36 (by rfl)) ?_
  refine Eq.trans (li_icmp_ge (t := 86) d37_37 (by rfl)) ?_
  refine lt_ite (fun c1 => ?_) (fun c1 => ?_)
  · rfl
  · refine Eq.trans (li_aload_n d37_40 (by rfl)) ?_
    refine Eq.trans (li_ivI d37_41 ca_6_51 kd_35 kl_35 (by rfl) (by rfl) h0 (Nat.le_of_ble_eq_true rfl) (Nat.le_of_ble_eq_true rfl)) ?_
    refine lt_cI_c (fun v1 m1 => ?_)
    refine Eq.trans (li_iconst d37_44 ic_n1) ?_
    refine Eq.trans (li_icmp_eq (t := 86) d37_45 (by rfl)) ?_
    refine lt_ite (fun c2 => ?_) (fun c2 => ?_)
    · rfl
    · refine Eq.trans (li_iload d37_48 (by rfl)) ?_
      refine Eq.trans (li_if_eq (t := 58) d37_50 (by rfl)) ?_
      refine lt_ite (fun c3 => ?_) (fun c3 => ?_)
      · rfl
      · refine Eq.trans (li_iload d37_53 (by rfl)) ?_
        refine Eq.trans (li_if_le (t := 86) d37_55 (by rfl)) ?_
        refine lt_ite (fun c4 => ?_) (fun c4 => ?_)
        · rfl
        · rfl
theorem E37_58 (d : Nat) (a0 : Nat) (x1 : Int32) (x2 : Int32) (x3 : Int32) (x4 : Int32) (x5 : Int32) (h0 : ts_sh a0 = (0, 6)) (m : lt_m) : L37_58 d a0 x1 x2 x3 x4 x5 m = lt_cI (lt_ev d 35 [.inr (.inr (some a0))] m) (fun v1 m1 => (L37_34 d a0 x1 x2 x3 ((x4 * (10 : Int32)) + v1) (x5 + (1 : Int32)) (lm_i m1 a0 1 ((m1.1 a0 1) + (1 : Int32))))) := by
  show lt_run d Y37 58 [some (.inr (.inr (some a0))), some (.inl x1), some (.inl x2), some (.inl x3), some (.inl x4), some (.inl x5)] [] m = _
  refine Eq.trans (li_iload d37_58 (by rfl)) ?_
  refine Eq.trans (li_bipush d37_60 bi_10) ?_
  refine Eq.trans (li_imul d37_62) ?_
  refine Eq.trans (li_aload_n d37_63 (by rfl)) ?_
  refine Eq.trans (li_ivI d37_64 ca_6_51 kd_35 kl_35 (by rfl) (by rfl) h0 (Nat.le_of_ble_eq_true rfl) (Nat.le_of_ble_eq_true rfl)) ?_
  refine lt_cI_c (fun v1 m1 => ?_)
  refine Eq.trans (li_iadd d37_67) ?_
  refine Eq.trans (li_istore (ls' := [some (.inr (.inr (some a0))), some (.inl x1), some (.inl x2), some (.inl x3), some (.inl ((x4 * (10 : Int32)) + v1)), some (.inl x5)]) d37_68 (by decide) (by rfl)) ?_
  refine Eq.trans (li_aload_n d37_70 (by rfl)) ?_
  refine Eq.trans (li_dup d37_71 rfl) ?_
  refine Eq.trans (li_geti d37_72 fa_6_22 h0 rfl) ?_
  refine Eq.trans (li_iconst d37_75 ic_1) ?_
  refine Eq.trans (li_iadd d37_76) ?_
  refine Eq.trans (li_puti d37_77 fa_6_22 h0 rfl rfl) ?_
  refine Eq.trans (li_iinc (ls' := [some (.inr (.inr (some a0))), some (.inl x1), some (.inl x2), some (.inl x3), some (.inl ((x4 * (10 : Int32)) + v1)), some (.inl (x5 + (1 : Int32)))]) d37_80 (by rfl) (by decide) ic_1 (by rfl)) ?_
  refine Eq.trans (li_goto (t := 34) d37_83 (by rfl)) ?_
  rfl
theorem E37_86 (d : Nat) (a0 : Nat) (x1 : Int32) (x2 : Int32) (x3 : Int32) (x4 : Int32) (x5 : Int32) (h0 : ts_sh a0 = (0, 6)) (m : lt_m) : L37_86 d a0 x1 x2 x3 x4 x5 m = if x4 < x1 then (lt_cV (lt_ev d 41 [.inr (.inr (some a0))] m) (fun m1 => (some (some (.inl (-1 : Int32)), m1)))) else (if x4 ≤ x2 then (some (some (.inl x4), m)) else (lt_cV (lt_ev d 41 [.inr (.inr (some a0))] m) (fun m2 => (some (some (.inl (-1 : Int32)), m2))))) := by
  show lt_run d Y37 86 [some (.inr (.inr (some a0))), some (.inl x1), some (.inl x2), some (.inl x3), some (.inl x4), some (.inl x5)] [] m = _
  refine Eq.trans (li_iload d37_86 (by rfl)) ?_
  refine Eq.trans (li_iload_n d37_88 (by rfl)) ?_
  refine Eq.trans (li_icmp_lt (t := 98) d37_89 (by rfl)) ?_
  refine lt_ite (fun c1 => ?_) (fun c1 => ?_)
  · refine Eq.trans (li_aload_n d37_98 (by rfl)) ?_
    refine Eq.trans (li_ivV d37_99 ca_6_57 kd_41 kl_41 (by rfl) (by rfl) h0 (Nat.le_of_ble_eq_true rfl) (Nat.le_of_ble_eq_true rfl)) ?_
    refine lt_cV_c (fun m1 => ?_)
    refine Eq.trans (li_iconst d37_102 ic_n1) ?_
    exact li_iret d37_103 rfl
  · refine Eq.trans (li_iload d37_92 (by rfl)) ?_
    refine Eq.trans (li_iload_n d37_94 (by rfl)) ?_
    refine Eq.trans (li_icmp_le (t := 104) d37_95 (by rfl)) ?_
    refine lt_ite (fun c2 => ?_) (fun c2 => ?_)
    · refine Eq.trans (li_iload d37_104 (by rfl)) ?_
      exact li_iret d37_106 rfl
    · refine Eq.trans (li_aload_n d37_98 (by rfl)) ?_
      refine Eq.trans (li_ivV d37_99 ca_6_57 kd_41 kl_41 (by rfl) (by rfl) h0 (Nat.le_of_ble_eq_true rfl) (Nat.le_of_ble_eq_true rfl)) ?_
      refine lt_cV_c (fun m2 => ?_)
      refine Eq.trans (li_iconst d37_102 ic_n1) ?_
      exact li_iret d37_103 rfl
/-! TransitSeals$Reader.failed()Z -/
theorem d38_0 : decode Y38.2.1 0 = .ok (.aload_n 0, 1) := by decide +kernel
theorem d38_1 : decode Y38.2.1 1 = .ok (.getfield 18, 3) := by decide +kernel
theorem d38_4 : decode Y38.2.1 4 = .ok (.iconst (-1), 1) := by decide +kernel
theorem d38_5 : decode Y38.2.1 5 = .ok (.if_icmp .eq 7, 3) := by decide +kernel
theorem d38_8 : decode Y38.2.1 8 = .ok (.iconst 1, 1) := by decide +kernel
theorem d38_9 : decode Y38.2.1 9 = .ok (.goto 4, 3) := by decide +kernel
theorem d38_12 : decode Y38.2.1 12 = .ok (.iconst 0, 1) := by decide +kernel
theorem d38_13 : decode Y38.2.1 13 = .ok (.ireturn, 1) := by decide +kernel
theorem E38 (d : Nat) (a0 : Nat) (h0 : ts_sh a0 = (0, 6)) (m : lt_m) : lt_ev (d + 1) 38 [.inr (.inr (some a0))] m = if (m.1 a0 2) = (-1 : Int32) then (some (some (.inl (0 : Int32)), m)) else (some (some (.inl (1 : Int32)), m)) := by
  refine Eq.trans (lt_enter2 (ls := [some (.inr (.inr (some a0)))]) hY38 (Nat.le_of_ble_eq_true rfl) (by rfl)) ?_
  refine Eq.trans (li_aload_n d38_0 (by rfl)) ?_
  refine Eq.trans (li_geti d38_1 fa_6_18 h0 rfl) ?_
  refine Eq.trans (li_iconst d38_4 ic_n1) ?_
  refine Eq.trans (li_icmp_eq (t := 12) d38_5 (by rfl)) ?_
  refine lt_ite (fun c1 => ?_) (fun c1 => ?_)
  · refine Eq.trans (li_iconst d38_12 ic_0) ?_
    exact li_zret d38_13 rfl (by decide)
  · refine Eq.trans (li_iconst d38_8 ic_1) ?_
    refine Eq.trans (li_goto (t := 13) d38_9 (by rfl)) ?_
    exact li_zret d38_13 rfl (by decide)
/-! TransitSeals$Reader.refuseHere()V -/
theorem d39_0 : decode Y39.2.1 0 = .ok (.aload_n 0, 1) := by decide +kernel
theorem d39_1 : decode Y39.2.1 1 = .ok (.aload_n 0, 1) := by decide +kernel
theorem d39_2 : decode Y39.2.1 2 = .ok (.getfield 18, 3) := by decide +kernel
theorem d39_5 : decode Y39.2.1 5 = .ok (.iconst (-1), 1) := by decide +kernel
theorem d39_6 : decode Y39.2.1 6 = .ok (.if_icmp .ne 10, 3) := by decide +kernel
theorem d39_9 : decode Y39.2.1 9 = .ok (.aload_n 0, 1) := by decide +kernel
theorem d39_10 : decode Y39.2.1 10 = .ok (.getfield 22, 3) := by decide +kernel
theorem d39_13 : decode Y39.2.1 13 = .ok (.goto 7, 3) := by decide +kernel
theorem d39_16 : decode Y39.2.1 16 = .ok (.aload_n 0, 1) := by decide +kernel
theorem d39_17 : decode Y39.2.1 17 = .ok (.getfield 18, 3) := by decide +kernel
theorem d39_20 : decode Y39.2.1 20 = .ok (.putfield 18, 3) := by decide +kernel
theorem d39_23 : decode Y39.2.1 23 = .ok (.return_, 1) := by decide +kernel
theorem E39 (d : Nat) (a0 : Nat) (h0 : ts_sh a0 = (0, 6)) (m : lt_m) : lt_ev (d + 1) 39 [.inr (.inr (some a0))] m = if ¬ (m.1 a0 2) = (-1 : Int32) then (some (none, (lm_i m a0 2 (m.1 a0 2)))) else (some (none, (lm_i m a0 2 (m.1 a0 1)))) := by
  refine Eq.trans (lt_enter2 (ls := [some (.inr (.inr (some a0)))]) hY39 (Nat.le_of_ble_eq_true rfl) (by rfl)) ?_
  refine Eq.trans (li_aload_n d39_0 (by rfl)) ?_
  refine Eq.trans (li_aload_n d39_1 (by rfl)) ?_
  refine Eq.trans (li_geti d39_2 fa_6_18 h0 rfl) ?_
  refine Eq.trans (li_iconst d39_5 ic_n1) ?_
  refine Eq.trans (li_icmp_ne (t := 16) d39_6 (by rfl)) ?_
  refine lt_ite (fun c1 => ?_) (fun c1 => ?_)
  · refine Eq.trans (li_aload_n d39_16 (by rfl)) ?_
    refine Eq.trans (li_geti d39_17 fa_6_18 h0 rfl) ?_
    refine Eq.trans (li_puti d39_20 fa_6_18 h0 rfl rfl) ?_
    exact li_vret d39_23 rfl
  · refine Eq.trans (li_aload_n d39_9 (by rfl)) ?_
    refine Eq.trans (li_geti d39_10 fa_6_22 h0 rfl) ?_
    refine Eq.trans (li_goto (t := 20) d39_13 (by rfl)) ?_
    refine Eq.trans (li_puti d39_20 fa_6_18 h0 rfl rfl) ?_
    exact li_vret d39_23 rfl
/-! TransitSeals.digitsOf(I)I -/
theorem d40_0 : decode Y40.2.1 0 = .ok (.iload_n 0, 1) := by decide +kernel
theorem d40_1 : decode Y40.2.1 1 = .ok (.bipush 10, 2) := by decide +kernel
theorem d40_3 : decode Y40.2.1 3 = .ok (.if_icmp .ge 5, 3) := by decide +kernel
theorem d40_6 : decode Y40.2.1 6 = .ok (.iconst 1, 1) := by decide +kernel
theorem d40_7 : decode Y40.2.1 7 = .ok (.ireturn, 1) := by decide +kernel
theorem d40_8 : decode Y40.2.1 8 = .ok (.iload_n 0, 1) := by decide +kernel
theorem d40_9 : decode Y40.2.1 9 = .ok (.bipush 100, 2) := by decide +kernel
theorem d40_11 : decode Y40.2.1 11 = .ok (.if_icmp .ge 7, 3) := by decide +kernel
theorem d40_14 : decode Y40.2.1 14 = .ok (.iconst 2, 1) := by decide +kernel
theorem d40_15 : decode Y40.2.1 15 = .ok (.goto 4, 3) := by decide +kernel
theorem d40_18 : decode Y40.2.1 18 = .ok (.iconst 3, 1) := by decide +kernel
theorem d40_19 : decode Y40.2.1 19 = .ok (.ireturn, 1) := by decide +kernel
theorem E40 (d : Nat) (x0 : Int32)  (m : lt_m) : lt_ev (d + 1) 40 [.inl x0] m = if (10 : Int32) ≤ x0 then (if (100 : Int32) ≤ x0 then (some (some (.inl (3 : Int32)), m)) else (some (some (.inl (2 : Int32)), m))) else (some (some (.inl (1 : Int32)), m)) := by
  refine Eq.trans (lt_enter2 (ls := [some (.inl x0)]) hY40 (Nat.le_of_ble_eq_true rfl) (by rfl)) ?_
  refine Eq.trans (li_iload_n d40_0 (by rfl)) ?_
  refine Eq.trans (li_bipush d40_1 bi_10) ?_
  refine Eq.trans (li_icmp_ge (t := 8) d40_3 (by rfl)) ?_
  refine lt_ite (fun c1 => ?_) (fun c1 => ?_)
  · refine Eq.trans (li_iload_n d40_8 (by rfl)) ?_
    refine Eq.trans (li_bipush d40_9 bi_100) ?_
    refine Eq.trans (li_icmp_ge (t := 18) d40_11 (by rfl)) ?_
    refine lt_ite (fun c2 => ?_) (fun c2 => ?_)
    · refine Eq.trans (li_iconst d40_18 ic_3) ?_
      exact li_iret d40_19 rfl
    · refine Eq.trans (li_iconst d40_14 ic_2) ?_
      refine Eq.trans (li_goto (t := 19) d40_15 (by rfl)) ?_
      exact li_iret d40_19 rfl
  · refine Eq.trans (li_iconst d40_6 ic_1) ?_
    exact li_iret d40_7 rfl
/-! TransitSeals$Reader.refuseLast()V -/
theorem d41_0 : decode Y41.2.1 0 = .ok (.aload_n 0, 1) := by decide +kernel
theorem d41_1 : decode Y41.2.1 1 = .ok (.aload_n 0, 1) := by decide +kernel
theorem d41_2 : decode Y41.2.1 2 = .ok (.getfield 18, 3) := by decide +kernel
theorem d41_5 : decode Y41.2.1 5 = .ok (.iconst (-1), 1) := by decide +kernel
theorem d41_6 : decode Y41.2.1 6 = .ok (.if_icmp .ne 12, 3) := by decide +kernel
theorem d41_9 : decode Y41.2.1 9 = .ok (.aload_n 0, 1) := by decide +kernel
theorem d41_10 : decode Y41.2.1 10 = .ok (.getfield 22, 3) := by decide +kernel
theorem d41_13 : decode Y41.2.1 13 = .ok (.iconst 1, 1) := by decide +kernel
theorem d41_14 : decode Y41.2.1 14 = .ok (.isub, 1) := by decide +kernel
theorem d41_15 : decode Y41.2.1 15 = .ok (.goto 7, 3) := by decide +kernel
theorem d41_18 : decode Y41.2.1 18 = .ok (.aload_n 0, 1) := by decide +kernel
theorem d41_19 : decode Y41.2.1 19 = .ok (.getfield 18, 3) := by decide +kernel
theorem d41_22 : decode Y41.2.1 22 = .ok (.putfield 18, 3) := by decide +kernel
theorem d41_25 : decode Y41.2.1 25 = .ok (.return_, 1) := by decide +kernel
theorem E41 (d : Nat) (a0 : Nat) (h0 : ts_sh a0 = (0, 6)) (m : lt_m) : lt_ev (d + 1) 41 [.inr (.inr (some a0))] m = if ¬ (m.1 a0 2) = (-1 : Int32) then (some (none, (lm_i m a0 2 (m.1 a0 2)))) else (some (none, (lm_i m a0 2 ((m.1 a0 1) - (1 : Int32))))) := by
  refine Eq.trans (lt_enter2 (ls := [some (.inr (.inr (some a0)))]) hY41 (Nat.le_of_ble_eq_true rfl) (by rfl)) ?_
  refine Eq.trans (li_aload_n d41_0 (by rfl)) ?_
  refine Eq.trans (li_aload_n d41_1 (by rfl)) ?_
  refine Eq.trans (li_geti d41_2 fa_6_18 h0 rfl) ?_
  refine Eq.trans (li_iconst d41_5 ic_n1) ?_
  refine Eq.trans (li_icmp_ne (t := 18) d41_6 (by rfl)) ?_
  refine lt_ite (fun c1 => ?_) (fun c1 => ?_)
  · refine Eq.trans (li_aload_n d41_18 (by rfl)) ?_
    refine Eq.trans (li_geti d41_19 fa_6_18 h0 rfl) ?_
    refine Eq.trans (li_puti d41_22 fa_6_18 h0 rfl rfl) ?_
    exact li_vret d41_25 rfl
  · refine Eq.trans (li_aload_n d41_9 (by rfl)) ?_
    refine Eq.trans (li_geti d41_10 fa_6_22 h0 rfl) ?_
    refine Eq.trans (li_iconst d41_13 ic_1) ?_
    refine Eq.trans (li_isub d41_14) ?_
    refine Eq.trans (li_goto (t := 22) d41_15 (by rfl)) ?_
    refine Eq.trans (li_puti d41_22 fa_6_18 h0 rfl rfl) ?_
    exact li_vret d41_25 rfl
/-! TransitSeals$Reader.needs(C)V -/
theorem d42_0 : decode Y42.2.1 0 = .ok (.aload_n 0, 1) := by decide +kernel
theorem d42_1 : decode Y42.2.1 1 = .ok (.iload_n 1, 1) := by decide +kernel
theorem d42_2 : decode Y42.2.1 2 = .ok (.invokevirtual 33, 3) := by decide +kernel
theorem d42_5 : decode Y42.2.1 5 = .ok (.ifCond .ne 7, 3) := by decide +kernel
theorem d42_8 : decode Y42.2.1 8 = .ok (.aload_n 0, 1) := by decide +kernel
theorem d42_9 : decode Y42.2.1 9 = .ok (.invokevirtual 37, 3) := by decide +kernel
theorem d42_12 : decode Y42.2.1 12 = .ok (.return_, 1) := by decide +kernel
theorem E42 (d : Nat) (a0 : Nat) (x1 : Int32) (h0 : ts_sh a0 = (0, 6)) (m : lt_m) : lt_ev (d + 1) 42 [.inr (.inr (some a0)), .inl x1] m = lt_cI (lt_ev d 43 [.inr (.inr (some a0)), .inl x1] m) (fun v1 m1 => (if ¬ v1 = 0 then (some (none, m1)) else (lt_cV (lt_ev d 39 [.inr (.inr (some a0))] m1) (fun m2 => (some (none, m2)))))) := by
  refine Eq.trans (lt_enter2 (ls := [some (.inr (.inr (some a0))), some (.inl x1)]) hY42 (Nat.le_of_ble_eq_true rfl) (by rfl)) ?_
  refine Eq.trans (li_aload_n d42_0 (by rfl)) ?_
  refine Eq.trans (li_iload_n d42_1 (by rfl)) ?_
  refine Eq.trans (li_ivI d42_2 ca_6_33 kd_43 kl_43 (by rfl) (by rfl) h0 (Nat.le_of_ble_eq_true rfl) (Nat.le_of_ble_eq_true rfl)) ?_
  refine lt_cI_c (fun v1 m1 => ?_)
  refine Eq.trans (li_if_ne (t := 12) d42_5 (by rfl)) ?_
  refine lt_ite (fun c1 => ?_) (fun c1 => ?_)
  · exact li_vret d42_12 rfl
  · refine Eq.trans (li_aload_n d42_8 (by rfl)) ?_
    refine Eq.trans (li_ivV d42_9 ca_6_37 kd_39 kl_39 (by rfl) (by rfl) h0 (Nat.le_of_ble_eq_true rfl) (Nat.le_of_ble_eq_true rfl)) ?_
    refine lt_cV_c (fun m2 => ?_)
    exact li_vret d42_12 rfl
/-! TransitSeals$Reader.takes(C)Z -/
theorem d43_0 : decode Y43.2.1 0 = .ok (.aload_n 0, 1) := by decide +kernel
theorem d43_1 : decode Y43.2.1 1 = .ok (.getfield 18, 3) := by decide +kernel
theorem d43_4 : decode Y43.2.1 4 = .ok (.iconst (-1), 1) := by decide +kernel
theorem d43_5 : decode Y43.2.1 5 = .ok (.if_icmp .ne 18, 3) := by decide +kernel
theorem d43_8 : decode Y43.2.1 8 = .ok (.aload_n 0, 1) := by decide +kernel
theorem d43_9 : decode Y43.2.1 9 = .ok (.getfield 12, 3) := by decide +kernel
theorem d43_12 : decode Y43.2.1 12 = .ok (.aload_n 0, 1) := by decide +kernel
theorem d43_13 : decode Y43.2.1 13 = .ok (.getfield 22, 3) := by decide +kernel
theorem d43_16 : decode Y43.2.1 16 = .ok (.invokevirtual 29, 3) := by decide +kernel
theorem d43_19 : decode Y43.2.1 19 = .ok (.iload_n 1, 1) := by decide +kernel
theorem d43_20 : decode Y43.2.1 20 = .ok (.if_icmp .eq 5, 3) := by decide +kernel
theorem d43_23 : decode Y43.2.1 23 = .ok (.iconst 0, 1) := by decide +kernel
theorem d43_24 : decode Y43.2.1 24 = .ok (.ireturn, 1) := by decide +kernel
theorem d43_25 : decode Y43.2.1 25 = .ok (.aload_n 0, 1) := by decide +kernel
theorem d43_26 : decode Y43.2.1 26 = .ok (.dup, 1) := by decide +kernel
theorem d43_27 : decode Y43.2.1 27 = .ok (.getfield 22, 3) := by decide +kernel
theorem d43_30 : decode Y43.2.1 30 = .ok (.iconst 1, 1) := by decide +kernel
theorem d43_31 : decode Y43.2.1 31 = .ok (.iadd, 1) := by decide +kernel
theorem d43_32 : decode Y43.2.1 32 = .ok (.putfield 22, 3) := by decide +kernel
theorem d43_35 : decode Y43.2.1 35 = .ok (.iconst 1, 1) := by decide +kernel
theorem d43_36 : decode Y43.2.1 36 = .ok (.ireturn, 1) := by decide +kernel
theorem E43 (d : Nat) (a0 : Nat) (x1 : Int32) (h0 : ts_sh a0 = (0, 6)) (m : lt_m) : lt_ev (d + 1) 43 [.inr (.inr (some a0)), .inl x1] m = if ¬ (m.1 a0 2) = (-1 : Int32) then (some (some (.inl (0 : Int32)), m)) else (lt_cI (lt_ev d 36 [.inr (.inr (some (a0 + 1))), .inl (m.1 a0 1)] m) (fun v1 m1 => (if v1 = x1 then (some (some (.inl (1 : Int32)), (lm_i m1 a0 1 ((m1.1 a0 1) + (1 : Int32))))) else (some (some (.inl (0 : Int32)), m1))))) := by
  refine Eq.trans (lt_enter2 (ls := [some (.inr (.inr (some a0))), some (.inl x1)]) hY43 (Nat.le_of_ble_eq_true rfl) (by rfl)) ?_
  refine Eq.trans (li_aload_n d43_0 (by rfl)) ?_
  refine Eq.trans (li_geti d43_1 fa_6_18 h0 rfl) ?_
  refine Eq.trans (li_iconst d43_4 ic_n1) ?_
  refine Eq.trans (li_icmp_ne (t := 23) d43_5 (by rfl)) ?_
  refine lt_ite (fun c1 => ?_) (fun c1 => ?_)
  · refine Eq.trans (li_iconst d43_23 ic_0) ?_
    exact li_zret d43_24 rfl (by decide)
  · refine Eq.trans (li_aload_n d43_8 (by rfl)) ?_
    refine Eq.trans (li_getr d43_9 fa_6_12 h0 rfl rfl rfl (by decide)) ?_
    refine Eq.trans (li_aload_n d43_12 (by rfl)) ?_
    refine Eq.trans (li_geti d43_13 fa_6_22 h0 rfl) ?_
    refine Eq.trans (li_ivI d43_16 ca_6_29 kd_36 kl_36 (by rfl) (by rfl) (sf_of h0 0 (by decide) (by decide)) (Nat.le_of_ble_eq_true rfl) (Nat.le_of_ble_eq_true rfl)) ?_
    refine lt_cI_c (fun v1 m1 => ?_)
    refine Eq.trans (li_iload_n d43_19 (by rfl)) ?_
    refine Eq.trans (li_icmp_eq (t := 25) d43_20 (by rfl)) ?_
    refine lt_ite (fun c2 => ?_) (fun c2 => ?_)
    · refine Eq.trans (li_aload_n d43_25 (by rfl)) ?_
      refine Eq.trans (li_dup d43_26 rfl) ?_
      refine Eq.trans (li_geti d43_27 fa_6_22 h0 rfl) ?_
      refine Eq.trans (li_iconst d43_30 ic_1) ?_
      refine Eq.trans (li_iadd d43_31) ?_
      refine Eq.trans (li_puti d43_32 fa_6_22 h0 rfl rfl) ?_
      refine Eq.trans (li_iconst d43_35 ic_1) ?_
      exact li_zret d43_36 rfl (by decide)
    · refine Eq.trans (li_iconst d43_23 ic_0) ?_
      exact li_zret d43_24 rfl (by decide)
/-! TransitSeals$Net.readRoads(LTransitSeals$Reader;)V -/
theorem d44_0 : decode Y44.2.1 0 = .ok (.aload_n 1, 1) := by decide +kernel
theorem d44_1 : decode Y44.2.1 1 = .ok (.invokevirtual 89, 3) := by decide +kernel
theorem d44_4 : decode Y44.2.1 4 = .ok (.ifCond .ne 23, 3) := by decide +kernel
theorem d44_7 : decode Y44.2.1 7 = .ok (.aload_n 1, 1) := by decide +kernel
theorem d44_8 : decode Y44.2.1 8 = .ok (.invokevirtual 118, 3) := by decide +kernel
theorem d44_11 : decode Y44.2.1 11 = .ok (.ifCond .ne 16, 3) := by decide +kernel
theorem d44_14 : decode Y44.2.1 14 = .ok (.aload_n 1, 1) := by decide +kernel
theorem d44_15 : decode Y44.2.1 15 = .ok (.bipush 124, 2) := by decide +kernel
theorem d44_17 : decode Y44.2.1 17 = .ok (.invokevirtual 121, 3) := by decide +kernel
theorem d44_20 : decode Y44.2.1 20 = .ok (.ifCond .ne 7, 3) := by decide +kernel
theorem d44_23 : decode Y44.2.1 23 = .ok (.iconst 1, 1) := by decide +kernel
theorem d44_24 : decode Y44.2.1 24 = .ok (.goto 4, 3) := by decide +kernel
theorem d44_27 : decode Y44.2.1 27 = .ok (.iconst 0, 1) := by decide +kernel
theorem d44_28 : decode Y44.2.1 28 = .ok (.istore_n 2, 1) := by decide +kernel
theorem d44_29 : decode Y44.2.1 29 = .ok (.iload_n 2, 1) := by decide +kernel
theorem d44_30 : decode Y44.2.1 30 = .ok (.ifCond .eq 54, 3) := by decide +kernel
theorem d44_33 : decode Y44.2.1 33 = .ok (.aload_n 0, 1) := by decide +kernel
theorem d44_34 : decode Y44.2.1 34 = .ok (.getfield 93, 3) := by decide +kernel
theorem d44_37 : decode Y44.2.1 37 = .ok (.bipush 40, 2) := by decide +kernel
theorem d44_39 : decode Y44.2.1 39 = .ok (.if_icmp .ge 45, 3) := by decide +kernel
theorem d44_42 : decode Y44.2.1 42 = .ok (.aload_n 0, 1) := by decide +kernel
theorem d44_43 : decode Y44.2.1 43 = .ok (.aload_n 1, 1) := by decide +kernel
theorem d44_44 : decode Y44.2.1 44 = .ok (.invokevirtual 125, 3) := by decide +kernel
theorem d44_47 : decode Y44.2.1 47 = .ok (.aload_n 0, 1) := by decide +kernel
theorem d44_48 : decode Y44.2.1 48 = .ok (.dup, 1) := by decide +kernel
theorem d44_49 : decode Y44.2.1 49 = .ok (.getfield 93, 3) := by decide +kernel
theorem d44_52 : decode Y44.2.1 52 = .ok (.iconst 1, 1) := by decide +kernel
theorem d44_53 : decode Y44.2.1 53 = .ok (.iadd, 1) := by decide +kernel
theorem d44_54 : decode Y44.2.1 54 = .ok (.putfield 93, 3) := by decide +kernel
theorem d44_57 : decode Y44.2.1 57 = .ok (.aload_n 0, 1) := by decide +kernel
theorem d44_58 : decode Y44.2.1 58 = .ok (.getfield 93, 3) := by decide +kernel
theorem d44_61 : decode Y44.2.1 61 = .ok (.bipush 40, 2) := by decide +kernel
theorem d44_63 : decode Y44.2.1 63 = .ok (.if_icmp .ge 16, 3) := by decide +kernel
theorem d44_66 : decode Y44.2.1 66 = .ok (.aload_n 1, 1) := by decide +kernel
theorem d44_67 : decode Y44.2.1 67 = .ok (.bipush 44, 2) := by decide +kernel
theorem d44_69 : decode Y44.2.1 69 = .ok (.invokevirtual 128, 3) := by decide +kernel
theorem d44_72 : decode Y44.2.1 72 = .ok (.ifCond .eq 7, 3) := by decide +kernel
theorem d44_75 : decode Y44.2.1 75 = .ok (.iconst 1, 1) := by decide +kernel
theorem d44_76 : decode Y44.2.1 76 = .ok (.goto 4, 3) := by decide +kernel
theorem d44_79 : decode Y44.2.1 79 = .ok (.iconst 0, 1) := by decide +kernel
theorem d44_80 : decode Y44.2.1 80 = .ok (.istore_n 2, 1) := by decide +kernel
theorem d44_81 : decode Y44.2.1 81 = .ok (.goto (-52), 3) := by decide +kernel
theorem d44_84 : decode Y44.2.1 84 = .ok (.return_, 1) := by decide +kernel
noncomputable def L44_29 (d : Nat) (a0 : Nat) (a1 : Nat) (x2 : Int32) (m : lt_m) : Option lt_r := lt_run d Y44 29 [some (.inr (.inr (some a0))), some (.inr (.inr (some a1))), some (.inl x2)] [] m
theorem E44 (d : Nat) (a0 : Nat) (a1 : Nat) (h0 : ts_sh a0 = (0, 5)) (h1 : ts_sh a1 = (0, 6)) (m : lt_m) : lt_ev (d + 1) 44 [.inr (.inr (some a0)), .inr (.inr (some a1))] m = lt_cI (lt_ev d 38 [.inr (.inr (some a1))] m) (fun v1 m1 => (if ¬ v1 = 0 then (L44_29 d a0 a1 (0 : Int32) m1) else (lt_cI (lt_ev d 45 [.inr (.inr (some a1))] m1) (fun v2 m2 => (if ¬ v2 = 0 then (L44_29 d a0 a1 (0 : Int32) m2) else (lt_cI (lt_ev d 46 [.inr (.inr (some a1)), .inl (124 : Int32)] m2) (fun v3 m3 => (if ¬ v3 = 0 then (L44_29 d a0 a1 (0 : Int32) m3) else (L44_29 d a0 a1 (1 : Int32) m3))))))))) := by
  refine Eq.trans (lt_enter2 (ls := [some (.inr (.inr (some a0))), some (.inr (.inr (some a1))), none]) hY44 (Nat.le_of_ble_eq_true rfl) (by rfl)) ?_
  refine Eq.trans (li_aload_n d44_0 (by rfl)) ?_
  refine Eq.trans (li_ivI d44_1 ca_5_89 kd_38 kl_38 (by rfl) (by rfl) h1 (Nat.le_of_ble_eq_true rfl) (Nat.le_of_ble_eq_true rfl)) ?_
  refine lt_cI_c (fun v1 m1 => ?_)
  refine Eq.trans (li_if_ne (t := 27) d44_4 (by rfl)) ?_
  refine lt_ite (fun c1 => ?_) (fun c1 => ?_)
  · refine Eq.trans (li_iconst d44_27 ic_0) ?_
    refine Eq.trans (li_istore_n (ls' := [some (.inr (.inr (some a0))), some (.inr (.inr (some a1))), some (.inl (0 : Int32))]) d44_28 (by decide) (by rfl)) ?_
    rfl
  · refine Eq.trans (li_aload_n d44_7 (by rfl)) ?_
    refine Eq.trans (li_ivI d44_8 ca_5_118 kd_45 kl_45 (by rfl) (by rfl) h1 (Nat.le_of_ble_eq_true rfl) (Nat.le_of_ble_eq_true rfl)) ?_
    refine lt_cI_c (fun v2 m2 => ?_)
    refine Eq.trans (li_if_ne (t := 27) d44_11 (by rfl)) ?_
    refine lt_ite (fun c2 => ?_) (fun c2 => ?_)
    · refine Eq.trans (li_iconst d44_27 ic_0) ?_
      refine Eq.trans (li_istore_n (ls' := [some (.inr (.inr (some a0))), some (.inr (.inr (some a1))), some (.inl (0 : Int32))]) d44_28 (by decide) (by rfl)) ?_
      rfl
    · refine Eq.trans (li_aload_n d44_14 (by rfl)) ?_
      refine Eq.trans (li_bipush d44_15 bi_124) ?_
      refine Eq.trans (li_ivI d44_17 ca_5_121 kd_46 kl_46 (by rfl) (by rfl) h1 (Nat.le_of_ble_eq_true rfl) (Nat.le_of_ble_eq_true rfl)) ?_
      refine lt_cI_c (fun v3 m3 => ?_)
      refine Eq.trans (li_if_ne (t := 27) d44_20 (by rfl)) ?_
      refine lt_ite (fun c3 => ?_) (fun c3 => ?_)
      · refine Eq.trans (li_iconst d44_27 ic_0) ?_
        refine Eq.trans (li_istore_n (ls' := [some (.inr (.inr (some a0))), some (.inr (.inr (some a1))), some (.inl (0 : Int32))]) d44_28 (by decide) (by rfl)) ?_
        rfl
      · refine Eq.trans (li_iconst d44_23 ic_1) ?_
        refine Eq.trans (li_goto (t := 28) d44_24 (by rfl)) ?_
        refine Eq.trans (li_istore_n (ls' := [some (.inr (.inr (some a0))), some (.inr (.inr (some a1))), some (.inl (1 : Int32))]) d44_28 (by decide) (by rfl)) ?_
        rfl
theorem E44_29 (d : Nat) (a0 : Nat) (a1 : Nat) (x2 : Int32) (h0 : ts_sh a0 = (0, 5)) (h1 : ts_sh a1 = (0, 6)) (m : lt_m) : L44_29 d a0 a1 x2 m = if x2 = 0 then (some (none, m)) else (if (40 : Int32) ≤ (m.1 a0 7) then (some (none, m)) else (lt_cV (lt_ev d 47 [.inr (.inr (some a0)), .inr (.inr (some a1))] m) (fun m1 => (if (40 : Int32) ≤ ((lm_i m1 a0 7 ((m1.1 a0 7) + (1 : Int32))).1 a0 7) then (L44_29 d a0 a1 (0 : Int32) (lm_i m1 a0 7 ((m1.1 a0 7) + (1 : Int32)))) else (lt_cI (lt_ev d 43 [.inr (.inr (some a1)), .inl (44 : Int32)] (lm_i m1 a0 7 ((m1.1 a0 7) + (1 : Int32)))) (fun v1 m2 => (if v1 = 0 then (L44_29 d a0 a1 (0 : Int32) m2) else (L44_29 d a0 a1 (1 : Int32) m2)))))))) := by
  show lt_run d Y44 29 [some (.inr (.inr (some a0))), some (.inr (.inr (some a1))), some (.inl x2)] [] m = _
  refine Eq.trans (li_iload_n d44_29 (by rfl)) ?_
  refine Eq.trans (li_if_eq (t := 84) d44_30 (by rfl)) ?_
  refine lt_ite (fun c1 => ?_) (fun c1 => ?_)
  · exact li_vret d44_84 rfl
  · refine Eq.trans (li_aload_n d44_33 (by rfl)) ?_
    refine Eq.trans (li_geti d44_34 fa_5_93 h0 rfl) ?_
    refine Eq.trans (li_bipush d44_37 bi_40) ?_
    refine Eq.trans (li_icmp_ge (t := 84) d44_39 (by rfl)) ?_
    refine lt_ite (fun c2 => ?_) (fun c2 => ?_)
    · exact li_vret d44_84 rfl
    · refine Eq.trans (li_aload_n d44_42 (by rfl)) ?_
      refine Eq.trans (li_aload_n d44_43 (by rfl)) ?_
      refine Eq.trans (li_ivV d44_44 ca_5_125 kd_47 kl_47 (by rfl) (by rfl) h0 (Nat.le_of_ble_eq_true rfl) (Nat.le_of_ble_eq_true rfl)) ?_
      refine lt_cV_c (fun m1 => ?_)
      refine Eq.trans (li_aload_n d44_47 (by rfl)) ?_
      refine Eq.trans (li_dup d44_48 rfl) ?_
      refine Eq.trans (li_geti d44_49 fa_5_93 h0 rfl) ?_
      refine Eq.trans (li_iconst d44_52 ic_1) ?_
      refine Eq.trans (li_iadd d44_53) ?_
      refine Eq.trans (li_puti d44_54 fa_5_93 h0 rfl rfl) ?_
      refine Eq.trans (li_aload_n d44_57 (by rfl)) ?_
      refine Eq.trans (li_geti d44_58 fa_5_93 h0 rfl) ?_
      refine Eq.trans (li_bipush d44_61 bi_40) ?_
      refine Eq.trans (li_icmp_ge (t := 79) d44_63 (by rfl)) ?_
      refine lt_ite (fun c3 => ?_) (fun c3 => ?_)
      · refine Eq.trans (li_iconst d44_79 ic_0) ?_
        refine Eq.trans (li_istore_n (ls' := [some (.inr (.inr (some a0))), some (.inr (.inr (some a1))), some (.inl (0 : Int32))]) d44_80 (by decide) (by rfl)) ?_
        refine Eq.trans (li_goto (t := 29) d44_81 (by rfl)) ?_
        rfl
      · refine Eq.trans (li_aload_n d44_66 (by rfl)) ?_
        refine Eq.trans (li_bipush d44_67 bi_44) ?_
        refine Eq.trans (li_ivI d44_69 ca_5_128 kd_43 kl_43 (by rfl) (by rfl) h1 (Nat.le_of_ble_eq_true rfl) (Nat.le_of_ble_eq_true rfl)) ?_
        refine lt_cI_c (fun v1 m2 => ?_)
        refine Eq.trans (li_if_eq (t := 79) d44_72 (by rfl)) ?_
        refine lt_ite (fun c4 => ?_) (fun c4 => ?_)
        · refine Eq.trans (li_iconst d44_79 ic_0) ?_
          refine Eq.trans (li_istore_n (ls' := [some (.inr (.inr (some a0))), some (.inr (.inr (some a1))), some (.inl (0 : Int32))]) d44_80 (by decide) (by rfl)) ?_
          refine Eq.trans (li_goto (t := 29) d44_81 (by rfl)) ?_
          rfl
        · refine Eq.trans (li_iconst d44_75 ic_1) ?_
          refine Eq.trans (li_goto (t := 80) d44_76 (by rfl)) ?_
          refine Eq.trans (li_istore_n (ls' := [some (.inr (.inr (some a0))), some (.inr (.inr (some a1))), some (.inl (1 : Int32))]) d44_80 (by decide) (by rfl)) ?_
          refine Eq.trans (li_goto (t := 29) d44_81 (by rfl)) ?_
          rfl
/-! TransitSeals$Reader.atEnd()Z -/
theorem d45_0 : decode Y45.2.1 0 = .ok (.aload_n 0, 1) := by decide +kernel
theorem d45_1 : decode Y45.2.1 1 = .ok (.getfield 22, 3) := by decide +kernel
theorem d45_4 : decode Y45.2.1 4 = .ok (.aload_n 0, 1) := by decide +kernel
theorem d45_5 : decode Y45.2.1 5 = .ok (.getfield 12, 3) := by decide +kernel
theorem d45_8 : decode Y45.2.1 8 = .ok (.invokevirtual 25, 3) := by decide +kernel
theorem d45_11 : decode Y45.2.1 11 = .ok (.if_icmp .lt 7, 3) := by decide +kernel
theorem d45_14 : decode Y45.2.1 14 = .ok (.iconst 1, 1) := by decide +kernel
theorem d45_15 : decode Y45.2.1 15 = .ok (.goto 4, 3) := by decide +kernel
theorem d45_18 : decode Y45.2.1 18 = .ok (.iconst 0, 1) := by decide +kernel
theorem d45_19 : decode Y45.2.1 19 = .ok (.ireturn, 1) := by decide +kernel
theorem E45 (d : Nat) (a0 : Nat) (h0 : ts_sh a0 = (0, 6)) (m : lt_m) : lt_ev (d + 1) 45 [.inr (.inr (some a0))] m = lt_cI (lt_ev d 27 [.inr (.inr (some (a0 + 1)))] m) (fun v1 m1 => (if (m.1 a0 1) < v1 then (some (some (.inl (0 : Int32)), m1)) else (some (some (.inl (1 : Int32)), m1)))) := by
  refine Eq.trans (lt_enter2 (ls := [some (.inr (.inr (some a0)))]) hY45 (Nat.le_of_ble_eq_true rfl) (by rfl)) ?_
  refine Eq.trans (li_aload_n d45_0 (by rfl)) ?_
  refine Eq.trans (li_geti d45_1 fa_6_22 h0 rfl) ?_
  refine Eq.trans (li_aload_n d45_4 (by rfl)) ?_
  refine Eq.trans (li_getr d45_5 fa_6_12 h0 rfl rfl rfl (by decide)) ?_
  refine Eq.trans (li_ivI d45_8 ca_6_25 kd_27 kl_27 (by rfl) (by rfl) (sf_of h0 0 (by decide) (by decide)) (Nat.le_of_ble_eq_true rfl) (Nat.le_of_ble_eq_true rfl)) ?_
  refine lt_cI_c (fun v1 m1 => ?_)
  refine Eq.trans (li_icmp_lt (t := 18) d45_11 (by rfl)) ?_
  refine lt_ite (fun c1 => ?_) (fun c1 => ?_)
  · refine Eq.trans (li_iconst d45_18 ic_0) ?_
    exact li_zret d45_19 rfl (by decide)
  · refine Eq.trans (li_iconst d45_14 ic_1) ?_
    refine Eq.trans (li_goto (t := 19) d45_15 (by rfl)) ?_
    exact li_zret d45_19 rfl (by decide)
/-! TransitSeals$Reader.sees(C)Z -/
theorem d46_0 : decode Y46.2.1 0 = .ok (.aload_n 0, 1) := by decide +kernel
theorem d46_1 : decode Y46.2.1 1 = .ok (.getfield 12, 3) := by decide +kernel
theorem d46_4 : decode Y46.2.1 4 = .ok (.aload_n 0, 1) := by decide +kernel
theorem d46_5 : decode Y46.2.1 5 = .ok (.getfield 22, 3) := by decide +kernel
theorem d46_8 : decode Y46.2.1 8 = .ok (.invokevirtual 29, 3) := by decide +kernel
theorem d46_11 : decode Y46.2.1 11 = .ok (.iload_n 1, 1) := by decide +kernel
theorem d46_12 : decode Y46.2.1 12 = .ok (.if_icmp .ne 7, 3) := by decide +kernel
theorem d46_15 : decode Y46.2.1 15 = .ok (.iconst 1, 1) := by decide +kernel
theorem d46_16 : decode Y46.2.1 16 = .ok (.goto 4, 3) := by decide +kernel
theorem d46_19 : decode Y46.2.1 19 = .ok (.iconst 0, 1) := by decide +kernel
theorem d46_20 : decode Y46.2.1 20 = .ok (.ireturn, 1) := by decide +kernel
theorem E46 (d : Nat) (a0 : Nat) (x1 : Int32) (h0 : ts_sh a0 = (0, 6)) (m : lt_m) : lt_ev (d + 1) 46 [.inr (.inr (some a0)), .inl x1] m = lt_cI (lt_ev d 36 [.inr (.inr (some (a0 + 1))), .inl (m.1 a0 1)] m) (fun v1 m1 => (if ¬ v1 = x1 then (some (some (.inl (0 : Int32)), m1)) else (some (some (.inl (1 : Int32)), m1)))) := by
  refine Eq.trans (lt_enter2 (ls := [some (.inr (.inr (some a0))), some (.inl x1)]) hY46 (Nat.le_of_ble_eq_true rfl) (by rfl)) ?_
  refine Eq.trans (li_aload_n d46_0 (by rfl)) ?_
  refine Eq.trans (li_getr d46_1 fa_6_12 h0 rfl rfl rfl (by decide)) ?_
  refine Eq.trans (li_aload_n d46_4 (by rfl)) ?_
  refine Eq.trans (li_geti d46_5 fa_6_22 h0 rfl) ?_
  refine Eq.trans (li_ivI d46_8 ca_6_29 kd_36 kl_36 (by rfl) (by rfl) (sf_of h0 0 (by decide) (by decide)) (Nat.le_of_ble_eq_true rfl) (Nat.le_of_ble_eq_true rfl)) ?_
  refine lt_cI_c (fun v1 m1 => ?_)
  refine Eq.trans (li_iload_n d46_11 (by rfl)) ?_
  refine Eq.trans (li_icmp_ne (t := 19) d46_12 (by rfl)) ?_
  refine lt_ite (fun c1 => ?_) (fun c1 => ?_)
  · refine Eq.trans (li_iconst d46_19 ic_0) ?_
    exact li_zret d46_20 rfl (by decide)
  · refine Eq.trans (li_iconst d46_15 ic_1) ?_
    refine Eq.trans (li_goto (t := 20) d46_16 (by rfl)) ?_
    exact li_zret d46_20 rfl (by decide)
/-! TransitSeals$Net.readRoad(LTransitSeals$Reader;)V -/
theorem d47_0 : decode Y47.2.1 0 = .ok (.aload_n 1, 1) := by decide +kernel
theorem d47_1 : decode Y47.2.1 1 = .ok (.iconst 0, 1) := by decide +kernel
theorem d47_2 : decode Y47.2.1 2 = .ok (.aload_n 0, 1) := by decide +kernel
theorem d47_3 : decode Y47.2.1 3 = .ok (.getfield 34, 3) := by decide +kernel
theorem d47_6 : decode Y47.2.1 6 = .ok (.iconst 1, 1) := by decide +kernel
theorem d47_7 : decode Y47.2.1 7 = .ok (.isub, 1) := by decide +kernel
theorem d47_8 : decode Y47.2.1 8 = .ok (.invokevirtual 104, 3) := by decide +kernel
theorem d47_11 : decode Y47.2.1 11 = .ok (.istore_n 2, 1) := by decide +kernel
theorem d47_12 : decode Y47.2.1 12 = .ok (.aload_n 1, 1) := by decide +kernel
theorem d47_13 : decode Y47.2.1 13 = .ok (.bipush 45, 2) := by decide +kernel
theorem d47_15 : decode Y47.2.1 15 = .ok (.invokevirtual 114, 3) := by decide +kernel
theorem d47_18 : decode Y47.2.1 18 = .ok (.aload_n 1, 1) := by decide +kernel
theorem d47_19 : decode Y47.2.1 19 = .ok (.iconst 0, 1) := by decide +kernel
theorem d47_20 : decode Y47.2.1 20 = .ok (.aload_n 0, 1) := by decide +kernel
theorem d47_21 : decode Y47.2.1 21 = .ok (.getfield 34, 3) := by decide +kernel
theorem d47_24 : decode Y47.2.1 24 = .ok (.iconst 1, 1) := by decide +kernel
theorem d47_25 : decode Y47.2.1 25 = .ok (.isub, 1) := by decide +kernel
theorem d47_26 : decode Y47.2.1 26 = .ok (.invokevirtual 104, 3) := by decide +kernel
theorem d47_29 : decode Y47.2.1 29 = .ok (.istore_n 3, 1) := by decide +kernel
theorem d47_30 : decode Y47.2.1 30 = .ok (.iload_n 2, 1) := by decide +kernel
theorem d47_31 : decode Y47.2.1 31 = .ok (.iload_n 3, 1) := by decide +kernel
theorem d47_32 : decode Y47.2.1 32 = .ok (.if_icmp .eq 12, 3) := by decide +kernel
theorem d47_35 : decode Y47.2.1 35 = .ok (.aload_n 0, 1) := by decide +kernel
theorem d47_36 : decode Y47.2.1 36 = .ok (.iload_n 2, 1) := by decide +kernel
theorem d47_37 : decode Y47.2.1 37 = .ok (.iload_n 3, 1) := by decide +kernel
theorem d47_38 : decode Y47.2.1 38 = .ok (.invokevirtual 131, 3) := by decide +kernel
theorem d47_41 : decode Y47.2.1 41 = .ok (.ifCond .le 7, 3) := by decide +kernel
theorem d47_44 : decode Y47.2.1 44 = .ok (.aload_n 1, 1) := by decide +kernel
theorem d47_45 : decode Y47.2.1 45 = .ok (.invokevirtual 133, 3) := by decide +kernel
theorem d47_48 : decode Y47.2.1 48 = .ok (.aload_n 1, 1) := by decide +kernel
theorem d47_49 : decode Y47.2.1 49 = .ok (.bipush 58, 2) := by decide +kernel
theorem d47_51 : decode Y47.2.1 51 = .ok (.invokevirtual 114, 3) := by decide +kernel
theorem d47_54 : decode Y47.2.1 54 = .ok (.aload_n 1, 1) := by decide +kernel
theorem d47_55 : decode Y47.2.1 55 = .ok (.iconst 1, 1) := by decide +kernel
theorem d47_56 : decode Y47.2.1 56 = .ok (.bipush 99, 2) := by decide +kernel
theorem d47_58 : decode Y47.2.1 58 = .ok (.invokevirtual 104, 3) := by decide +kernel
theorem d47_61 : decode Y47.2.1 61 = .ok (.istore 4, 2) := by decide +kernel
theorem d47_63 : decode Y47.2.1 63 = .ok (.aload_n 1, 1) := by decide +kernel
theorem d47_64 : decode Y47.2.1 64 = .ok (.invokevirtual 89, 3) := by decide +kernel
theorem d47_67 : decode Y47.2.1 67 = .ok (.ifCond .ne 19, 3) := by decide +kernel
theorem d47_70 : decode Y47.2.1 70 = .ok (.aload_n 0, 1) := by decide +kernel
theorem d47_71 : decode Y47.2.1 71 = .ok (.iload_n 2, 1) := by decide +kernel
theorem d47_72 : decode Y47.2.1 72 = .ok (.iload_n 3, 1) := by decide +kernel
theorem d47_73 : decode Y47.2.1 73 = .ok (.iload 4, 2) := by decide +kernel
theorem d47_75 : decode Y47.2.1 75 = .ok (.invokevirtual 136, 3) := by decide +kernel
theorem d47_78 : decode Y47.2.1 78 = .ok (.aload_n 0, 1) := by decide +kernel
theorem d47_79 : decode Y47.2.1 79 = .ok (.iload_n 3, 1) := by decide +kernel
theorem d47_80 : decode Y47.2.1 80 = .ok (.iload_n 2, 1) := by decide +kernel
theorem d47_81 : decode Y47.2.1 81 = .ok (.iload 4, 2) := by decide +kernel
theorem d47_83 : decode Y47.2.1 83 = .ok (.invokevirtual 136, 3) := by decide +kernel
theorem d47_86 : decode Y47.2.1 86 = .ok (.return_, 1) := by decide +kernel
noncomputable def L47_48 (d : Nat) (a0 : Nat) (a1 : Nat) (x2 : Int32) (x3 : Int32) (m : lt_m) : Option lt_r := lt_run d Y47 48 [some (.inr (.inr (some a0))), some (.inr (.inr (some a1))), some (.inl x2), some (.inl x3), none] [] m
theorem E47 (d : Nat) (a0 : Nat) (a1 : Nat) (h0 : ts_sh a0 = (0, 5)) (h1 : ts_sh a1 = (0, 6)) (m : lt_m) : lt_ev (d + 1) 47 [.inr (.inr (some a0)), .inr (.inr (some a1))] m = lt_cI (lt_ev d 37 [.inr (.inr (some a1)), .inl (0 : Int32), .inl ((m.1 a0 6) - (1 : Int32))] m) (fun v1 m1 => (lt_cV (lt_ev d 42 [.inr (.inr (some a1)), .inl (45 : Int32)] m1) (fun m2 => (lt_cI (lt_ev d 37 [.inr (.inr (some a1)), .inl (0 : Int32), .inl ((m2.1 a0 6) - (1 : Int32))] m2) (fun v2 m3 => (if v1 = v2 then (lt_cV (lt_ev d 41 [.inr (.inr (some a1))] m3) (fun m4 => (L47_48 d a0 a1 v1 v2 m4))) else (lt_cI (lt_ev d 13 [.inr (.inr (some a0)), .inl v1, .inl v2] m3) (fun v3 m5 => (if v3 ≤ 0 then (L47_48 d a0 a1 v1 v2 m5) else (lt_cV (lt_ev d 41 [.inr (.inr (some a1))] m5) (fun m6 => (L47_48 d a0 a1 v1 v2 m6)))))))))))) := by
  refine Eq.trans (lt_enter2 (ls := [some (.inr (.inr (some a0))), some (.inr (.inr (some a1))), none, none, none]) hY47 (Nat.le_of_ble_eq_true rfl) (by rfl)) ?_
  refine Eq.trans (li_aload_n d47_0 (by rfl)) ?_
  refine Eq.trans (li_iconst d47_1 ic_0) ?_
  refine Eq.trans (li_aload_n d47_2 (by rfl)) ?_
  refine Eq.trans (li_geti d47_3 fa_5_34 h0 rfl) ?_
  refine Eq.trans (li_iconst d47_6 ic_1) ?_
  refine Eq.trans (li_isub d47_7) ?_
  refine Eq.trans (li_ivI d47_8 ca_5_104 kd_37 kl_37 (by rfl) (by rfl) h1 (Nat.le_of_ble_eq_true rfl) (Nat.le_of_ble_eq_true rfl)) ?_
  refine lt_cI_c (fun v1 m1 => ?_)
  refine Eq.trans (li_istore_n (ls' := [some (.inr (.inr (some a0))), some (.inr (.inr (some a1))), some (.inl v1), none, none]) d47_11 (by decide) (by rfl)) ?_
  refine Eq.trans (li_aload_n d47_12 (by rfl)) ?_
  refine Eq.trans (li_bipush d47_13 bi_45) ?_
  refine Eq.trans (li_ivV d47_15 ca_5_114 kd_42 kl_42 (by rfl) (by rfl) h1 (Nat.le_of_ble_eq_true rfl) (Nat.le_of_ble_eq_true rfl)) ?_
  refine lt_cV_c (fun m2 => ?_)
  refine Eq.trans (li_aload_n d47_18 (by rfl)) ?_
  refine Eq.trans (li_iconst d47_19 ic_0) ?_
  refine Eq.trans (li_aload_n d47_20 (by rfl)) ?_
  refine Eq.trans (li_geti d47_21 fa_5_34 h0 rfl) ?_
  refine Eq.trans (li_iconst d47_24 ic_1) ?_
  refine Eq.trans (li_isub d47_25) ?_
  refine Eq.trans (li_ivI d47_26 ca_5_104 kd_37 kl_37 (by rfl) (by rfl) h1 (Nat.le_of_ble_eq_true rfl) (Nat.le_of_ble_eq_true rfl)) ?_
  refine lt_cI_c (fun v2 m3 => ?_)
  refine Eq.trans (li_istore_n (ls' := [some (.inr (.inr (some a0))), some (.inr (.inr (some a1))), some (.inl v1), some (.inl v2), none]) d47_29 (by decide) (by rfl)) ?_
  refine Eq.trans (li_iload_n d47_30 (by rfl)) ?_
  refine Eq.trans (li_iload_n d47_31 (by rfl)) ?_
  refine Eq.trans (li_icmp_eq (t := 44) d47_32 (by rfl)) ?_
  refine lt_ite (fun c1 => ?_) (fun c1 => ?_)
  · refine Eq.trans (li_aload_n d47_44 (by rfl)) ?_
    refine Eq.trans (li_ivV d47_45 ca_5_133 kd_41 kl_41 (by rfl) (by rfl) h1 (Nat.le_of_ble_eq_true rfl) (Nat.le_of_ble_eq_true rfl)) ?_
    refine lt_cV_c (fun m4 => ?_)
    rfl
  · refine Eq.trans (li_aload_n d47_35 (by rfl)) ?_
    refine Eq.trans (li_iload_n d47_36 (by rfl)) ?_
    refine Eq.trans (li_iload_n d47_37 (by rfl)) ?_
    refine Eq.trans (li_ivI d47_38 ca_5_131 kd_13 kl_13 (by rfl) (by rfl) h0 (Nat.le_of_ble_eq_true rfl) (Nat.le_of_ble_eq_true rfl)) ?_
    refine lt_cI_c (fun v3 m5 => ?_)
    refine Eq.trans (li_if_le (t := 48) d47_41 (by rfl)) ?_
    refine lt_ite (fun c2 => ?_) (fun c2 => ?_)
    · rfl
    · refine Eq.trans (li_aload_n d47_44 (by rfl)) ?_
      refine Eq.trans (li_ivV d47_45 ca_5_133 kd_41 kl_41 (by rfl) (by rfl) h1 (Nat.le_of_ble_eq_true rfl) (Nat.le_of_ble_eq_true rfl)) ?_
      refine lt_cV_c (fun m6 => ?_)
      rfl
theorem E47_48 (d : Nat) (a0 : Nat) (a1 : Nat) (x2 : Int32) (x3 : Int32) (h0 : ts_sh a0 = (0, 5)) (h1 : ts_sh a1 = (0, 6)) (m : lt_m) : L47_48 d a0 a1 x2 x3 m = lt_cV (lt_ev d 42 [.inr (.inr (some a1)), .inl (58 : Int32)] m) (fun m1 => (lt_cI (lt_ev d 37 [.inr (.inr (some a1)), .inl (1 : Int32), .inl (99 : Int32)] m1) (fun v1 m2 => (lt_cI (lt_ev d 38 [.inr (.inr (some a1))] m2) (fun v2 m3 => (if ¬ v2 = 0 then (some (none, m3)) else (lt_cV (lt_ev d 48 [.inr (.inr (some a0)), .inl x2, .inl x3, .inl v1] m3) (fun m4 => (lt_cV (lt_ev d 48 [.inr (.inr (some a0)), .inl x3, .inl x2, .inl v1] m4) (fun m5 => (some (none, m5)))))))))))) := by
  show lt_run d Y47 48 [some (.inr (.inr (some a0))), some (.inr (.inr (some a1))), some (.inl x2), some (.inl x3), none] [] m = _
  refine Eq.trans (li_aload_n d47_48 (by rfl)) ?_
  refine Eq.trans (li_bipush d47_49 bi_58) ?_
  refine Eq.trans (li_ivV d47_51 ca_5_114 kd_42 kl_42 (by rfl) (by rfl) h1 (Nat.le_of_ble_eq_true rfl) (Nat.le_of_ble_eq_true rfl)) ?_
  refine lt_cV_c (fun m1 => ?_)
  refine Eq.trans (li_aload_n d47_54 (by rfl)) ?_
  refine Eq.trans (li_iconst d47_55 ic_1) ?_
  refine Eq.trans (li_bipush d47_56 bi_99) ?_
  refine Eq.trans (li_ivI d47_58 ca_5_104 kd_37 kl_37 (by rfl) (by rfl) h1 (Nat.le_of_ble_eq_true rfl) (Nat.le_of_ble_eq_true rfl)) ?_
  refine lt_cI_c (fun v1 m2 => ?_)
  refine Eq.trans (li_istore (ls' := [some (.inr (.inr (some a0))), some (.inr (.inr (some a1))), some (.inl x2), some (.inl x3), some (.inl v1)]) d47_61 (by decide) (by rfl)) ?_
  refine Eq.trans (li_aload_n d47_63 (by rfl)) ?_
  refine Eq.trans (li_ivI d47_64 ca_5_89 kd_38 kl_38 (by rfl) (by rfl) h1 (Nat.le_of_ble_eq_true rfl) (Nat.le_of_ble_eq_true rfl)) ?_
  refine lt_cI_c (fun v2 m3 => ?_)
  refine Eq.trans (li_if_ne (t := 86) d47_67 (by rfl)) ?_
  refine lt_ite (fun c1 => ?_) (fun c1 => ?_)
  · exact li_vret d47_86 rfl
  · refine Eq.trans (li_aload_n d47_70 (by rfl)) ?_
    refine Eq.trans (li_iload_n d47_71 (by rfl)) ?_
    refine Eq.trans (li_iload_n d47_72 (by rfl)) ?_
    refine Eq.trans (li_iload d47_73 (by rfl)) ?_
    refine Eq.trans (li_ivV d47_75 ca_5_136 kd_48 kl_48 (by rfl) (by rfl) h0 (Nat.le_of_ble_eq_true rfl) (Nat.le_of_ble_eq_true rfl)) ?_
    refine lt_cV_c (fun m4 => ?_)
    refine Eq.trans (li_aload_n d47_78 (by rfl)) ?_
    refine Eq.trans (li_iload_n d47_79 (by rfl)) ?_
    refine Eq.trans (li_iload_n d47_80 (by rfl)) ?_
    refine Eq.trans (li_iload d47_81 (by rfl)) ?_
    refine Eq.trans (li_ivV d47_83 ca_5_136 kd_48 kl_48 (by rfl) (by rfl) h0 (Nat.le_of_ble_eq_true rfl) (Nat.le_of_ble_eq_true rfl)) ?_
    refine lt_cV_c (fun m5 => ?_)
    exact li_vret d47_86 rfl
/-! TransitSeals$Net.join(III)V -/
theorem d48_0 : decode Y48.2.1 0 = .ok (.aload_n 0, 1) := by decide +kernel
theorem d48_1 : decode Y48.2.1 1 = .ok (.getfield 18, 3) := by decide +kernel
theorem d48_4 : decode Y48.2.1 4 = .ok (.iload_n 1, 1) := by decide +kernel
theorem d48_5 : decode Y48.2.1 5 = .ok (.iload_n 2, 1) := by decide +kernel
theorem d48_6 : decode Y48.2.1 6 = .ok (.invokestatic 63, 3) := by decide +kernel
theorem d48_9 : decode Y48.2.1 9 = .ok (.iload_n 3, 1) := by decide +kernel
theorem d48_10 : decode Y48.2.1 10 = .ok (.invokestatic 107, 3) := by decide +kernel
theorem d48_13 : decode Y48.2.1 13 = .ok (.aload_n 0, 1) := by decide +kernel
theorem d48_14 : decode Y48.2.1 14 = .ok (.getfield 24, 3) := by decide +kernel
theorem d48_17 : decode Y48.2.1 17 = .ok (.iload_n 1, 1) := by decide +kernel
theorem d48_18 : decode Y48.2.1 18 = .ok (.aload_n 0, 1) := by decide +kernel
theorem d48_19 : decode Y48.2.1 19 = .ok (.iload_n 1, 1) := by decide +kernel
theorem d48_20 : decode Y48.2.1 20 = .ok (.invokevirtual 51, 3) := by decide +kernel
theorem d48_23 : decode Y48.2.1 23 = .ok (.iconst 1, 1) := by decide +kernel
theorem d48_24 : decode Y48.2.1 24 = .ok (.iload_n 2, 1) := by decide +kernel
theorem d48_25 : decode Y48.2.1 25 = .ok (.ishl, 1) := by decide +kernel
theorem d48_26 : decode Y48.2.1 26 = .ok (.ior, 1) := by decide +kernel
theorem d48_27 : decode Y48.2.1 27 = .ok (.invokestatic 107, 3) := by decide +kernel
theorem d48_30 : decode Y48.2.1 30 = .ok (.return_, 1) := by decide +kernel
theorem E48 (d : Nat) (a0 : Nat) (x1 : Int32) (x2 : Int32) (x3 : Int32) (h0 : ts_sh a0 = (0, 5)) (m : lt_m) : lt_ev (d + 1) 48 [.inr (.inr (some a0)), .inl x1, .inl x2, .inl x3] m = lt_cI (lt_ev d 15 [.inl x1, .inl x2] m) (fun v1 m1 => (lt_cV (lt_ev d 17 [.inr (.inr (some (a0 + 3))), .inl v1, .inl x3] m1) (fun m2 => (lt_cI (lt_ev d 49 [.inr (.inr (some a0)), .inl x1] m2) (fun v2 m3 => (lt_cV (lt_ev d 17 [.inr (.inr (some (a0 + 5))), .inl x1, .inl (v2 ||| ((1 : Int32) <<< (x2 &&& 31)))] m3) (fun m4 => (some (none, m4))))))))) := by
  refine Eq.trans (lt_enter2 (ls := [some (.inr (.inr (some a0))), some (.inl x1), some (.inl x2), some (.inl x3)]) hY48 (Nat.le_of_ble_eq_true rfl) (by rfl)) ?_
  refine Eq.trans (li_aload_n d48_0 (by rfl)) ?_
  refine Eq.trans (li_getr d48_1 fa_5_18 h0 rfl rfl rfl (by decide)) ?_
  refine Eq.trans (li_iload_n d48_4 (by rfl)) ?_
  refine Eq.trans (li_iload_n d48_5 (by rfl)) ?_
  refine Eq.trans (li_isI d48_6 bi_5_63 ca_5_63 kd_15 (by rfl) (by rfl) (Nat.le_of_ble_eq_true rfl) (Nat.le_of_ble_eq_true rfl)) ?_
  refine lt_cI_c (fun v1 m1 => ?_)
  refine Eq.trans (li_iload_n d48_9 (by rfl)) ?_
  refine Eq.trans (li_isV d48_10 bi_5_107 ca_5_107 kd_17 (by rfl) (by rfl) (Nat.le_of_ble_eq_true rfl) (Nat.le_of_ble_eq_true rfl)) ?_
  refine lt_cV_c (fun m2 => ?_)
  refine Eq.trans (li_aload_n d48_13 (by rfl)) ?_
  refine Eq.trans (li_getr d48_14 fa_5_24 h0 rfl rfl rfl (by decide)) ?_
  refine Eq.trans (li_iload_n d48_17 (by rfl)) ?_
  refine Eq.trans (li_aload_n d48_18 (by rfl)) ?_
  refine Eq.trans (li_iload_n d48_19 (by rfl)) ?_
  refine Eq.trans (li_ivI d48_20 ca_5_51 kd_49 kl_49 (by rfl) (by rfl) h0 (Nat.le_of_ble_eq_true rfl) (Nat.le_of_ble_eq_true rfl)) ?_
  refine lt_cI_c (fun v2 m3 => ?_)
  refine Eq.trans (li_iconst d48_23 ic_1) ?_
  refine Eq.trans (li_iload_n d48_24 (by rfl)) ?_
  refine Eq.trans (li_ishl d48_25) ?_
  refine Eq.trans (li_ior d48_26) ?_
  refine Eq.trans (li_isV d48_27 bi_5_107 ca_5_107 kd_17 (by rfl) (by rfl) (Nat.le_of_ble_eq_true rfl) (Nat.le_of_ble_eq_true rfl)) ?_
  refine lt_cV_c (fun m4 => ?_)
  exact li_vret d48_30 rfl
/-! TransitSeals$Net.near(I)I -/
theorem d49_0 : decode Y49.2.1 0 = .ok (.aload_n 0, 1) := by decide +kernel
theorem d49_1 : decode Y49.2.1 1 = .ok (.getfield 24, 3) := by decide +kernel
theorem d49_4 : decode Y49.2.1 4 = .ok (.iload_n 1, 1) := by decide +kernel
theorem d49_5 : decode Y49.2.1 5 = .ok (.invokestatic 47, 3) := by decide +kernel
theorem d49_8 : decode Y49.2.1 8 = .ok (.ireturn, 1) := by decide +kernel
theorem E49 (d : Nat) (a0 : Nat) (x1 : Int32) (h0 : ts_sh a0 = (0, 5)) (m : lt_m) : lt_ev (d + 1) 49 [.inr (.inr (some a0)), .inl x1] m = lt_cI (lt_ev d 16 [.inr (.inr (some (a0 + 5))), .inl x1] m) (fun v1 m1 => (some (some (.inl v1), m1))) := by
  refine Eq.trans (lt_enter2 (ls := [some (.inr (.inr (some a0))), some (.inl x1)]) hY49 (Nat.le_of_ble_eq_true rfl) (by rfl)) ?_
  refine Eq.trans (li_aload_n d49_0 (by rfl)) ?_
  refine Eq.trans (li_getr d49_1 fa_5_24 h0 rfl rfl rfl (by decide)) ?_
  refine Eq.trans (li_iload_n d49_4 (by rfl)) ?_
  refine Eq.trans (li_isI d49_5 bi_5_47 ca_5_47 kd_16 (by rfl) (by rfl) (Nat.le_of_ble_eq_true rfl) (Nat.le_of_ble_eq_true rfl)) ?_
  refine lt_cI_c (fun v1 m1 => ?_)
  exact li_iret d49_8 rfl
/-! TransitSeals$Net.readDuties(LTransitSeals$Reader;)V -/
theorem d50_0 : decode Y50.2.1 0 = .ok (.aload_n 1, 1) := by decide +kernel
theorem d50_1 : decode Y50.2.1 1 = .ok (.invokevirtual 89, 3) := by decide +kernel
theorem d50_4 : decode Y50.2.1 4 = .ok (.ifCond .ne 16, 3) := by decide +kernel
theorem d50_7 : decode Y50.2.1 7 = .ok (.aload_n 1, 1) := by decide +kernel
theorem d50_8 : decode Y50.2.1 8 = .ok (.bipush 124, 2) := by decide +kernel
theorem d50_10 : decode Y50.2.1 10 = .ok (.invokevirtual 128, 3) := by decide +kernel
theorem d50_13 : decode Y50.2.1 13 = .ok (.ifCond .eq 7, 3) := by decide +kernel
theorem d50_16 : decode Y50.2.1 16 = .ok (.iconst 1, 1) := by decide +kernel
theorem d50_17 : decode Y50.2.1 17 = .ok (.goto 4, 3) := by decide +kernel
theorem d50_20 : decode Y50.2.1 20 = .ok (.iconst 0, 1) := by decide +kernel
theorem d50_21 : decode Y50.2.1 21 = .ok (.istore_n 2, 1) := by decide +kernel
theorem d50_22 : decode Y50.2.1 22 = .ok (.iload_n 2, 1) := by decide +kernel
theorem d50_23 : decode Y50.2.1 23 = .ok (.ifCond .eq 68, 3) := by decide +kernel
theorem d50_26 : decode Y50.2.1 26 = .ok (.aload_n 0, 1) := by decide +kernel
theorem d50_27 : decode Y50.2.1 27 = .ok (.getfield 44, 3) := by decide +kernel
theorem d50_30 : decode Y50.2.1 30 = .ok (.bipush 6, 2) := by decide +kernel
theorem d50_32 : decode Y50.2.1 32 = .ok (.if_icmp .ge 59, 3) := by decide +kernel
theorem d50_35 : decode Y50.2.1 35 = .ok (.aload_n 0, 1) := by decide +kernel
theorem d50_36 : decode Y50.2.1 36 = .ok (.getfield 15, 3) := by decide +kernel
theorem d50_39 : decode Y50.2.1 39 = .ok (.aload_n 0, 1) := by decide +kernel
theorem d50_40 : decode Y50.2.1 40 = .ok (.getfield 44, 3) := by decide +kernel
theorem d50_43 : decode Y50.2.1 43 = .ok (.aload_n 1, 1) := by decide +kernel
theorem d50_44 : decode Y50.2.1 44 = .ok (.iconst 1, 1) := by decide +kernel
theorem d50_45 : decode Y50.2.1 45 = .ok (.sipush 999, 3) := by decide +kernel
theorem d50_48 : decode Y50.2.1 48 = .ok (.invokevirtual 104, 3) := by decide +kernel
theorem d50_51 : decode Y50.2.1 51 = .ok (.invokestatic 107, 3) := by decide +kernel
theorem d50_54 : decode Y50.2.1 54 = .ok (.aload_n 0, 1) := by decide +kernel
theorem d50_55 : decode Y50.2.1 55 = .ok (.dup, 1) := by decide +kernel
theorem d50_56 : decode Y50.2.1 56 = .ok (.getfield 44, 3) := by decide +kernel
theorem d50_59 : decode Y50.2.1 59 = .ok (.iconst 1, 1) := by decide +kernel
theorem d50_60 : decode Y50.2.1 60 = .ok (.iadd, 1) := by decide +kernel
theorem d50_61 : decode Y50.2.1 61 = .ok (.putfield 44, 3) := by decide +kernel
theorem d50_64 : decode Y50.2.1 64 = .ok (.aload_n 0, 1) := by decide +kernel
theorem d50_65 : decode Y50.2.1 65 = .ok (.getfield 44, 3) := by decide +kernel
theorem d50_68 : decode Y50.2.1 68 = .ok (.bipush 6, 2) := by decide +kernel
theorem d50_70 : decode Y50.2.1 70 = .ok (.if_icmp .ge 16, 3) := by decide +kernel
theorem d50_73 : decode Y50.2.1 73 = .ok (.aload_n 1, 1) := by decide +kernel
theorem d50_74 : decode Y50.2.1 74 = .ok (.bipush 44, 2) := by decide +kernel
theorem d50_76 : decode Y50.2.1 76 = .ok (.invokevirtual 128, 3) := by decide +kernel
theorem d50_79 : decode Y50.2.1 79 = .ok (.ifCond .eq 7, 3) := by decide +kernel
theorem d50_82 : decode Y50.2.1 82 = .ok (.iconst 1, 1) := by decide +kernel
theorem d50_83 : decode Y50.2.1 83 = .ok (.goto 4, 3) := by decide +kernel
theorem d50_86 : decode Y50.2.1 86 = .ok (.iconst 0, 1) := by decide +kernel
theorem d50_87 : decode Y50.2.1 87 = .ok (.istore_n 2, 1) := by decide +kernel
theorem d50_88 : decode Y50.2.1 88 = .ok (.goto (-66), 3) := by decide +kernel
theorem d50_91 : decode Y50.2.1 91 = .ok (.return_, 1) := by decide +kernel
noncomputable def L50_22 (d : Nat) (a0 : Nat) (a1 : Nat) (x2 : Int32) (m : lt_m) : Option lt_r := lt_run d Y50 22 [some (.inr (.inr (some a0))), some (.inr (.inr (some a1))), some (.inl x2)] [] m
theorem E50 (d : Nat) (a0 : Nat) (a1 : Nat) (h0 : ts_sh a0 = (0, 5)) (h1 : ts_sh a1 = (0, 6)) (m : lt_m) : lt_ev (d + 1) 50 [.inr (.inr (some a0)), .inr (.inr (some a1))] m = lt_cI (lt_ev d 38 [.inr (.inr (some a1))] m) (fun v1 m1 => (if ¬ v1 = 0 then (L50_22 d a0 a1 (0 : Int32) m1) else (lt_cI (lt_ev d 43 [.inr (.inr (some a1)), .inl (124 : Int32)] m1) (fun v2 m2 => (if v2 = 0 then (L50_22 d a0 a1 (0 : Int32) m2) else (L50_22 d a0 a1 (1 : Int32) m2)))))) := by
  refine Eq.trans (lt_enter2 (ls := [some (.inr (.inr (some a0))), some (.inr (.inr (some a1))), none]) hY50 (Nat.le_of_ble_eq_true rfl) (by rfl)) ?_
  refine Eq.trans (li_aload_n d50_0 (by rfl)) ?_
  refine Eq.trans (li_ivI d50_1 ca_5_89 kd_38 kl_38 (by rfl) (by rfl) h1 (Nat.le_of_ble_eq_true rfl) (Nat.le_of_ble_eq_true rfl)) ?_
  refine lt_cI_c (fun v1 m1 => ?_)
  refine Eq.trans (li_if_ne (t := 20) d50_4 (by rfl)) ?_
  refine lt_ite (fun c1 => ?_) (fun c1 => ?_)
  · refine Eq.trans (li_iconst d50_20 ic_0) ?_
    refine Eq.trans (li_istore_n (ls' := [some (.inr (.inr (some a0))), some (.inr (.inr (some a1))), some (.inl (0 : Int32))]) d50_21 (by decide) (by rfl)) ?_
    rfl
  · refine Eq.trans (li_aload_n d50_7 (by rfl)) ?_
    refine Eq.trans (li_bipush d50_8 bi_124) ?_
    refine Eq.trans (li_ivI d50_10 ca_5_128 kd_43 kl_43 (by rfl) (by rfl) h1 (Nat.le_of_ble_eq_true rfl) (Nat.le_of_ble_eq_true rfl)) ?_
    refine lt_cI_c (fun v2 m2 => ?_)
    refine Eq.trans (li_if_eq (t := 20) d50_13 (by rfl)) ?_
    refine lt_ite (fun c2 => ?_) (fun c2 => ?_)
    · refine Eq.trans (li_iconst d50_20 ic_0) ?_
      refine Eq.trans (li_istore_n (ls' := [some (.inr (.inr (some a0))), some (.inr (.inr (some a1))), some (.inl (0 : Int32))]) d50_21 (by decide) (by rfl)) ?_
      rfl
    · refine Eq.trans (li_iconst d50_16 ic_1) ?_
      refine Eq.trans (li_goto (t := 21) d50_17 (by rfl)) ?_
      refine Eq.trans (li_istore_n (ls' := [some (.inr (.inr (some a0))), some (.inr (.inr (some a1))), some (.inl (1 : Int32))]) d50_21 (by decide) (by rfl)) ?_
      rfl
theorem E50_22 (d : Nat) (a0 : Nat) (a1 : Nat) (x2 : Int32) (h0 : ts_sh a0 = (0, 5)) (h1 : ts_sh a1 = (0, 6)) (m : lt_m) : L50_22 d a0 a1 x2 m = if x2 = 0 then (some (none, m)) else (if (6 : Int32) ≤ (m.1 a0 8) then (some (none, m)) else (lt_cI (lt_ev d 37 [.inr (.inr (some a1)), .inl (1 : Int32), .inl (999 : Int32)] m) (fun v1 m1 => (lt_cV (lt_ev d 17 [.inr (.inr (some (a0 + 2))), .inl (m.1 a0 8), .inl v1] m1) (fun m2 => (if (6 : Int32) ≤ ((lm_i m2 a0 8 ((m2.1 a0 8) + (1 : Int32))).1 a0 8) then (L50_22 d a0 a1 (0 : Int32) (lm_i m2 a0 8 ((m2.1 a0 8) + (1 : Int32)))) else (lt_cI (lt_ev d 43 [.inr (.inr (some a1)), .inl (44 : Int32)] (lm_i m2 a0 8 ((m2.1 a0 8) + (1 : Int32)))) (fun v2 m3 => (if v2 = 0 then (L50_22 d a0 a1 (0 : Int32) m3) else (L50_22 d a0 a1 (1 : Int32) m3)))))))))) := by
  show lt_run d Y50 22 [some (.inr (.inr (some a0))), some (.inr (.inr (some a1))), some (.inl x2)] [] m = _
  refine Eq.trans (li_iload_n d50_22 (by rfl)) ?_
  refine Eq.trans (li_if_eq (t := 91) d50_23 (by rfl)) ?_
  refine lt_ite (fun c1 => ?_) (fun c1 => ?_)
  · exact li_vret d50_91 rfl
  · refine Eq.trans (li_aload_n d50_26 (by rfl)) ?_
    refine Eq.trans (li_geti d50_27 fa_5_44 h0 rfl) ?_
    refine Eq.trans (li_bipush d50_30 bi_6) ?_
    refine Eq.trans (li_icmp_ge (t := 91) d50_32 (by rfl)) ?_
    refine lt_ite (fun c2 => ?_) (fun c2 => ?_)
    · exact li_vret d50_91 rfl
    · refine Eq.trans (li_aload_n d50_35 (by rfl)) ?_
      refine Eq.trans (li_getr d50_36 fa_5_15 h0 rfl rfl rfl (by decide)) ?_
      refine Eq.trans (li_aload_n d50_39 (by rfl)) ?_
      refine Eq.trans (li_geti d50_40 fa_5_44 h0 rfl) ?_
      refine Eq.trans (li_aload_n d50_43 (by rfl)) ?_
      refine Eq.trans (li_iconst d50_44 ic_1) ?_
      refine Eq.trans (li_sipush d50_45 si_999) ?_
      refine Eq.trans (li_ivI d50_48 ca_5_104 kd_37 kl_37 (by rfl) (by rfl) h1 (Nat.le_of_ble_eq_true rfl) (Nat.le_of_ble_eq_true rfl)) ?_
      refine lt_cI_c (fun v1 m1 => ?_)
      refine Eq.trans (li_isV d50_51 bi_5_107 ca_5_107 kd_17 (by rfl) (by rfl) (Nat.le_of_ble_eq_true rfl) (Nat.le_of_ble_eq_true rfl)) ?_
      refine lt_cV_c (fun m2 => ?_)
      refine Eq.trans (li_aload_n d50_54 (by rfl)) ?_
      refine Eq.trans (li_dup d50_55 rfl) ?_
      refine Eq.trans (li_geti d50_56 fa_5_44 h0 rfl) ?_
      refine Eq.trans (li_iconst d50_59 ic_1) ?_
      refine Eq.trans (li_iadd d50_60) ?_
      refine Eq.trans (li_puti d50_61 fa_5_44 h0 rfl rfl) ?_
      refine Eq.trans (li_aload_n d50_64 (by rfl)) ?_
      refine Eq.trans (li_geti d50_65 fa_5_44 h0 rfl) ?_
      refine Eq.trans (li_bipush d50_68 bi_6) ?_
      refine Eq.trans (li_icmp_ge (t := 86) d50_70 (by rfl)) ?_
      refine lt_ite (fun c3 => ?_) (fun c3 => ?_)
      · refine Eq.trans (li_iconst d50_86 ic_0) ?_
        refine Eq.trans (li_istore_n (ls' := [some (.inr (.inr (some a0))), some (.inr (.inr (some a1))), some (.inl (0 : Int32))]) d50_87 (by decide) (by rfl)) ?_
        refine Eq.trans (li_goto (t := 22) d50_88 (by rfl)) ?_
        rfl
      · refine Eq.trans (li_aload_n d50_73 (by rfl)) ?_
        refine Eq.trans (li_bipush d50_74 bi_44) ?_
        refine Eq.trans (li_ivI d50_76 ca_5_128 kd_43 kl_43 (by rfl) (by rfl) h1 (Nat.le_of_ble_eq_true rfl) (Nat.le_of_ble_eq_true rfl)) ?_
        refine lt_cI_c (fun v2 m3 => ?_)
        refine Eq.trans (li_if_eq (t := 86) d50_79 (by rfl)) ?_
        refine lt_ite (fun c4 => ?_) (fun c4 => ?_)
        · refine Eq.trans (li_iconst d50_86 ic_0) ?_
          refine Eq.trans (li_istore_n (ls' := [some (.inr (.inr (some a0))), some (.inr (.inr (some a1))), some (.inl (0 : Int32))]) d50_87 (by decide) (by rfl)) ?_
          refine Eq.trans (li_goto (t := 22) d50_88 (by rfl)) ?_
          rfl
        · refine Eq.trans (li_iconst d50_82 ic_1) ?_
          refine Eq.trans (li_goto (t := 87) d50_83 (by rfl)) ?_
          refine Eq.trans (li_istore_n (ls' := [some (.inr (.inr (some a0))), some (.inr (.inr (some a1))), some (.inl (1 : Int32))]) d50_87 (by decide) (by rfl)) ?_
          refine Eq.trans (li_goto (t := 22) d50_88 (by rfl)) ?_
          rfl
/-! TransitSeals$Reader.finish()V -/
theorem d51_0 : decode Y51.2.1 0 = .ok (.aload_n 0, 1) := by decide +kernel
theorem d51_1 : decode Y51.2.1 1 = .ok (.invokevirtual 40, 3) := by decide +kernel
theorem d51_4 : decode Y51.2.1 4 = .ok (.ifCond .ne 7, 3) := by decide +kernel
theorem d51_7 : decode Y51.2.1 7 = .ok (.aload_n 0, 1) := by decide +kernel
theorem d51_8 : decode Y51.2.1 8 = .ok (.invokevirtual 37, 3) := by decide +kernel
theorem d51_11 : decode Y51.2.1 11 = .ok (.aload_n 0, 1) := by decide +kernel
theorem d51_12 : decode Y51.2.1 12 = .ok (.getfield 12, 3) := by decide +kernel
theorem d51_15 : decode Y51.2.1 15 = .ok (.iconst 0, 1) := by decide +kernel
theorem d51_16 : decode Y51.2.1 16 = .ok (.invokevirtual 44, 3) := by decide +kernel
theorem d51_19 : decode Y51.2.1 19 = .ok (.return_, 1) := by decide +kernel
theorem E51 (d : Nat) (a0 : Nat) (h0 : ts_sh a0 = (0, 6)) (m : lt_m) : lt_ev (d + 1) 51 [.inr (.inr (some a0))] m = lt_cI (lt_ev d 45 [.inr (.inr (some a0))] m) (fun v1 m1 => (if ¬ v1 = 0 then (lt_cV (lt_ev d 20 [.inr (.inr (some (a0 + 1))), .inl (0 : Int32)] m1) (fun m2 => (some (none, m2)))) else (lt_cV (lt_ev d 39 [.inr (.inr (some a0))] m1) (fun m3 => (lt_cV (lt_ev d 20 [.inr (.inr (some (a0 + 1))), .inl (0 : Int32)] m3) (fun m4 => (some (none, m4)))))))) := by
  refine Eq.trans (lt_enter2 (ls := [some (.inr (.inr (some a0)))]) hY51 (Nat.le_of_ble_eq_true rfl) (by rfl)) ?_
  refine Eq.trans (li_aload_n d51_0 (by rfl)) ?_
  refine Eq.trans (li_ivI d51_1 ca_6_40 kd_45 kl_45 (by rfl) (by rfl) h0 (Nat.le_of_ble_eq_true rfl) (Nat.le_of_ble_eq_true rfl)) ?_
  refine lt_cI_c (fun v1 m1 => ?_)
  refine Eq.trans (li_if_ne (t := 11) d51_4 (by rfl)) ?_
  refine lt_ite (fun c1 => ?_) (fun c1 => ?_)
  · refine Eq.trans (li_aload_n d51_11 (by rfl)) ?_
    refine Eq.trans (li_getr d51_12 fa_6_12 h0 rfl rfl rfl (by decide)) ?_
    refine Eq.trans (li_iconst d51_15 ic_0) ?_
    refine Eq.trans (li_ivV d51_16 ca_6_44 kd_20 kl_20 (by rfl) (by rfl) (sf_of h0 0 (by decide) (by decide)) (Nat.le_of_ble_eq_true rfl) (Nat.le_of_ble_eq_true rfl)) ?_
    refine lt_cV_c (fun m2 => ?_)
    exact li_vret d51_19 rfl
  · refine Eq.trans (li_aload_n d51_7 (by rfl)) ?_
    refine Eq.trans (li_ivV d51_8 ca_6_37 kd_39 kl_39 (by rfl) (by rfl) h0 (Nat.le_of_ble_eq_true rfl) (Nat.le_of_ble_eq_true rfl)) ?_
    refine lt_cV_c (fun m3 => ?_)
    refine Eq.trans (li_aload_n d51_11 (by rfl)) ?_
    refine Eq.trans (li_getr d51_12 fa_6_12 h0 rfl rfl rfl (by decide)) ?_
    refine Eq.trans (li_iconst d51_15 ic_0) ?_
    refine Eq.trans (li_ivV d51_16 ca_6_44 kd_20 kl_20 (by rfl) (by rfl) (sf_of h0 0 (by decide) (by decide)) (Nat.le_of_ble_eq_true rfl) (Nat.le_of_ble_eq_true rfl)) ?_
    refine lt_cV_c (fun m4 => ?_)
    exact li_vret d51_19 rfl
/-! TransitSeals$Reader.refusal()I -/
theorem d52_0 : decode Y52.2.1 0 = .ok (.bipush (-21), 2) := by decide +kernel
theorem d52_2 : decode Y52.2.1 2 = .ok (.aload_n 0, 1) := by decide +kernel
theorem d52_3 : decode Y52.2.1 3 = .ok (.getfield 18, 3) := by decide +kernel
theorem d52_6 : decode Y52.2.1 6 = .ok (.isub, 1) := by decide +kernel
theorem d52_7 : decode Y52.2.1 7 = .ok (.ireturn, 1) := by decide +kernel
theorem E52 (d : Nat) (a0 : Nat) (h0 : ts_sh a0 = (0, 6)) (m : lt_m) : lt_ev (d + 1) 52 [.inr (.inr (some a0))] m = some (some (.inl ((-21 : Int32) - (m.1 a0 2))), m) := by
  refine Eq.trans (lt_enter2 (ls := [some (.inr (.inr (some a0)))]) hY52 (Nat.le_of_ble_eq_true rfl) (by rfl)) ?_
  refine Eq.trans (li_bipush d52_0 bi_n21) ?_
  refine Eq.trans (li_aload_n d52_2 (by rfl)) ?_
  refine Eq.trans (li_geti d52_3 fa_6_18 h0 rfl) ?_
  refine Eq.trans (li_isub d52_6) ?_
  exact li_iret d52_7 rfl
/-! TransitSeals$Ledger.clear()V -/
theorem d53_0 : decode Y53.2.1 0 = .ok (.aload_n 0, 1) := by decide +kernel
theorem d53_1 : decode Y53.2.1 1 = .ok (.iconst 0, 1) := by decide +kernel
theorem d53_2 : decode Y53.2.1 2 = .ok (.putfield 34, 3) := by decide +kernel
theorem d53_5 : decode Y53.2.1 5 = .ok (.aload_n 0, 1) := by decide +kernel
theorem d53_6 : decode Y53.2.1 6 = .ok (.iconst 0, 1) := by decide +kernel
theorem d53_7 : decode Y53.2.1 7 = .ok (.putfield 38, 3) := by decide +kernel
theorem d53_10 : decode Y53.2.1 10 = .ok (.aload_n 0, 1) := by decide +kernel
theorem d53_11 : decode Y53.2.1 11 = .ok (.iconst 0, 1) := by decide +kernel
theorem d53_12 : decode Y53.2.1 12 = .ok (.putfield 41, 3) := by decide +kernel
theorem d53_15 : decode Y53.2.1 15 = .ok (.aload_n 0, 1) := by decide +kernel
theorem d53_16 : decode Y53.2.1 16 = .ok (.getfield 20, 3) := by decide +kernel
theorem d53_19 : decode Y53.2.1 19 = .ok (.astore_n 1, 1) := by decide +kernel
theorem d53_20 : decode Y53.2.1 20 = .ok (.aload_n 1, 1) := by decide +kernel
theorem d53_21 : decode Y53.2.1 21 = .ok (.arraylength, 1) := by decide +kernel
theorem d53_22 : decode Y53.2.1 22 = .ok (.istore_n 2, 1) := by decide +kernel
theorem d53_23 : decode Y53.2.1 23 = .ok (.iconst 0, 1) := by decide +kernel
theorem d53_24 : decode Y53.2.1 24 = .ok (.istore_n 3, 1) := by decide +kernel
theorem d53_25 : decode Y53.2.1 25 = .ok (.iload_n 3, 1) := by decide +kernel
theorem d53_26 : decode Y53.2.1 26 = .ok (.iload_n 2, 1) := by decide +kernel
theorem d53_27 : decode Y53.2.1 27 = .ok (.if_icmp .ge 20, 3) := by decide +kernel
theorem d53_30 : decode Y53.2.1 30 = .ok (.aload_n 1, 1) := by decide +kernel
theorem d53_31 : decode Y53.2.1 31 = .ok (.iload_n 3, 1) := by decide +kernel
theorem d53_32 : decode Y53.2.1 32 = .ok (.aaload, 1) := by decide +kernel
theorem d53_33 : decode Y53.2.1 33 = .ok (.astore 4, 2) := by decide +kernel
theorem d53_35 : decode Y53.2.1 35 = .ok (.aload 4, 2) := by decide +kernel
theorem d53_37 : decode Y53.2.1 37 = .ok (.iconst (-1), 1) := by decide +kernel
theorem d53_38 : decode Y53.2.1 38 = .ok (.putfield 44, 3) := by decide +kernel
theorem d53_41 : decode Y53.2.1 41 = .ok (.iinc 3 1, 3) := by decide +kernel
theorem d53_44 : decode Y53.2.1 44 = .ok (.goto (-19), 3) := by decide +kernel
theorem d53_47 : decode Y53.2.1 47 = .ok (.aload_n 0, 1) := by decide +kernel
theorem d53_48 : decode Y53.2.1 48 = .ok (.getfield 27, 3) := by decide +kernel
theorem d53_51 : decode Y53.2.1 51 = .ok (.invokevirtual 47, 3) := by decide +kernel
theorem d53_54 : decode Y53.2.1 54 = .ok (.return_, 1) := by decide +kernel
noncomputable def L53_25 (d : Nat) (a0 : Nat) (x3 : Int32) (o4 : Option ts_V) (m : lt_m) : Option lt_r := lt_run d Y53 25 [some (.inr (.inr (some a0))), some (.inr (.inr (some (a0 + 3)))), some (.inl (20 : Int32)), some (.inl x3), o4] [] m
theorem E53 (d : Nat) (a0 : Nat) (h0 : ts_sh a0 = (0, 2)) (m : lt_m) : lt_ev (d + 1) 53 [.inr (.inr (some a0))] m = L53_25 d a0 (0 : Int32) none (lm_i (lm_i (lm_i m a0 4 (0 : Int32)) a0 5 (0 : Int32)) a0 6 (0 : Int32)) := by
  refine Eq.trans (lt_enter2 (ls := [some (.inr (.inr (some a0))), none, none, none, none]) hY53 (Nat.le_of_ble_eq_true rfl) (by rfl)) ?_
  refine Eq.trans (li_aload_n d53_0 (by rfl)) ?_
  refine Eq.trans (li_iconst d53_1 ic_0) ?_
  refine Eq.trans (li_puti d53_2 fa_2_34 h0 rfl rfl) ?_
  refine Eq.trans (li_aload_n d53_5 (by rfl)) ?_
  refine Eq.trans (li_iconst d53_6 ic_0) ?_
  refine Eq.trans (li_puti d53_7 fa_2_38 h0 rfl rfl) ?_
  refine Eq.trans (li_aload_n d53_10 (by rfl)) ?_
  refine Eq.trans (li_iconst d53_11 ic_0) ?_
  refine Eq.trans (li_puti d53_12 fa_2_41 h0 rfl rfl) ?_
  refine Eq.trans (li_aload_n d53_15 (by rfl)) ?_
  refine Eq.trans (li_getr d53_16 fa_2_20 h0 rfl rfl rfl (by decide)) ?_
  refine Eq.trans (li_astore_n (ls' := [some (.inr (.inr (some a0))), some (.inr (.inr (some (a0 + 3)))), none, none, none]) d53_19 (by decide) (by rfl)) ?_
  refine Eq.trans (li_aload_n d53_20 (by rfl)) ?_
  refine Eq.trans (li_alen d53_21 (sf_of h0 2 (by decide) (by decide)) (by decide) (by rfl)) ?_
  refine Eq.trans (li_istore_n (ls' := [some (.inr (.inr (some a0))), some (.inr (.inr (some (a0 + 3)))), some (.inl (20 : Int32)), none, none]) d53_22 (by decide) (by rfl)) ?_
  refine Eq.trans (li_iconst d53_23 ic_0) ?_
  refine Eq.trans (li_istore_n (ls' := [some (.inr (.inr (some a0))), some (.inr (.inr (some (a0 + 3)))), some (.inl (20 : Int32)), some (.inl (0 : Int32)), none]) d53_24 (by decide) (by rfl)) ?_
  rfl
theorem E53_25 (d : Nat) (a0 : Nat) (x3 : Int32) (o4 : Option ts_V) (h0 : ts_sh a0 = (0, 2)) (m : lt_m) : L53_25 d a0 x3 o4 m = if (20 : Int32) ≤ x3 then (lt_cV (lt_ev d 54 [.inr (.inr (some (a0 + 4)))] m) (fun m1 => (some (none, m1)))) else (lt_gd (0 ≤ x3 ∧ (x3).toNatClampNeg < 20) (L53_25 d a0 (x3 + (1 : Int32)) (some (.inr (.inr (some ((a0 + 3) + 5 + 3 * (x3).toNatClampNeg))))) (lm_i m ((a0 + 3) + 5 + 3 * (x3).toNatClampNeg) 7 (-1 : Int32)))) := by
  show lt_run d Y53 25 [some (.inr (.inr (some a0))), some (.inr (.inr (some (a0 + 3)))), some (.inl (20 : Int32)), some (.inl x3), o4] [] m = _
  refine Eq.trans (li_iload_n d53_25 (by rfl)) ?_
  refine Eq.trans (li_iload_n d53_26 (by rfl)) ?_
  refine Eq.trans (li_icmp_ge (t := 47) d53_27 (by rfl)) ?_
  refine lt_ite (fun c1 => ?_) (fun c1 => ?_)
  · refine Eq.trans (li_aload_n d53_47 (by rfl)) ?_
    refine Eq.trans (li_getr d53_48 fa_2_27 h0 rfl rfl rfl (by decide)) ?_
    refine Eq.trans (li_ivV d53_51 ca_2_47 kd_54 kl_54 (by rfl) (by rfl) (sf_of h0 3 (by decide) (by decide)) (Nat.le_of_ble_eq_true rfl) (Nat.le_of_ble_eq_true rfl)) ?_
    refine lt_cV_c (fun m1 => ?_)
    exact li_vret d53_54 rfl
  · refine Eq.trans (li_aload_n d53_30 (by rfl)) ?_
    refine Eq.trans (li_iload_n d53_31 (by rfl)) ?_
    refine Eq.trans (li_aald4 d53_32 (sf_of h0 2 (by decide) (by decide))) ?_
    refine lt_gd_c (fun g1 => ?_)
    refine Eq.trans (li_astore (ls' := [some (.inr (.inr (some a0))), some (.inr (.inr (some (a0 + 3)))), some (.inl (20 : Int32)), some (.inl x3), some (.inr (.inr (some ((a0 + 3) + 5 + 3 * (x3).toNatClampNeg))))]) d53_33 (by decide) (by rfl)) ?_
    refine Eq.trans (li_aload d53_35 (by rfl)) ?_
    refine Eq.trans (li_iconst d53_37 ic_n1) ?_
    refine Eq.trans (li_puti d53_38 fa_2_44 (sm_4 (sf_of h0 2 (by decide) (by decide)) g1.2) rfl rfl) ?_
    refine Eq.trans (li_iinc (ls' := [some (.inr (.inr (some a0))), some (.inr (.inr (some (a0 + 3)))), some (.inl (20 : Int32)), some (.inl (x3 + (1 : Int32))), some (.inr (.inr (some ((a0 + 3) + 5 + 3 * (x3).toNatClampNeg))))]) d53_41 (by rfl) (by decide) ic_1 (by rfl)) ?_
    refine Eq.trans (li_goto (t := 25) d53_44 (by rfl)) ?_
    rfl
/-! TransitSeals$Book.clear()V -/
theorem d54_0 : decode Y54.2.1 0 = .ok (.aload_n 0, 1) := by decide +kernel
theorem d54_1 : decode Y54.2.1 1 = .ok (.iconst 0, 1) := by decide +kernel
theorem d54_2 : decode Y54.2.1 2 = .ok (.putfield 21, 3) := by decide +kernel
theorem d54_5 : decode Y54.2.1 5 = .ok (.return_, 1) := by decide +kernel
theorem E54 (d : Nat) (a0 : Nat) (h0 : ts_sh a0 = (0, 0)) (m : lt_m) : lt_ev (d + 1) 54 [.inr (.inr (some a0))] m = some (none, (lm_i m a0 3 (0 : Int32))) := by
  refine Eq.trans (lt_enter2 (ls := [some (.inr (.inr (some a0)))]) hY54 (Nat.le_of_ble_eq_true rfl) (by rfl)) ?_
  refine Eq.trans (li_aload_n d54_0 (by rfl)) ?_
  refine Eq.trans (li_iconst d54_1 ic_0) ?_
  refine Eq.trans (li_puti d54_2 fa_0_21 h0 rfl rfl) ?_
  exact li_vret d54_5 rfl
/-! TransitSeals$History.clear()V -/
theorem d55_0 : decode Y55.2.1 0 = .ok (.aload_n 0, 1) := by decide +kernel
theorem d55_1 : decode Y55.2.1 1 = .ok (.iconst 0, 1) := by decide +kernel
theorem d55_2 : decode Y55.2.1 2 = .ok (.putfield 22, 3) := by decide +kernel
theorem d55_5 : decode Y55.2.1 5 = .ok (.aload_n 0, 1) := by decide +kernel
theorem d55_6 : decode Y55.2.1 6 = .ok (.iconst 0, 1) := by decide +kernel
theorem d55_7 : decode Y55.2.1 7 = .ok (.putfield 26, 3) := by decide +kernel
theorem d55_10 : decode Y55.2.1 10 = .ok (.return_, 1) := by decide +kernel
theorem E55 (d : Nat) (a0 : Nat) (h0 : ts_sh a0 = (0, 1)) (m : lt_m) : lt_ev (d + 1) 55 [.inr (.inr (some a0))] m = some (none, (lm_i (lm_i m a0 4 (0 : Int32)) a0 2 (0 : Int32))) := by
  refine Eq.trans (lt_enter2 (ls := [some (.inr (.inr (some a0)))]) hY55 (Nat.le_of_ble_eq_true rfl) (by rfl)) ?_
  refine Eq.trans (li_aload_n d55_0 (by rfl)) ?_
  refine Eq.trans (li_iconst d55_1 ic_0) ?_
  refine Eq.trans (li_puti d55_2 fa_1_22 h0 rfl rfl) ?_
  refine Eq.trans (li_aload_n d55_5 (by rfl)) ?_
  refine Eq.trans (li_iconst d55_6 ic_0) ?_
  refine Eq.trans (li_putz d55_7 fa_1_26 h0 rfl rfl) ?_
  refine Eq.trans (lt_gd_t (by decide)) ?_
  exact li_vret d55_10 rfl
/-! TransitSeals$Row.clear()V -/
theorem d56_0 : decode Y56.2.1 0 = .ok (.aload_n 0, 1) := by decide +kernel
theorem d56_1 : decode Y56.2.1 1 = .ok (.iconst 0, 1) := by decide +kernel
theorem d56_2 : decode Y56.2.1 2 = .ok (.putfield 15, 3) := by decide +kernel
theorem d56_5 : decode Y56.2.1 5 = .ok (.return_, 1) := by decide +kernel
theorem E56 (d : Nat) (a0 : Nat) (h0 : ts_sh a0 = (0, 8)) (m : lt_m) : lt_ev (d + 1) 56 [.inr (.inr (some a0))] m = some (none, (lm_i m a0 1 (0 : Int32))) := by
  refine Eq.trans (lt_enter2 (ls := [some (.inr (.inr (some a0)))]) hY56 (Nat.le_of_ble_eq_true rfl) (by rfl)) ?_
  refine Eq.trans (li_aload_n d56_0 (by rfl)) ?_
  refine Eq.trans (li_iconst d56_1 ic_0) ?_
  refine Eq.trans (li_puti d56_2 fa_8_15 h0 rfl rfl) ?_
  exact li_vret d56_5 rfl
/-! java/lang/Integer.bitCount(I)I -/
theorem d60_0 : decode Y60.2.1 0 = .ok (.iload_n 0, 1) := by decide +kernel
theorem d60_1 : decode Y60.2.1 1 = .ok (.iload_n 0, 1) := by decide +kernel
theorem d60_2 : decode Y60.2.1 2 = .ok (.iconst 1, 1) := by decide +kernel
theorem d60_3 : decode Y60.2.1 3 = .ok (.iushr, 1) := by decide +kernel
theorem d60_4 : decode Y60.2.1 4 = .ok (.ldc_w 265, 3) := by decide +kernel
theorem d60_7 : decode Y60.2.1 7 = .ok (.iand, 1) := by decide +kernel
theorem d60_8 : decode Y60.2.1 8 = .ok (.isub, 1) := by decide +kernel
theorem d60_9 : decode Y60.2.1 9 = .ok (.istore_n 0, 1) := by decide +kernel
theorem d60_10 : decode Y60.2.1 10 = .ok (.iload_n 0, 1) := by decide +kernel
theorem d60_11 : decode Y60.2.1 11 = .ok (.ldc_w 266, 3) := by decide +kernel
theorem d60_14 : decode Y60.2.1 14 = .ok (.iand, 1) := by decide +kernel
theorem d60_15 : decode Y60.2.1 15 = .ok (.iload_n 0, 1) := by decide +kernel
theorem d60_16 : decode Y60.2.1 16 = .ok (.iconst 2, 1) := by decide +kernel
theorem d60_17 : decode Y60.2.1 17 = .ok (.iushr, 1) := by decide +kernel
theorem d60_18 : decode Y60.2.1 18 = .ok (.ldc_w 266, 3) := by decide +kernel
theorem d60_21 : decode Y60.2.1 21 = .ok (.iand, 1) := by decide +kernel
theorem d60_22 : decode Y60.2.1 22 = .ok (.iadd, 1) := by decide +kernel
theorem d60_23 : decode Y60.2.1 23 = .ok (.istore_n 0, 1) := by decide +kernel
theorem d60_24 : decode Y60.2.1 24 = .ok (.iload_n 0, 1) := by decide +kernel
theorem d60_25 : decode Y60.2.1 25 = .ok (.iload_n 0, 1) := by decide +kernel
theorem d60_26 : decode Y60.2.1 26 = .ok (.iconst 4, 1) := by decide +kernel
theorem d60_27 : decode Y60.2.1 27 = .ok (.iushr, 1) := by decide +kernel
theorem d60_28 : decode Y60.2.1 28 = .ok (.iadd, 1) := by decide +kernel
theorem d60_29 : decode Y60.2.1 29 = .ok (.ldc_w 267, 3) := by decide +kernel
theorem d60_32 : decode Y60.2.1 32 = .ok (.iand, 1) := by decide +kernel
theorem d60_33 : decode Y60.2.1 33 = .ok (.istore_n 0, 1) := by decide +kernel
theorem d60_34 : decode Y60.2.1 34 = .ok (.iload_n 0, 1) := by decide +kernel
theorem d60_35 : decode Y60.2.1 35 = .ok (.iload_n 0, 1) := by decide +kernel
theorem d60_36 : decode Y60.2.1 36 = .ok (.bipush 8, 2) := by decide +kernel
theorem d60_38 : decode Y60.2.1 38 = .ok (.iushr, 1) := by decide +kernel
theorem d60_39 : decode Y60.2.1 39 = .ok (.iadd, 1) := by decide +kernel
theorem d60_40 : decode Y60.2.1 40 = .ok (.istore_n 0, 1) := by decide +kernel
theorem d60_41 : decode Y60.2.1 41 = .ok (.iload_n 0, 1) := by decide +kernel
theorem d60_42 : decode Y60.2.1 42 = .ok (.iload_n 0, 1) := by decide +kernel
theorem d60_43 : decode Y60.2.1 43 = .ok (.bipush 16, 2) := by decide +kernel
theorem d60_45 : decode Y60.2.1 45 = .ok (.iushr, 1) := by decide +kernel
theorem d60_46 : decode Y60.2.1 46 = .ok (.iadd, 1) := by decide +kernel
theorem d60_47 : decode Y60.2.1 47 = .ok (.istore_n 0, 1) := by decide +kernel
theorem d60_48 : decode Y60.2.1 48 = .ok (.iload_n 0, 1) := by decide +kernel
theorem d60_49 : decode Y60.2.1 49 = .ok (.bipush 63, 2) := by decide +kernel
theorem d60_51 : decode Y60.2.1 51 = .ok (.iand, 1) := by decide +kernel
theorem d60_52 : decode Y60.2.1 52 = .ok (.ireturn, 1) := by decide +kernel
theorem E60 (d : Nat) (x0 : Int32)  (m : lt_m) : lt_ev (d + 1) 60 [.inl x0] m = some (some (.inl ((((((((x0 - ((((x0).toUInt32 >>> (((1 : Int32)).toUInt32 &&& Int32.toUInt32 31)).toInt32) &&& (1431655765 : Int32))) &&& (858993459 : Int32)) + (((((x0 - ((((x0).toUInt32 >>> (((1 : Int32)).toUInt32 &&& Int32.toUInt32 31)).toInt32) &&& (1431655765 : Int32)))).toUInt32 >>> (((2 : Int32)).toUInt32 &&& Int32.toUInt32 31)).toInt32) &&& (858993459 : Int32))) + ((((((x0 - ((((x0).toUInt32 >>> (((1 : Int32)).toUInt32 &&& Int32.toUInt32 31)).toInt32) &&& (1431655765 : Int32))) &&& (858993459 : Int32)) + (((((x0 - ((((x0).toUInt32 >>> (((1 : Int32)).toUInt32 &&& Int32.toUInt32 31)).toInt32) &&& (1431655765 : Int32)))).toUInt32 >>> (((2 : Int32)).toUInt32 &&& Int32.toUInt32 31)).toInt32) &&& (858993459 : Int32)))).toUInt32 >>> (((4 : Int32)).toUInt32 &&& Int32.toUInt32 31)).toInt32)) &&& (252645135 : Int32)) + ((((((((x0 - ((((x0).toUInt32 >>> (((1 : Int32)).toUInt32 &&& Int32.toUInt32 31)).toInt32) &&& (1431655765 : Int32))) &&& (858993459 : Int32)) + (((((x0 - ((((x0).toUInt32 >>> (((1 : Int32)).toUInt32 &&& Int32.toUInt32 31)).toInt32) &&& (1431655765 : Int32)))).toUInt32 >>> (((2 : Int32)).toUInt32 &&& Int32.toUInt32 31)).toInt32) &&& (858993459 : Int32))) + ((((((x0 - ((((x0).toUInt32 >>> (((1 : Int32)).toUInt32 &&& Int32.toUInt32 31)).toInt32) &&& (1431655765 : Int32))) &&& (858993459 : Int32)) + (((((x0 - ((((x0).toUInt32 >>> (((1 : Int32)).toUInt32 &&& Int32.toUInt32 31)).toInt32) &&& (1431655765 : Int32)))).toUInt32 >>> (((2 : Int32)).toUInt32 &&& Int32.toUInt32 31)).toInt32) &&& (858993459 : Int32)))).toUInt32 >>> (((4 : Int32)).toUInt32 &&& Int32.toUInt32 31)).toInt32)) &&& (252645135 : Int32))).toUInt32 >>> (((8 : Int32)).toUInt32 &&& Int32.toUInt32 31)).toInt32)) + (((((((((x0 - ((((x0).toUInt32 >>> (((1 : Int32)).toUInt32 &&& Int32.toUInt32 31)).toInt32) &&& (1431655765 : Int32))) &&& (858993459 : Int32)) + (((((x0 - ((((x0).toUInt32 >>> (((1 : Int32)).toUInt32 &&& Int32.toUInt32 31)).toInt32) &&& (1431655765 : Int32)))).toUInt32 >>> (((2 : Int32)).toUInt32 &&& Int32.toUInt32 31)).toInt32) &&& (858993459 : Int32))) + ((((((x0 - ((((x0).toUInt32 >>> (((1 : Int32)).toUInt32 &&& Int32.toUInt32 31)).toInt32) &&& (1431655765 : Int32))) &&& (858993459 : Int32)) + (((((x0 - ((((x0).toUInt32 >>> (((1 : Int32)).toUInt32 &&& Int32.toUInt32 31)).toInt32) &&& (1431655765 : Int32)))).toUInt32 >>> (((2 : Int32)).toUInt32 &&& Int32.toUInt32 31)).toInt32) &&& (858993459 : Int32)))).toUInt32 >>> (((4 : Int32)).toUInt32 &&& Int32.toUInt32 31)).toInt32)) &&& (252645135 : Int32)) + ((((((((x0 - ((((x0).toUInt32 >>> (((1 : Int32)).toUInt32 &&& Int32.toUInt32 31)).toInt32) &&& (1431655765 : Int32))) &&& (858993459 : Int32)) + (((((x0 - ((((x0).toUInt32 >>> (((1 : Int32)).toUInt32 &&& Int32.toUInt32 31)).toInt32) &&& (1431655765 : Int32)))).toUInt32 >>> (((2 : Int32)).toUInt32 &&& Int32.toUInt32 31)).toInt32) &&& (858993459 : Int32))) + ((((((x0 - ((((x0).toUInt32 >>> (((1 : Int32)).toUInt32 &&& Int32.toUInt32 31)).toInt32) &&& (1431655765 : Int32))) &&& (858993459 : Int32)) + (((((x0 - ((((x0).toUInt32 >>> (((1 : Int32)).toUInt32 &&& Int32.toUInt32 31)).toInt32) &&& (1431655765 : Int32)))).toUInt32 >>> (((2 : Int32)).toUInt32 &&& Int32.toUInt32 31)).toInt32) &&& (858993459 : Int32)))).toUInt32 >>> (((4 : Int32)).toUInt32 &&& Int32.toUInt32 31)).toInt32)) &&& (252645135 : Int32))).toUInt32 >>> (((8 : Int32)).toUInt32 &&& Int32.toUInt32 31)).toInt32))).toUInt32 >>> (((16 : Int32)).toUInt32 &&& Int32.toUInt32 31)).toInt32)) &&& (63 : Int32))), m) := by
  refine Eq.trans (lt_enter2 (ls := [some (.inl x0)]) hY60 (Nat.le_of_ble_eq_true rfl) (by rfl)) ?_
  refine Eq.trans (li_iload_n d60_0 (by rfl)) ?_
  refine Eq.trans (li_iload_n d60_1 (by rfl)) ?_
  refine Eq.trans (li_iconst d60_2 ic_1) ?_
  refine Eq.trans (li_iushr d60_3) ?_
  refine Eq.trans (li_ldc_w d60_4 cI_13_265) ?_
  refine Eq.trans (li_iand d60_7) ?_
  refine Eq.trans (li_isub d60_8) ?_
  refine Eq.trans (li_istore_n (ls' := [some (.inl (x0 - ((((x0).toUInt32 >>> (((1 : Int32)).toUInt32 &&& Int32.toUInt32 31)).toInt32) &&& (1431655765 : Int32))))]) d60_9 (by decide) (by rfl)) ?_
  refine Eq.trans (li_iload_n d60_10 (by rfl)) ?_
  refine Eq.trans (li_ldc_w d60_11 cI_13_266) ?_
  refine Eq.trans (li_iand d60_14) ?_
  refine Eq.trans (li_iload_n d60_15 (by rfl)) ?_
  refine Eq.trans (li_iconst d60_16 ic_2) ?_
  refine Eq.trans (li_iushr d60_17) ?_
  refine Eq.trans (li_ldc_w d60_18 cI_13_266) ?_
  refine Eq.trans (li_iand d60_21) ?_
  refine Eq.trans (li_iadd d60_22) ?_
  refine Eq.trans (li_istore_n (ls' := [some (.inl (((x0 - ((((x0).toUInt32 >>> (((1 : Int32)).toUInt32 &&& Int32.toUInt32 31)).toInt32) &&& (1431655765 : Int32))) &&& (858993459 : Int32)) + (((((x0 - ((((x0).toUInt32 >>> (((1 : Int32)).toUInt32 &&& Int32.toUInt32 31)).toInt32) &&& (1431655765 : Int32)))).toUInt32 >>> (((2 : Int32)).toUInt32 &&& Int32.toUInt32 31)).toInt32) &&& (858993459 : Int32))))]) d60_23 (by decide) (by rfl)) ?_
  refine Eq.trans (li_iload_n d60_24 (by rfl)) ?_
  refine Eq.trans (li_iload_n d60_25 (by rfl)) ?_
  refine Eq.trans (li_iconst d60_26 ic_4) ?_
  refine Eq.trans (li_iushr d60_27) ?_
  refine Eq.trans (li_iadd d60_28) ?_
  refine Eq.trans (li_ldc_w d60_29 cI_13_267) ?_
  refine Eq.trans (li_iand d60_32) ?_
  refine Eq.trans (li_istore_n (ls' := [some (.inl (((((x0 - ((((x0).toUInt32 >>> (((1 : Int32)).toUInt32 &&& Int32.toUInt32 31)).toInt32) &&& (1431655765 : Int32))) &&& (858993459 : Int32)) + (((((x0 - ((((x0).toUInt32 >>> (((1 : Int32)).toUInt32 &&& Int32.toUInt32 31)).toInt32) &&& (1431655765 : Int32)))).toUInt32 >>> (((2 : Int32)).toUInt32 &&& Int32.toUInt32 31)).toInt32) &&& (858993459 : Int32))) + ((((((x0 - ((((x0).toUInt32 >>> (((1 : Int32)).toUInt32 &&& Int32.toUInt32 31)).toInt32) &&& (1431655765 : Int32))) &&& (858993459 : Int32)) + (((((x0 - ((((x0).toUInt32 >>> (((1 : Int32)).toUInt32 &&& Int32.toUInt32 31)).toInt32) &&& (1431655765 : Int32)))).toUInt32 >>> (((2 : Int32)).toUInt32 &&& Int32.toUInt32 31)).toInt32) &&& (858993459 : Int32)))).toUInt32 >>> (((4 : Int32)).toUInt32 &&& Int32.toUInt32 31)).toInt32)) &&& (252645135 : Int32)))]) d60_33 (by decide) (by rfl)) ?_
  refine Eq.trans (li_iload_n d60_34 (by rfl)) ?_
  refine Eq.trans (li_iload_n d60_35 (by rfl)) ?_
  refine Eq.trans (li_bipush d60_36 bi_8) ?_
  refine Eq.trans (li_iushr d60_38) ?_
  refine Eq.trans (li_iadd d60_39) ?_
  refine Eq.trans (li_istore_n (ls' := [some (.inl ((((((x0 - ((((x0).toUInt32 >>> (((1 : Int32)).toUInt32 &&& Int32.toUInt32 31)).toInt32) &&& (1431655765 : Int32))) &&& (858993459 : Int32)) + (((((x0 - ((((x0).toUInt32 >>> (((1 : Int32)).toUInt32 &&& Int32.toUInt32 31)).toInt32) &&& (1431655765 : Int32)))).toUInt32 >>> (((2 : Int32)).toUInt32 &&& Int32.toUInt32 31)).toInt32) &&& (858993459 : Int32))) + ((((((x0 - ((((x0).toUInt32 >>> (((1 : Int32)).toUInt32 &&& Int32.toUInt32 31)).toInt32) &&& (1431655765 : Int32))) &&& (858993459 : Int32)) + (((((x0 - ((((x0).toUInt32 >>> (((1 : Int32)).toUInt32 &&& Int32.toUInt32 31)).toInt32) &&& (1431655765 : Int32)))).toUInt32 >>> (((2 : Int32)).toUInt32 &&& Int32.toUInt32 31)).toInt32) &&& (858993459 : Int32)))).toUInt32 >>> (((4 : Int32)).toUInt32 &&& Int32.toUInt32 31)).toInt32)) &&& (252645135 : Int32)) + ((((((((x0 - ((((x0).toUInt32 >>> (((1 : Int32)).toUInt32 &&& Int32.toUInt32 31)).toInt32) &&& (1431655765 : Int32))) &&& (858993459 : Int32)) + (((((x0 - ((((x0).toUInt32 >>> (((1 : Int32)).toUInt32 &&& Int32.toUInt32 31)).toInt32) &&& (1431655765 : Int32)))).toUInt32 >>> (((2 : Int32)).toUInt32 &&& Int32.toUInt32 31)).toInt32) &&& (858993459 : Int32))) + ((((((x0 - ((((x0).toUInt32 >>> (((1 : Int32)).toUInt32 &&& Int32.toUInt32 31)).toInt32) &&& (1431655765 : Int32))) &&& (858993459 : Int32)) + (((((x0 - ((((x0).toUInt32 >>> (((1 : Int32)).toUInt32 &&& Int32.toUInt32 31)).toInt32) &&& (1431655765 : Int32)))).toUInt32 >>> (((2 : Int32)).toUInt32 &&& Int32.toUInt32 31)).toInt32) &&& (858993459 : Int32)))).toUInt32 >>> (((4 : Int32)).toUInt32 &&& Int32.toUInt32 31)).toInt32)) &&& (252645135 : Int32))).toUInt32 >>> (((8 : Int32)).toUInt32 &&& Int32.toUInt32 31)).toInt32)))]) d60_40 (by decide) (by rfl)) ?_
  refine Eq.trans (li_iload_n d60_41 (by rfl)) ?_
  refine Eq.trans (li_iload_n d60_42 (by rfl)) ?_
  refine Eq.trans (li_bipush d60_43 bi_16) ?_
  refine Eq.trans (li_iushr d60_45) ?_
  refine Eq.trans (li_iadd d60_46) ?_
  refine Eq.trans (li_istore_n (ls' := [some (.inl (((((((x0 - ((((x0).toUInt32 >>> (((1 : Int32)).toUInt32 &&& Int32.toUInt32 31)).toInt32) &&& (1431655765 : Int32))) &&& (858993459 : Int32)) + (((((x0 - ((((x0).toUInt32 >>> (((1 : Int32)).toUInt32 &&& Int32.toUInt32 31)).toInt32) &&& (1431655765 : Int32)))).toUInt32 >>> (((2 : Int32)).toUInt32 &&& Int32.toUInt32 31)).toInt32) &&& (858993459 : Int32))) + ((((((x0 - ((((x0).toUInt32 >>> (((1 : Int32)).toUInt32 &&& Int32.toUInt32 31)).toInt32) &&& (1431655765 : Int32))) &&& (858993459 : Int32)) + (((((x0 - ((((x0).toUInt32 >>> (((1 : Int32)).toUInt32 &&& Int32.toUInt32 31)).toInt32) &&& (1431655765 : Int32)))).toUInt32 >>> (((2 : Int32)).toUInt32 &&& Int32.toUInt32 31)).toInt32) &&& (858993459 : Int32)))).toUInt32 >>> (((4 : Int32)).toUInt32 &&& Int32.toUInt32 31)).toInt32)) &&& (252645135 : Int32)) + ((((((((x0 - ((((x0).toUInt32 >>> (((1 : Int32)).toUInt32 &&& Int32.toUInt32 31)).toInt32) &&& (1431655765 : Int32))) &&& (858993459 : Int32)) + (((((x0 - ((((x0).toUInt32 >>> (((1 : Int32)).toUInt32 &&& Int32.toUInt32 31)).toInt32) &&& (1431655765 : Int32)))).toUInt32 >>> (((2 : Int32)).toUInt32 &&& Int32.toUInt32 31)).toInt32) &&& (858993459 : Int32))) + ((((((x0 - ((((x0).toUInt32 >>> (((1 : Int32)).toUInt32 &&& Int32.toUInt32 31)).toInt32) &&& (1431655765 : Int32))) &&& (858993459 : Int32)) + (((((x0 - ((((x0).toUInt32 >>> (((1 : Int32)).toUInt32 &&& Int32.toUInt32 31)).toInt32) &&& (1431655765 : Int32)))).toUInt32 >>> (((2 : Int32)).toUInt32 &&& Int32.toUInt32 31)).toInt32) &&& (858993459 : Int32)))).toUInt32 >>> (((4 : Int32)).toUInt32 &&& Int32.toUInt32 31)).toInt32)) &&& (252645135 : Int32))).toUInt32 >>> (((8 : Int32)).toUInt32 &&& Int32.toUInt32 31)).toInt32)) + (((((((((x0 - ((((x0).toUInt32 >>> (((1 : Int32)).toUInt32 &&& Int32.toUInt32 31)).toInt32) &&& (1431655765 : Int32))) &&& (858993459 : Int32)) + (((((x0 - ((((x0).toUInt32 >>> (((1 : Int32)).toUInt32 &&& Int32.toUInt32 31)).toInt32) &&& (1431655765 : Int32)))).toUInt32 >>> (((2 : Int32)).toUInt32 &&& Int32.toUInt32 31)).toInt32) &&& (858993459 : Int32))) + ((((((x0 - ((((x0).toUInt32 >>> (((1 : Int32)).toUInt32 &&& Int32.toUInt32 31)).toInt32) &&& (1431655765 : Int32))) &&& (858993459 : Int32)) + (((((x0 - ((((x0).toUInt32 >>> (((1 : Int32)).toUInt32 &&& Int32.toUInt32 31)).toInt32) &&& (1431655765 : Int32)))).toUInt32 >>> (((2 : Int32)).toUInt32 &&& Int32.toUInt32 31)).toInt32) &&& (858993459 : Int32)))).toUInt32 >>> (((4 : Int32)).toUInt32 &&& Int32.toUInt32 31)).toInt32)) &&& (252645135 : Int32)) + ((((((((x0 - ((((x0).toUInt32 >>> (((1 : Int32)).toUInt32 &&& Int32.toUInt32 31)).toInt32) &&& (1431655765 : Int32))) &&& (858993459 : Int32)) + (((((x0 - ((((x0).toUInt32 >>> (((1 : Int32)).toUInt32 &&& Int32.toUInt32 31)).toInt32) &&& (1431655765 : Int32)))).toUInt32 >>> (((2 : Int32)).toUInt32 &&& Int32.toUInt32 31)).toInt32) &&& (858993459 : Int32))) + ((((((x0 - ((((x0).toUInt32 >>> (((1 : Int32)).toUInt32 &&& Int32.toUInt32 31)).toInt32) &&& (1431655765 : Int32))) &&& (858993459 : Int32)) + (((((x0 - ((((x0).toUInt32 >>> (((1 : Int32)).toUInt32 &&& Int32.toUInt32 31)).toInt32) &&& (1431655765 : Int32)))).toUInt32 >>> (((2 : Int32)).toUInt32 &&& Int32.toUInt32 31)).toInt32) &&& (858993459 : Int32)))).toUInt32 >>> (((4 : Int32)).toUInt32 &&& Int32.toUInt32 31)).toInt32)) &&& (252645135 : Int32))).toUInt32 >>> (((8 : Int32)).toUInt32 &&& Int32.toUInt32 31)).toInt32))).toUInt32 >>> (((16 : Int32)).toUInt32 &&& Int32.toUInt32 31)).toInt32)))]) d60_47 (by decide) (by rfl)) ?_
  refine Eq.trans (li_iload_n d60_48 (by rfl)) ?_
  refine Eq.trans (li_bipush d60_49 bi_63) ?_
  refine Eq.trans (li_iand d60_51) ?_
  exact li_iret d60_52 rfl
/-! TransitSeals$Movement.isUnderway()Z -/
theorem d62_0 : decode Y62.2.1 0 = .ok (.aload_n 0, 1) := by decide +kernel
theorem d62_1 : decode Y62.2.1 1 = .ok (.getfield 9, 3) := by decide +kernel
theorem d62_4 : decode Y62.2.1 4 = .ok (.ifCond .eq 11, 3) := by decide +kernel
theorem d62_7 : decode Y62.2.1 7 = .ok (.aload_n 0, 1) := by decide +kernel
theorem d62_8 : decode Y62.2.1 8 = .ok (.getfield 9, 3) := by decide +kernel
theorem d62_11 : decode Y62.2.1 11 = .ok (.iconst 3, 1) := by decide +kernel
theorem d62_12 : decode Y62.2.1 12 = .ok (.if_icmp .ne 7, 3) := by decide +kernel
theorem d62_15 : decode Y62.2.1 15 = .ok (.iconst 1, 1) := by decide +kernel
theorem d62_16 : decode Y62.2.1 16 = .ok (.goto 4, 3) := by decide +kernel
theorem d62_19 : decode Y62.2.1 19 = .ok (.iconst 0, 1) := by decide +kernel
theorem d62_20 : decode Y62.2.1 20 = .ok (.ireturn, 1) := by decide +kernel
theorem E62 (d : Nat) (a0 : Nat) (h0 : ts_sh a0 = (0, 4)) (m : lt_m) : lt_ev (d + 1) 62 [.inr (.inr (some a0))] m = if (m.1 a0 7) = 0 then (some (some (.inl (1 : Int32)), m)) else (if ¬ (m.1 a0 7) = (3 : Int32) then (some (some (.inl (0 : Int32)), m)) else (some (some (.inl (1 : Int32)), m))) := by
  refine Eq.trans (lt_enter2 (ls := [some (.inr (.inr (some a0)))]) hY62 (Nat.le_of_ble_eq_true rfl) (by rfl)) ?_
  refine Eq.trans (li_aload_n d62_0 (by rfl)) ?_
  refine Eq.trans (li_geti d62_1 fa_4_9 h0 rfl) ?_
  refine Eq.trans (li_if_eq (t := 15) d62_4 (by rfl)) ?_
  refine lt_ite (fun c1 => ?_) (fun c1 => ?_)
  · refine Eq.trans (li_iconst d62_15 ic_1) ?_
    refine Eq.trans (li_goto (t := 20) d62_16 (by rfl)) ?_
    exact li_zret d62_20 rfl (by decide)
  · refine Eq.trans (li_aload_n d62_7 (by rfl)) ?_
    refine Eq.trans (li_geti d62_8 fa_4_9 h0 rfl) ?_
    refine Eq.trans (li_iconst d62_11 ic_3) ?_
    refine Eq.trans (li_icmp_ne (t := 19) d62_12 (by rfl)) ?_
    refine lt_ite (fun c2 => ?_) (fun c2 => ?_)
    · refine Eq.trans (li_iconst d62_19 ic_0) ?_
      exact li_zret d62_20 rfl (by decide)
    · refine Eq.trans (li_iconst d62_15 ic_1) ?_
      refine Eq.trans (li_goto (t := 20) d62_16 (by rfl)) ?_
      exact li_zret d62_20 rfl (by decide)
/-! TransitSeals$Movement.seen()I -/
theorem d63_0 : decode Y63.2.1 0 = .ok (.aload_n 0, 1) := by decide +kernel
theorem d63_1 : decode Y63.2.1 1 = .ok (.aload_n 0, 1) := by decide +kernel
theorem d63_2 : decode Y63.2.1 2 = .ok (.getfield 35, 3) := by decide +kernel
theorem d63_5 : decode Y63.2.1 5 = .ok (.iconst 1, 1) := by decide +kernel
theorem d63_6 : decode Y63.2.1 6 = .ok (.isub, 1) := by decide +kernel
theorem d63_7 : decode Y63.2.1 7 = .ok (.invokevirtual 38, 3) := by decide +kernel
theorem d63_10 : decode Y63.2.1 10 = .ok (.ireturn, 1) := by decide +kernel
theorem E63 (d : Nat) (a0 : Nat) (h0 : ts_sh a0 = (0, 4)) (m : lt_m) : lt_ev (d + 1) 63 [.inr (.inr (some a0))] m = lt_cI (lt_ev d 64 [.inr (.inr (some a0)), .inl ((m.1 a0 9) - (1 : Int32))] m) (fun v1 m1 => (some (some (.inl v1), m1))) := by
  refine Eq.trans (lt_enter2 (ls := [some (.inr (.inr (some a0)))]) hY63 (Nat.le_of_ble_eq_true rfl) (by rfl)) ?_
  refine Eq.trans (li_aload_n d63_0 (by rfl)) ?_
  refine Eq.trans (li_aload_n d63_1 (by rfl)) ?_
  refine Eq.trans (li_geti d63_2 fa_4_35 h0 rfl) ?_
  refine Eq.trans (li_iconst d63_5 ic_1) ?_
  refine Eq.trans (li_isub d63_6) ?_
  refine Eq.trans (li_ivI d63_7 ca_4_38 kd_64 kl_64 (by rfl) (by rfl) h0 (Nat.le_of_ble_eq_true rfl) (Nat.le_of_ble_eq_true rfl)) ?_
  refine lt_cI_c (fun v1 m1 => ?_)
  exact li_iret d63_10 rfl
/-! TransitSeals$Movement.officeAt(I)I -/
theorem d64_0 : decode Y64.2.1 0 = .ok (.iload_n 1, 1) := by decide +kernel
theorem d64_1 : decode Y64.2.1 1 = .ok (.ifCond .lt 22, 3) := by decide +kernel
theorem d64_4 : decode Y64.2.1 4 = .ok (.iload_n 1, 1) := by decide +kernel
theorem d64_5 : decode Y64.2.1 5 = .ok (.aload_n 0, 1) := by decide +kernel
theorem d64_6 : decode Y64.2.1 6 = .ok (.getfield 28, 3) := by decide +kernel
theorem d64_9 : decode Y64.2.1 9 = .ok (.if_icmp .ge 14, 3) := by decide +kernel
theorem d64_12 : decode Y64.2.1 12 = .ok (.aload_n 0, 1) := by decide +kernel
theorem d64_13 : decode Y64.2.1 13 = .ok (.getfield 15, 3) := by decide +kernel
theorem d64_16 : decode Y64.2.1 16 = .ok (.iload_n 1, 1) := by decide +kernel
theorem d64_17 : decode Y64.2.1 17 = .ok (.invokestatic 31, 3) := by decide +kernel
theorem d64_20 : decode Y64.2.1 20 = .ok (.goto 4, 3) := by decide +kernel
theorem d64_23 : decode Y64.2.1 23 = .ok (.iconst (-1), 1) := by decide +kernel
theorem d64_24 : decode Y64.2.1 24 = .ok (.ireturn, 1) := by decide +kernel
theorem E64 (d : Nat) (a0 : Nat) (x1 : Int32) (h0 : ts_sh a0 = (0, 4)) (m : lt_m) : lt_ev (d + 1) 64 [.inr (.inr (some a0)), .inl x1] m = if x1 < 0 then (some (some (.inl (-1 : Int32)), m)) else (if (m.1 a0 8) ≤ x1 then (some (some (.inl (-1 : Int32)), m)) else (lt_cI (lt_ev d 16 [.inr (.inr (some (a0 + 1))), .inl x1] m) (fun v1 m1 => (some (some (.inl v1), m1))))) := by
  refine Eq.trans (lt_enter2 (ls := [some (.inr (.inr (some a0))), some (.inl x1)]) hY64 (Nat.le_of_ble_eq_true rfl) (by rfl)) ?_
  refine Eq.trans (li_iload_n d64_0 (by rfl)) ?_
  refine Eq.trans (li_if_lt (t := 23) d64_1 (by rfl)) ?_
  refine lt_ite (fun c1 => ?_) (fun c1 => ?_)
  · refine Eq.trans (li_iconst d64_23 ic_n1) ?_
    exact li_iret d64_24 rfl
  · refine Eq.trans (li_iload_n d64_4 (by rfl)) ?_
    refine Eq.trans (li_aload_n d64_5 (by rfl)) ?_
    refine Eq.trans (li_geti d64_6 fa_4_28 h0 rfl) ?_
    refine Eq.trans (li_icmp_ge (t := 23) d64_9 (by rfl)) ?_
    refine lt_ite (fun c2 => ?_) (fun c2 => ?_)
    · refine Eq.trans (li_iconst d64_23 ic_n1) ?_
      exact li_iret d64_24 rfl
    · refine Eq.trans (li_aload_n d64_12 (by rfl)) ?_
      refine Eq.trans (li_getr d64_13 fa_4_15 h0 rfl rfl rfl (by decide)) ?_
      refine Eq.trans (li_iload_n d64_16 (by rfl)) ?_
      refine Eq.trans (li_isI d64_17 bi_4_31 ca_4_31 kd_16 (by rfl) (by rfl) (Nat.le_of_ble_eq_true rfl) (Nat.le_of_ble_eq_true rfl)) ?_
      refine lt_cI_c (fun v1 m1 => ?_)
      refine Eq.trans (li_goto (t := 24) d64_20 (by rfl)) ?_
      exact li_iret d64_24 rfl

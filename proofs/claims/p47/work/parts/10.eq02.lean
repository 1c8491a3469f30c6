/-! ===== equations of methods ===== -/
/-! TransitSeals.controls(II)I -/
theorem d119_0 : decode Y119.2.1 0 = .ok (.aload_n 0, 1) := by decide +kernel
theorem d119_1 : decode Y119.2.1 1 = .ok (.getfield 47, 3) := by decide +kernel
theorem d119_4 : decode Y119.2.1 4 = .ok (.iload_n 1, 1) := by decide +kernel
theorem d119_5 : decode Y119.2.1 5 = .ok (.invokevirtual 240, 3) := by decide +kernel
theorem d119_8 : decode Y119.2.1 8 = .ok (.astore_n 3, 1) := by decide +kernel
theorem d119_9 : decode Y119.2.1 9 = .ok (.aload_n 3, 1) := by decide +kernel
theorem d119_10 : decode Y119.2.1 10 = .ok (.ifnull 15, 3) := by decide +kernel
theorem d119_13 : decode Y119.2.1 13 = .ok (.iload_n 2, 1) := by decide +kernel
theorem d119_14 : decode Y119.2.1 14 = .ok (.ifCond .lt 11, 3) := by decide +kernel
theorem d119_17 : decode Y119.2.1 17 = .ok (.iload_n 2, 1) := by decide +kernel
theorem d119_18 : decode Y119.2.1 18 = .ok (.aload_n 3, 1) := by decide +kernel
theorem d119_19 : decode Y119.2.1 19 = .ok (.getfield 266, 3) := by decide +kernel
theorem d119_22 : decode Y119.2.1 22 = .ok (.if_icmp .le 5, 3) := by decide +kernel
theorem d119_25 : decode Y119.2.1 25 = .ok (.iconst (-1), 1) := by decide +kernel
theorem d119_26 : decode Y119.2.1 26 = .ok (.ireturn, 1) := by decide +kernel
theorem d119_27 : decode Y119.2.1 27 = .ok (.aload_n 3, 1) := by decide +kernel
theorem d119_28 : decode Y119.2.1 28 = .ok (.getfield 269, 3) := by decide +kernel
theorem d119_31 : decode Y119.2.1 31 = .ok (.iconst 1, 1) := by decide +kernel
theorem d119_32 : decode Y119.2.1 32 = .ok (.if_icmp .eq 6, 3) := by decide +kernel
theorem d119_35 : decode Y119.2.1 35 = .ok (.bipush (-2), 2) := by decide +kernel
theorem d119_37 : decode Y119.2.1 37 = .ok (.ireturn, 1) := by decide +kernel
theorem d119_38 : decode Y119.2.1 38 = .ok (.aload_n 0, 1) := by decide +kernel
theorem d119_39 : decode Y119.2.1 39 = .ok (.getfield 54, 3) := by decide +kernel
theorem d119_42 : decode Y119.2.1 42 = .ok (.aload_n 0, 1) := by decide +kernel
theorem d119_43 : decode Y119.2.1 43 = .ok (.getfield 47, 3) := by decide +kernel
theorem d119_46 : decode Y119.2.1 46 = .ok (.invokevirtual 168, 3) := by decide +kernel
theorem d119_49 : decode Y119.2.1 49 = .ok (.iload_n 2, 1) := by decide +kernel
theorem d119_50 : decode Y119.2.1 50 = .ok (.aload_n 3, 1) := by decide +kernel
theorem d119_51 : decode Y119.2.1 51 = .ok (.getfield 266, 3) := by decide +kernel
theorem d119_54 : decode Y119.2.1 54 = .ok (.if_icmp .ne 19, 3) := by decide +kernel
theorem d119_57 : decode Y119.2.1 57 = .ok (.aload_n 3, 1) := by decide +kernel
theorem d119_58 : decode Y119.2.1 58 = .ok (.iconst 2, 1) := by decide +kernel
theorem d119_59 : decode Y119.2.1 59 = .ok (.putfield 269, 3) := by decide +kernel
theorem d119_62 : decode Y119.2.1 62 = .ok (.aload_n 0, 1) := by decide +kernel
theorem d119_63 : decode Y119.2.1 63 = .ok (.getfield 47, 3) := by decide +kernel
theorem d119_66 : decode Y119.2.1 66 = .ok (.iconst 3, 1) := by decide +kernel
theorem d119_67 : decode Y119.2.1 67 = .ok (.aload_n 3, 1) := by decide +kernel
theorem d119_68 : decode Y119.2.1 68 = .ok (.invokevirtual 233, 3) := by decide +kernel
theorem d119_71 : decode Y119.2.1 71 = .ok (.iconst 0, 1) := by decide +kernel
theorem d119_72 : decode Y119.2.1 72 = .ok (.ireturn, 1) := by decide +kernel
theorem d119_73 : decode Y119.2.1 73 = .ok (.aload_n 3, 1) := by decide +kernel
theorem d119_74 : decode Y119.2.1 74 = .ok (.getfield 266, 3) := by decide +kernel
theorem d119_77 : decode Y119.2.1 77 = .ok (.iload_n 2, 1) := by decide +kernel
theorem d119_78 : decode Y119.2.1 78 = .ok (.isub, 1) := by decide +kernel
theorem d119_79 : decode Y119.2.1 79 = .ok (.aload_n 0, 1) := by decide +kernel
theorem d119_80 : decode Y119.2.1 80 = .ok (.getfield 61, 3) := by decide +kernel
theorem d119_83 : decode Y119.2.1 83 = .ok (.aload_n 3, 1) := by decide +kernel
theorem d119_84 : decode Y119.2.1 84 = .ok (.getfield 272, 3) := by decide +kernel
theorem d119_87 : decode Y119.2.1 87 = .ok (.invokevirtual 211, 3) := by decide +kernel
theorem d119_90 : decode Y119.2.1 90 = .ok (.imul, 1) := by decide +kernel
theorem d119_91 : decode Y119.2.1 91 = .ok (.istore 4, 2) := by decide +kernel
theorem d119_93 : decode Y119.2.1 93 = .ok (.aload_n 3, 1) := by decide +kernel
theorem d119_94 : decode Y119.2.1 94 = .ok (.aload_n 3, 1) := by decide +kernel
theorem d119_95 : decode Y119.2.1 95 = .ok (.getfield 259, 3) := by decide +kernel
theorem d119_98 : decode Y119.2.1 98 = .ok (.ifCond .eq 10, 3) := by decide +kernel
theorem d119_101 : decode Y119.2.1 101 = .ok (.iconst 2, 1) := by decide +kernel
theorem d119_102 : decode Y119.2.1 102 = .ok (.iload 4, 2) := by decide +kernel
theorem d119_104 : decode Y119.2.1 104 = .ok (.imul, 1) := by decide +kernel
theorem d119_105 : decode Y119.2.1 105 = .ok (.goto 5, 3) := by decide +kernel
theorem d119_108 : decode Y119.2.1 108 = .ok (.iload 4, 2) := by decide +kernel
theorem d119_110 : decode Y119.2.1 110 = .ok (.invokevirtual 275, 3) := by decide +kernel
theorem d119_113 : decode Y119.2.1 113 = .ok (.aload_n 0, 1) := by decide +kernel
theorem d119_114 : decode Y119.2.1 114 = .ok (.getfield 47, 3) := by decide +kernel
theorem d119_117 : decode Y119.2.1 117 = .ok (.iconst 5, 1) := by decide +kernel
theorem d119_118 : decode Y119.2.1 118 = .ok (.aload_n 3, 1) := by decide +kernel
theorem d119_119 : decode Y119.2.1 119 = .ok (.invokevirtual 233, 3) := by decide +kernel
theorem d119_122 : decode Y119.2.1 122 = .ok (.aload_n 3, 1) := by decide +kernel
theorem d119_123 : decode Y119.2.1 123 = .ok (.getfield 278, 3) := by decide +kernel
theorem d119_126 : decode Y119.2.1 126 = .ok (.ireturn, 1) := by decide +kernel
theorem E119 (d : Nat) (a0 : Nat) (x1 : Int32) (x2 : Int32) (h0 : ts_sh a0 = (0, 11)) (m : lt_m) : lt_ev (d + 1) 119 [.inr (.inr (some a0)), .inl x1, .inl x2] m = lt_cR (lt_ev d 114 [.inr (.inr (some (a0 + 13))), .inl x1] m) (fun v1 m1 => (lt_nl v1 (some (some (.inl (-1 : Int32)), m1)) (fun q1 => (if x2 < 0 then (some (some (.inl (-1 : Int32)), m1)) else (lt_gd (ts_sh q1 = (0, 4)) (if x2 ≤ (m1.1 q1 3) then (if (m1.1 q1 7) = (1 : Int32) then (lt_cV (lt_ev d 81 [.inr (.inr (some (a0 + 81))), .inr (.inr (some (a0 + 13)))] m1) (fun m2 => (if ¬ x2 = (m2.1 q1 3) then (lt_gd (ts_sh (m2.2.2.1) = (0, 5)) (lt_cI (lt_ev d 25 [.inr (.inr (some (m2.2.2.1))), .inl (m2.1 q1 2)] m2) (fun v2 m3 => (if (m3.1 q1 11) = 0 then (lt_cV (lt_ev d 120 [.inr (.inr (some q1)), .inl (((m2.1 q1 3) - x2) * v2)] m3) (fun m4 => (lt_cV (lt_ev d 111 [.inr (.inr (some (a0 + 13))), .inl (5 : Int32), .inr (.inr (some q1))] m4) (fun m5 => (some (some (.inl (m5.1 q1 10)), m5)))))) else (lt_cV (lt_ev d 120 [.inr (.inr (some q1)), .inl ((2 : Int32) * (((m2.1 q1 3) - x2) * v2))] m3) (fun m6 => (lt_cV (lt_ev d 111 [.inr (.inr (some (a0 + 13))), .inl (5 : Int32), .inr (.inr (some q1))] m6) (fun m7 => (some (some (.inl (m7.1 q1 10)), m7)))))))))) else (lt_cV (lt_ev d 111 [.inr (.inr (some (a0 + 13))), .inl (3 : Int32), .inr (.inr (some q1))] (lm_i m2 q1 7 (2 : Int32))) (fun m8 => (some (some (.inl (0 : Int32)), m8))))))) else (some (some (.inl (-2 : Int32)), m1))) else (some (some (.inl (-1 : Int32)), m1)))))))) := by
  refine Eq.trans (lt_enter2 (ls := [some (.inr (.inr (some a0))), some (.inl x1), some (.inl x2), none, none]) hY119 (Nat.le_of_ble_eq_true rfl) (by rfl)) ?_
  refine Eq.trans (li_aload_n d119_0 (by rfl)) ?_
  refine Eq.trans (li_getr d119_1 fa_11_47 h0 rfl rfl rfl (by decide)) ?_
  refine Eq.trans (li_iload_n d119_4 (by rfl)) ?_
  refine Eq.trans (li_ivR d119_5 ca_11_240 kd_114 kl_114 (by rfl) (by rfl) (sf_of h0 5 (by decide) (by decide)) (Nat.le_of_ble_eq_true rfl) (Nat.le_of_ble_eq_true rfl)) ?_
  refine lt_cR_c (fun v1 m1 => ?_)
  refine Eq.trans (li_astore_n (ls' := [some (.inr (.inr (some a0))), some (.inl x1), some (.inl x2), some (.inr (.inr v1)), none]) d119_8 (by decide) (by rfl)) ?_
  refine Eq.trans (li_aload_n d119_9 (by rfl)) ?_
  refine lt_nl_x (F := fun oz => lt_run d Y119 10 [some (.inr (.inr (some a0))), some (.inl x1), some (.inl x2), some (.inr (.inr oz)), none] [.inr (.inr oz)] m1) ?_ (fun q1 => ?_)
  · refine Eq.trans (li_ifnull_n (t := 25) d119_10 (by rfl)) ?_
    refine Eq.trans (li_iconst d119_25 ic_n1) ?_
    exact li_iret d119_26 rfl
  · refine Eq.trans (li_ifnull_s d119_10) ?_
    refine Eq.trans (li_iload_n d119_13 (by rfl)) ?_
    refine Eq.trans (li_if_lt (t := 25) d119_14 (by rfl)) ?_
    refine lt_ite (fun c1 => ?_) (fun c1 => ?_)
    · refine Eq.trans (li_iconst d119_25 ic_n1) ?_
      exact li_iret d119_26 rfl
    · refine Eq.trans (li_iload_n d119_17 (by rfl)) ?_
      refine Eq.trans (li_aload_n d119_18 (by rfl)) ?_
      refine Eq.trans (li_gget d119_19 fa_11_266) ?_
      refine lt_gd_c (fun g1 => ?_)
      refine Eq.trans (li_geti d119_19 fa_11_266 g1 rfl) ?_
      refine Eq.trans (li_icmp_le (t := 27) d119_22 (by rfl)) ?_
      refine lt_ite (fun c2 => ?_) (fun c2 => ?_)
      · refine Eq.trans (li_aload_n d119_27 (by rfl)) ?_
        refine Eq.trans (li_geti d119_28 fa_11_269 g1 rfl) ?_
        refine Eq.trans (li_iconst d119_31 ic_1) ?_
        refine Eq.trans (li_icmp_eq (t := 38) d119_32 (by rfl)) ?_
        refine lt_ite (fun c3 => ?_) (fun c3 => ?_)
        · refine Eq.trans (li_aload_n d119_38 (by rfl)) ?_
          refine Eq.trans (li_getr d119_39 fa_11_54 h0 rfl rfl rfl (by decide)) ?_
          refine Eq.trans (li_aload_n d119_42 (by rfl)) ?_
          refine Eq.trans (li_getr d119_43 fa_11_47 h0 rfl rfl rfl (by decide)) ?_
          refine Eq.trans (li_ivV d119_46 ca_11_168 kd_81 kl_81 (by rfl) (by rfl) (sf_of h0 6 (by decide) (by decide)) (Nat.le_of_ble_eq_true rfl) (Nat.le_of_ble_eq_true rfl)) ?_
          refine lt_cV_c (fun m2 => ?_)
          refine Eq.trans (li_iload_n d119_49 (by rfl)) ?_
          refine Eq.trans (li_aload_n d119_50 (by rfl)) ?_
          refine Eq.trans (li_geti d119_51 fa_11_266 g1 rfl) ?_
          refine Eq.trans (li_icmp_ne (t := 73) d119_54 (by rfl)) ?_
          refine lt_ite (fun c4 => ?_) (fun c4 => ?_)
          · refine Eq.trans (li_aload_n d119_73 (by rfl)) ?_
            refine Eq.trans (li_geti d119_74 fa_11_266 g1 rfl) ?_
            refine Eq.trans (li_iload_n d119_77 (by rfl)) ?_
            refine Eq.trans (li_isub d119_78) ?_
            refine Eq.trans (li_aload_n d119_79 (by rfl)) ?_
            refine Eq.trans (li_getnet d119_80 fa_11_61 h0) ?_
            refine Eq.trans (li_aload_n d119_83 (by rfl)) ?_
            refine Eq.trans (li_geti d119_84 fa_11_272 g1 rfl) ?_
            refine Eq.trans (li_ginv d119_87 ca_11_211 kl_25 (by rfl)) ?_
            refine lt_gd_c (fun g2 => ?_)
            refine Eq.trans (li_ivI d119_87 ca_11_211 kd_25 kl_25 (by rfl) (by rfl) g2 (Nat.le_of_ble_eq_true rfl) (Nat.le_of_ble_eq_true rfl)) ?_
            refine lt_cI_c (fun v2 m3 => ?_)
            refine Eq.trans (li_imul d119_90) ?_
            refine Eq.trans (li_istore (ls' := [some (.inr (.inr (some a0))), some (.inl x1), some (.inl x2), some (.inr (.inr (some q1))), some (.inl (((m2.1 q1 3) - x2) * v2))]) d119_91 (by decide) (by rfl)) ?_
            refine Eq.trans (li_aload_n d119_93 (by rfl)) ?_
            refine Eq.trans (li_aload_n d119_94 (by rfl)) ?_
            refine Eq.trans (li_geti d119_95 fa_11_259 g1 rfl) ?_
            refine Eq.trans (li_if_eq (t := 108) d119_98 (by rfl)) ?_
            refine lt_ite (fun c5 => ?_) (fun c5 => ?_)
            · refine Eq.trans (li_iload d119_108 (by rfl)) ?_
              refine Eq.trans (li_ivV d119_110 ca_11_275 kd_120 kl_120 (by rfl) (by rfl) g1 (Nat.le_of_ble_eq_true rfl) (Nat.le_of_ble_eq_true rfl)) ?_
              refine lt_cV_c (fun m4 => ?_)
              refine Eq.trans (li_aload_n d119_113 (by rfl)) ?_
              refine Eq.trans (li_getr d119_114 fa_11_47 h0 rfl rfl rfl (by decide)) ?_
              refine Eq.trans (li_iconst d119_117 ic_5) ?_
              refine Eq.trans (li_aload_n d119_118 (by rfl)) ?_
              refine Eq.trans (li_ivV d119_119 ca_11_233 kd_111 kl_111 (by rfl) (by rfl) (sf_of h0 5 (by decide) (by decide)) (Nat.le_of_ble_eq_true rfl) (Nat.le_of_ble_eq_true rfl)) ?_
              refine lt_cV_c (fun m5 => ?_)
              refine Eq.trans (li_aload_n d119_122 (by rfl)) ?_
              refine Eq.trans (li_geti d119_123 fa_11_278 g1 rfl) ?_
              exact li_iret d119_126 rfl
            · refine Eq.trans (li_iconst d119_101 ic_2) ?_
              refine Eq.trans (li_iload d119_102 (by rfl)) ?_
              refine Eq.trans (li_imul d119_104) ?_
              refine Eq.trans (li_goto (t := 110) d119_105 (by rfl)) ?_
              refine Eq.trans (li_ivV d119_110 ca_11_275 kd_120 kl_120 (by rfl) (by rfl) g1 (Nat.le_of_ble_eq_true rfl) (Nat.le_of_ble_eq_true rfl)) ?_
              refine lt_cV_c (fun m6 => ?_)
              refine Eq.trans (li_aload_n d119_113 (by rfl)) ?_
              refine Eq.trans (li_getr d119_114 fa_11_47 h0 rfl rfl rfl (by decide)) ?_
              refine Eq.trans (li_iconst d119_117 ic_5) ?_
              refine Eq.trans (li_aload_n d119_118 (by rfl)) ?_
              refine Eq.trans (li_ivV d119_119 ca_11_233 kd_111 kl_111 (by rfl) (by rfl) (sf_of h0 5 (by decide) (by decide)) (Nat.le_of_ble_eq_true rfl) (Nat.le_of_ble_eq_true rfl)) ?_
              refine lt_cV_c (fun m7 => ?_)
              refine Eq.trans (li_aload_n d119_122 (by rfl)) ?_
              refine Eq.trans (li_geti d119_123 fa_11_278 g1 rfl) ?_
              exact li_iret d119_126 rfl
          · refine Eq.trans (li_aload_n d119_57 (by rfl)) ?_
            refine Eq.trans (li_iconst d119_58 ic_2) ?_
            refine Eq.trans (li_puti d119_59 fa_11_269 g1 rfl rfl) ?_
            refine Eq.trans (li_aload_n d119_62 (by rfl)) ?_
            refine Eq.trans (li_getr d119_63 fa_11_47 h0 rfl rfl rfl (by decide)) ?_
            refine Eq.trans (li_iconst d119_66 ic_3) ?_
            refine Eq.trans (li_aload_n d119_67 (by rfl)) ?_
            refine Eq.trans (li_ivV d119_68 ca_11_233 kd_111 kl_111 (by rfl) (by rfl) (sf_of h0 5 (by decide) (by decide)) (Nat.le_of_ble_eq_true rfl) (Nat.le_of_ble_eq_true rfl)) ?_
            refine lt_cV_c (fun m8 => ?_)
            refine Eq.trans (li_iconst d119_71 ic_0) ?_
            exact li_iret d119_72 rfl
        · refine Eq.trans (li_bipush d119_35 bi_n2) ?_
          exact li_iret d119_37 rfl
      · refine Eq.trans (li_iconst d119_25 ic_n1) ?_
        exact li_iret d119_26 rfl
/-! TransitSeals$Movement.owe(I)V -/
theorem d120_0 : decode Y120.2.1 0 = .ok (.aload_n 0, 1) := by decide +kernel
theorem d120_1 : decode Y120.2.1 1 = .ok (.iconst 4, 1) := by decide +kernel
theorem d120_2 : decode Y120.2.1 2 = .ok (.putfield 9, 3) := by decide +kernel
theorem d120_5 : decode Y120.2.1 5 = .ok (.aload_n 0, 1) := by decide +kernel
theorem d120_6 : decode Y120.2.1 6 = .ok (.iload_n 1, 1) := by decide +kernel
theorem d120_7 : decode Y120.2.1 7 = .ok (.putfield 75, 3) := by decide +kernel
theorem d120_10 : decode Y120.2.1 10 = .ok (.return_, 1) := by decide +kernel
theorem E120 (d : Nat) (a0 : Nat) (x1 : Int32) (h0 : ts_sh a0 = (0, 4)) (m : lt_m) : lt_ev (d + 1) 120 [.inr (.inr (some a0)), .inl x1] m = some (none, (lm_i (lm_i m a0 7 (4 : Int32)) a0 10 x1)) := by
  refine Eq.trans (lt_enter2 (ls := [some (.inr (.inr (some a0))), some (.inl x1)]) hY120 (Nat.le_of_ble_eq_true rfl) (by rfl)) ?_
  refine Eq.trans (li_aload_n d120_0 (by rfl)) ?_
  refine Eq.trans (li_iconst d120_1 ic_4) ?_
  refine Eq.trans (li_puti d120_2 fa_4_9 h0 rfl rfl) ?_
  refine Eq.trans (li_aload_n d120_5 (by rfl)) ?_
  refine Eq.trans (li_iload_n d120_6 (by rfl)) ?_
  refine Eq.trans (li_puti d120_7 fa_4_75 h0 rfl rfl) ?_
  exact li_vret d120_10 rfl
/-! TransitSeals.proves(I)I -/
theorem d121_0 : decode Y121.2.1 0 = .ok (.aload_n 0, 1) := by decide +kernel
theorem d121_1 : decode Y121.2.1 1 = .ok (.getfield 47, 3) := by decide +kernel
theorem d121_4 : decode Y121.2.1 4 = .ok (.iload_n 1, 1) := by decide +kernel
theorem d121_5 : decode Y121.2.1 5 = .ok (.invokevirtual 240, 3) := by decide +kernel
theorem d121_8 : decode Y121.2.1 8 = .ok (.astore_n 2, 1) := by decide +kernel
theorem d121_9 : decode Y121.2.1 9 = .ok (.aload_n 2, 1) := by decide +kernel
theorem d121_10 : decode Y121.2.1 10 = .ok (.ifnonnull 5, 3) := by decide +kernel
theorem d121_13 : decode Y121.2.1 13 = .ok (.iconst (-1), 1) := by decide +kernel
theorem d121_14 : decode Y121.2.1 14 = .ok (.ireturn, 1) := by decide +kernel
theorem d121_15 : decode Y121.2.1 15 = .ok (.aload_n 2, 1) := by decide +kernel
theorem d121_16 : decode Y121.2.1 16 = .ok (.getfield 269, 3) := by decide +kernel
theorem d121_19 : decode Y121.2.1 19 = .ok (.iconst 3, 1) := by decide +kernel
theorem d121_20 : decode Y121.2.1 20 = .ok (.if_icmp .eq 6, 3) := by decide +kernel
theorem d121_23 : decode Y121.2.1 23 = .ok (.bipush (-2), 2) := by decide +kernel
theorem d121_25 : decode Y121.2.1 25 = .ok (.ireturn, 1) := by decide +kernel
theorem d121_26 : decode Y121.2.1 26 = .ok (.aload_n 2, 1) := by decide +kernel
theorem d121_27 : decode Y121.2.1 27 = .ok (.getfield 259, 3) := by decide +kernel
theorem d121_30 : decode Y121.2.1 30 = .ok (.ifCond .eq 6, 3) := by decide +kernel
theorem d121_33 : decode Y121.2.1 33 = .ok (.bipush (-3), 2) := by decide +kernel
theorem d121_35 : decode Y121.2.1 35 = .ok (.ireturn, 1) := by decide +kernel
theorem d121_36 : decode Y121.2.1 36 = .ok (.aload_n 0, 1) := by decide +kernel
theorem d121_37 : decode Y121.2.1 37 = .ok (.getfield 54, 3) := by decide +kernel
theorem d121_40 : decode Y121.2.1 40 = .ok (.aload_n 0, 1) := by decide +kernel
theorem d121_41 : decode Y121.2.1 41 = .ok (.getfield 47, 3) := by decide +kernel
theorem d121_44 : decode Y121.2.1 44 = .ok (.invokevirtual 168, 3) := by decide +kernel
theorem d121_47 : decode Y121.2.1 47 = .ok (.aload_n 2, 1) := by decide +kernel
theorem d121_48 : decode Y121.2.1 48 = .ok (.aload_n 0, 1) := by decide +kernel
theorem d121_49 : decode Y121.2.1 49 = .ok (.getfield 47, 3) := by decide +kernel
theorem d121_52 : decode Y121.2.1 52 = .ok (.getfield 223, 3) := by decide +kernel
theorem d121_55 : decode Y121.2.1 55 = .ok (.invokevirtual 281, 3) := by decide +kernel
theorem d121_58 : decode Y121.2.1 58 = .ok (.istore_n 3, 1) := by decide +kernel
theorem d121_59 : decode Y121.2.1 59 = .ok (.aload_n 2, 1) := by decide +kernel
theorem d121_60 : decode Y121.2.1 60 = .ok (.iconst 2, 1) := by decide +kernel
theorem d121_61 : decode Y121.2.1 61 = .ok (.putfield 269, 3) := by decide +kernel
theorem d121_64 : decode Y121.2.1 64 = .ok (.aload_n 0, 1) := by decide +kernel
theorem d121_65 : decode Y121.2.1 65 = .ok (.getfield 47, 3) := by decide +kernel
theorem d121_68 : decode Y121.2.1 68 = .ok (.iconst 3, 1) := by decide +kernel
theorem d121_69 : decode Y121.2.1 69 = .ok (.aload_n 2, 1) := by decide +kernel
theorem d121_70 : decode Y121.2.1 70 = .ok (.invokevirtual 233, 3) := by decide +kernel
theorem d121_73 : decode Y121.2.1 73 = .ok (.iload_n 3, 1) := by decide +kernel
theorem d121_74 : decode Y121.2.1 74 = .ok (.ireturn, 1) := by decide +kernel
theorem E121 (d : Nat) (a0 : Nat) (x1 : Int32) (h0 : ts_sh a0 = (0, 11)) (m : lt_m) : lt_ev (d + 1) 121 [.inr (.inr (some a0)), .inl x1] m = lt_cR (lt_ev d 114 [.inr (.inr (some (a0 + 13))), .inl x1] m) (fun v1 m1 => (lt_nl v1 (some (some (.inl (-1 : Int32)), m1)) (fun q1 => (lt_gd (ts_sh q1 = (0, 4)) (if (m1.1 q1 7) = (3 : Int32) then (if (m1.1 q1 11) = 0 then (lt_cV (lt_ev d 81 [.inr (.inr (some (a0 + 81))), .inr (.inr (some (a0 + 13)))] m1) (fun m2 => (lt_cI (lt_ev d 122 [.inr (.inr (some q1)), .inl (m2.1 (a0 + 13) 4)] m2) (fun v2 m3 => (lt_cV (lt_ev d 111 [.inr (.inr (some (a0 + 13))), .inl (3 : Int32), .inr (.inr (some q1))] (lm_i m3 q1 7 (2 : Int32))) (fun m4 => (some (some (.inl v2), m4)))))))) else (some (some (.inl (-3 : Int32)), m1))) else (some (some (.inl (-2 : Int32)), m1))))))) := by
  refine Eq.trans (lt_enter2 (ls := [some (.inr (.inr (some a0))), some (.inl x1), none, none]) hY121 (Nat.le_of_ble_eq_true rfl) (by rfl)) ?_
  refine Eq.trans (li_aload_n d121_0 (by rfl)) ?_
  refine Eq.trans (li_getr d121_1 fa_11_47 h0 rfl rfl rfl (by decide)) ?_
  refine Eq.trans (li_iload_n d121_4 (by rfl)) ?_
  refine Eq.trans (li_ivR d121_5 ca_11_240 kd_114 kl_114 (by rfl) (by rfl) (sf_of h0 5 (by decide) (by decide)) (Nat.le_of_ble_eq_true rfl) (Nat.le_of_ble_eq_true rfl)) ?_
  refine lt_cR_c (fun v1 m1 => ?_)
  refine Eq.trans (li_astore_n (ls' := [some (.inr (.inr (some a0))), some (.inl x1), some (.inr (.inr v1)), none]) d121_8 (by decide) (by rfl)) ?_
  refine Eq.trans (li_aload_n d121_9 (by rfl)) ?_
  refine lt_nl_x (F := fun oz => lt_run d Y121 10 [some (.inr (.inr (some a0))), some (.inl x1), some (.inr (.inr oz)), none] [.inr (.inr oz)] m1) ?_ (fun q1 => ?_)
  · refine Eq.trans (li_ifnonnull_n d121_10) ?_
    refine Eq.trans (li_iconst d121_13 ic_n1) ?_
    exact li_iret d121_14 rfl
  · refine Eq.trans (li_ifnonnull_s (t := 15) d121_10 (by rfl)) ?_
    refine Eq.trans (li_aload_n d121_15 (by rfl)) ?_
    refine Eq.trans (li_gget d121_16 fa_11_269) ?_
    refine lt_gd_c (fun g1 => ?_)
    refine Eq.trans (li_geti d121_16 fa_11_269 g1 rfl) ?_
    refine Eq.trans (li_iconst d121_19 ic_3) ?_
    refine Eq.trans (li_icmp_eq (t := 26) d121_20 (by rfl)) ?_
    refine lt_ite (fun c1 => ?_) (fun c1 => ?_)
    · refine Eq.trans (li_aload_n d121_26 (by rfl)) ?_
      refine Eq.trans (li_geti d121_27 fa_11_259 g1 rfl) ?_
      refine Eq.trans (li_if_eq (t := 36) d121_30 (by rfl)) ?_
      refine lt_ite (fun c2 => ?_) (fun c2 => ?_)
      · refine Eq.trans (li_aload_n d121_36 (by rfl)) ?_
        refine Eq.trans (li_getr d121_37 fa_11_54 h0 rfl rfl rfl (by decide)) ?_
        refine Eq.trans (li_aload_n d121_40 (by rfl)) ?_
        refine Eq.trans (li_getr d121_41 fa_11_47 h0 rfl rfl rfl (by decide)) ?_
        refine Eq.trans (li_ivV d121_44 ca_11_168 kd_81 kl_81 (by rfl) (by rfl) (sf_of h0 6 (by decide) (by decide)) (Nat.le_of_ble_eq_true rfl) (Nat.le_of_ble_eq_true rfl)) ?_
        refine lt_cV_c (fun m2 => ?_)
        refine Eq.trans (li_aload_n d121_47 (by rfl)) ?_
        refine Eq.trans (li_aload_n d121_48 (by rfl)) ?_
        refine Eq.trans (li_getr d121_49 fa_11_47 h0 rfl rfl rfl (by decide)) ?_
        refine Eq.trans (li_geti d121_52 fa_11_223 (sf_of h0 5 (by decide) (by decide)) rfl) ?_
        refine Eq.trans (li_ivI d121_55 ca_11_281 kd_122 kl_122 (by rfl) (by rfl) g1 (Nat.le_of_ble_eq_true rfl) (Nat.le_of_ble_eq_true rfl)) ?_
        refine lt_cI_c (fun v2 m3 => ?_)
        refine Eq.trans (li_istore_n (ls' := [some (.inr (.inr (some a0))), some (.inl x1), some (.inr (.inr (some q1))), some (.inl v2)]) d121_58 (by decide) (by rfl)) ?_
        refine Eq.trans (li_aload_n d121_59 (by rfl)) ?_
        refine Eq.trans (li_iconst d121_60 ic_2) ?_
        refine Eq.trans (li_puti d121_61 fa_11_269 g1 rfl rfl) ?_
        refine Eq.trans (li_aload_n d121_64 (by rfl)) ?_
        refine Eq.trans (li_getr d121_65 fa_11_47 h0 rfl rfl rfl (by decide)) ?_
        refine Eq.trans (li_iconst d121_68 ic_3) ?_
        refine Eq.trans (li_aload_n d121_69 (by rfl)) ?_
        refine Eq.trans (li_ivV d121_70 ca_11_233 kd_111 kl_111 (by rfl) (by rfl) (sf_of h0 5 (by decide) (by decide)) (Nat.le_of_ble_eq_true rfl) (Nat.le_of_ble_eq_true rfl)) ?_
        refine lt_cV_c (fun m4 => ?_)
        refine Eq.trans (li_iload_n d121_73 (by rfl)) ?_
        exact li_iret d121_74 rfl
      · refine Eq.trans (li_bipush d121_33 bi_n3) ?_
        exact li_iret d121_35 rfl
    · refine Eq.trans (li_bipush d121_23 bi_n2) ?_
      exact li_iret d121_25 rfl
/-! TransitSeals$Movement.step(I)I -/
theorem d122_0 : decode Y122.2.1 0 = .ok (.aload_n 0, 1) := by decide +kernel
theorem d122_1 : decode Y122.2.1 1 = .ok (.getfield 9, 3) := by decide +kernel
theorem d122_4 : decode Y122.2.1 4 = .ok (.iconst 3, 1) := by decide +kernel
theorem d122_5 : decode Y122.2.1 5 = .ok (.if_icmp .ne 15, 3) := by decide +kernel
theorem d122_8 : decode Y122.2.1 8 = .ok (.iload_n 1, 1) := by decide +kernel
theorem d122_9 : decode Y122.2.1 9 = .ok (.aload_n 0, 1) := by decide +kernel
theorem d122_10 : decode Y122.2.1 10 = .ok (.getfield 48, 3) := by decide +kernel
theorem d122_13 : decode Y122.2.1 13 = .ok (.isub, 1) := by decide +kernel
theorem d122_14 : decode Y122.2.1 14 = .ok (.bipush 24, 2) := by decide +kernel
theorem d122_16 : decode Y122.2.1 16 = .ok (.idiv, 1) := by decide +kernel
theorem d122_17 : decode Y122.2.1 17 = .ok (.goto 4, 3) := by decide +kernel
theorem d122_20 : decode Y122.2.1 20 = .ok (.iconst 0, 1) := by decide +kernel
theorem d122_21 : decode Y122.2.1 21 = .ok (.ireturn, 1) := by decide +kernel
theorem E122 (d : Nat) (a0 : Nat) (x1 : Int32) (h0 : ts_sh a0 = (0, 4)) (m : lt_m) : lt_ev (d + 1) 122 [.inr (.inr (some a0)), .inl x1] m = if ¬ (m.1 a0 7) = (3 : Int32) then (some (some (.inl (0 : Int32)), m)) else (some (some (.inl ((x1 - (m.1 a0 6)) / (24 : Int32))), m)) := by
  refine Eq.trans (lt_enter2 (ls := [some (.inr (.inr (some a0))), some (.inl x1)]) hY122 (Nat.le_of_ble_eq_true rfl) (by rfl)) ?_
  refine Eq.trans (li_aload_n d122_0 (by rfl)) ?_
  refine Eq.trans (li_geti d122_1 fa_4_9 h0 rfl) ?_
  refine Eq.trans (li_iconst d122_4 ic_3) ?_
  refine Eq.trans (li_icmp_ne (t := 20) d122_5 (by rfl)) ?_
  refine lt_ite (fun c1 => ?_) (fun c1 => ?_)
  · refine Eq.trans (li_iconst d122_20 ic_0) ?_
    exact li_iret d122_21 rfl
  · refine Eq.trans (li_iload_n d122_8 (by rfl)) ?_
    refine Eq.trans (li_aload_n d122_9 (by rfl)) ?_
    refine Eq.trans (li_geti d122_10 fa_4_48 h0 rfl) ?_
    refine Eq.trans (li_isub d122_13) ?_
    refine Eq.trans (li_bipush d122_14 bi_24) ?_
    refine Eq.trans (li_idiv d122_16) ?_
    refine Eq.trans (lt_gd_t (by decide)) ?_
    refine Eq.trans (li_goto (t := 21) d122_17 (by rfl)) ?_
    exact li_iret d122_21 rfl
/-! TransitSeals.pays(I)I -/
theorem d123_0 : decode Y123.2.1 0 = .ok (.aload_n 0, 1) := by decide +kernel
theorem d123_1 : decode Y123.2.1 1 = .ok (.getfield 47, 3) := by decide +kernel
theorem d123_4 : decode Y123.2.1 4 = .ok (.iload_n 1, 1) := by decide +kernel
theorem d123_5 : decode Y123.2.1 5 = .ok (.invokevirtual 240, 3) := by decide +kernel
theorem d123_8 : decode Y123.2.1 8 = .ok (.astore_n 2, 1) := by decide +kernel
theorem d123_9 : decode Y123.2.1 9 = .ok (.aload_n 2, 1) := by decide +kernel
theorem d123_10 : decode Y123.2.1 10 = .ok (.ifnonnull 5, 3) := by decide +kernel
theorem d123_13 : decode Y123.2.1 13 = .ok (.iconst (-1), 1) := by decide +kernel
theorem d123_14 : decode Y123.2.1 14 = .ok (.ireturn, 1) := by decide +kernel
theorem d123_15 : decode Y123.2.1 15 = .ok (.aload_n 2, 1) := by decide +kernel
theorem d123_16 : decode Y123.2.1 16 = .ok (.getfield 269, 3) := by decide +kernel
theorem d123_19 : decode Y123.2.1 19 = .ok (.iconst 4, 1) := by decide +kernel
theorem d123_20 : decode Y123.2.1 20 = .ok (.if_icmp .eq 6, 3) := by decide +kernel
theorem d123_23 : decode Y123.2.1 23 = .ok (.bipush (-2), 2) := by decide +kernel
theorem d123_25 : decode Y123.2.1 25 = .ok (.ireturn, 1) := by decide +kernel
theorem d123_26 : decode Y123.2.1 26 = .ok (.aload_n 0, 1) := by decide +kernel
theorem d123_27 : decode Y123.2.1 27 = .ok (.getfield 54, 3) := by decide +kernel
theorem d123_30 : decode Y123.2.1 30 = .ok (.aload_n 0, 1) := by decide +kernel
theorem d123_31 : decode Y123.2.1 31 = .ok (.getfield 47, 3) := by decide +kernel
theorem d123_34 : decode Y123.2.1 34 = .ok (.invokevirtual 168, 3) := by decide +kernel
theorem d123_37 : decode Y123.2.1 37 = .ok (.aload_n 2, 1) := by decide +kernel
theorem d123_38 : decode Y123.2.1 38 = .ok (.iconst 5, 1) := by decide +kernel
theorem d123_39 : decode Y123.2.1 39 = .ok (.putfield 269, 3) := by decide +kernel
theorem d123_42 : decode Y123.2.1 42 = .ok (.aload_n 0, 1) := by decide +kernel
theorem d123_43 : decode Y123.2.1 43 = .ok (.getfield 47, 3) := by decide +kernel
theorem d123_46 : decode Y123.2.1 46 = .ok (.bipush 6, 2) := by decide +kernel
theorem d123_48 : decode Y123.2.1 48 = .ok (.aload_n 2, 1) := by decide +kernel
theorem d123_49 : decode Y123.2.1 49 = .ok (.invokevirtual 233, 3) := by decide +kernel
theorem d123_52 : decode Y123.2.1 52 = .ok (.aload_n 2, 1) := by decide +kernel
theorem d123_53 : decode Y123.2.1 53 = .ok (.getfield 278, 3) := by decide +kernel
theorem d123_56 : decode Y123.2.1 56 = .ok (.ireturn, 1) := by decide +kernel
theorem E123 (d : Nat) (a0 : Nat) (x1 : Int32) (h0 : ts_sh a0 = (0, 11)) (m : lt_m) : lt_ev (d + 1) 123 [.inr (.inr (some a0)), .inl x1] m = lt_cR (lt_ev d 114 [.inr (.inr (some (a0 + 13))), .inl x1] m) (fun v1 m1 => (lt_nl v1 (some (some (.inl (-1 : Int32)), m1)) (fun q1 => (lt_gd (ts_sh q1 = (0, 4)) (if (m1.1 q1 7) = (4 : Int32) then (lt_cV (lt_ev d 81 [.inr (.inr (some (a0 + 81))), .inr (.inr (some (a0 + 13)))] m1) (fun m2 => (lt_cV (lt_ev d 111 [.inr (.inr (some (a0 + 13))), .inl (6 : Int32), .inr (.inr (some q1))] (lm_i m2 q1 7 (5 : Int32))) (fun m3 => (some (some (.inl (m3.1 q1 10)), m3)))))) else (some (some (.inl (-2 : Int32)), m1))))))) := by
  refine Eq.trans (lt_enter2 (ls := [some (.inr (.inr (some a0))), some (.inl x1), none]) hY123 (Nat.le_of_ble_eq_true rfl) (by rfl)) ?_
  refine Eq.trans (li_aload_n d123_0 (by rfl)) ?_
  refine Eq.trans (li_getr d123_1 fa_11_47 h0 rfl rfl rfl (by decide)) ?_
  refine Eq.trans (li_iload_n d123_4 (by rfl)) ?_
  refine Eq.trans (li_ivR d123_5 ca_11_240 kd_114 kl_114 (by rfl) (by rfl) (sf_of h0 5 (by decide) (by decide)) (Nat.le_of_ble_eq_true rfl) (Nat.le_of_ble_eq_true rfl)) ?_
  refine lt_cR_c (fun v1 m1 => ?_)
  refine Eq.trans (li_astore_n (ls' := [some (.inr (.inr (some a0))), some (.inl x1), some (.inr (.inr v1))]) d123_8 (by decide) (by rfl)) ?_
  refine Eq.trans (li_aload_n d123_9 (by rfl)) ?_
  refine lt_nl_x (F := fun oz => lt_run d Y123 10 [some (.inr (.inr (some a0))), some (.inl x1), some (.inr (.inr oz))] [.inr (.inr oz)] m1) ?_ (fun q1 => ?_)
  · refine Eq.trans (li_ifnonnull_n d123_10) ?_
    refine Eq.trans (li_iconst d123_13 ic_n1) ?_
    exact li_iret d123_14 rfl
  · refine Eq.trans (li_ifnonnull_s (t := 15) d123_10 (by rfl)) ?_
    refine Eq.trans (li_aload_n d123_15 (by rfl)) ?_
    refine Eq.trans (li_gget d123_16 fa_11_269) ?_
    refine lt_gd_c (fun g1 => ?_)
    refine Eq.trans (li_geti d123_16 fa_11_269 g1 rfl) ?_
    refine Eq.trans (li_iconst d123_19 ic_4) ?_
    refine Eq.trans (li_icmp_eq (t := 26) d123_20 (by rfl)) ?_
    refine lt_ite (fun c1 => ?_) (fun c1 => ?_)
    · refine Eq.trans (li_aload_n d123_26 (by rfl)) ?_
      refine Eq.trans (li_getr d123_27 fa_11_54 h0 rfl rfl rfl (by decide)) ?_
      refine Eq.trans (li_aload_n d123_30 (by rfl)) ?_
      refine Eq.trans (li_getr d123_31 fa_11_47 h0 rfl rfl rfl (by decide)) ?_
      refine Eq.trans (li_ivV d123_34 ca_11_168 kd_81 kl_81 (by rfl) (by rfl) (sf_of h0 6 (by decide) (by decide)) (Nat.le_of_ble_eq_true rfl) (Nat.le_of_ble_eq_true rfl)) ?_
      refine lt_cV_c (fun m2 => ?_)
      refine Eq.trans (li_aload_n d123_37 (by rfl)) ?_
      refine Eq.trans (li_iconst d123_38 ic_5) ?_
      refine Eq.trans (li_puti d123_39 fa_11_269 g1 rfl rfl) ?_
      refine Eq.trans (li_aload_n d123_42 (by rfl)) ?_
      refine Eq.trans (li_getr d123_43 fa_11_47 h0 rfl rfl rfl (by decide)) ?_
      refine Eq.trans (li_bipush d123_46 bi_6) ?_
      refine Eq.trans (li_aload_n d123_48 (by rfl)) ?_
      refine Eq.trans (li_ivV d123_49 ca_11_233 kd_111 kl_111 (by rfl) (by rfl) (sf_of h0 5 (by decide) (by decide)) (Nat.le_of_ble_eq_true rfl) (Nat.le_of_ble_eq_true rfl)) ?_
      refine lt_cV_c (fun m3 => ?_)
      refine Eq.trans (li_aload_n d123_52 (by rfl)) ?_
      refine Eq.trans (li_geti d123_53 fa_11_278 g1 rfl) ?_
      exact li_iret d123_56 rfl
    · refine Eq.trans (li_bipush d123_23 bi_n2) ?_
      exact li_iret d123_25 rfl
/-! TransitSeals.hours(I)I -/
theorem d124_0 : decode Y124.2.1 0 = .ok (.iload_n 1, 1) := by decide +kernel
theorem d124_1 : decode Y124.2.1 1 = .ok (.iconst 1, 1) := by decide +kernel
theorem d124_2 : decode Y124.2.1 2 = .ok (.if_icmp .lt 25, 3) := by decide +kernel
theorem d124_5 : decode Y124.2.1 5 = .ok (.iload_n 1, 1) := by decide +kernel
theorem d124_6 : decode Y124.2.1 6 = .ok (.sipush 999, 3) := by decide +kernel
theorem d124_9 : decode Y124.2.1 9 = .ok (.if_icmp .gt 18, 3) := by decide +kernel
theorem d124_12 : decode Y124.2.1 12 = .ok (.aload_n 0, 1) := by decide +kernel
theorem d124_13 : decode Y124.2.1 13 = .ok (.getfield 47, 3) := by decide +kernel
theorem d124_16 : decode Y124.2.1 16 = .ok (.getfield 223, 3) := by decide +kernel
theorem d124_19 : decode Y124.2.1 19 = .ok (.iload_n 1, 1) := by decide +kernel
theorem d124_20 : decode Y124.2.1 20 = .ok (.iadd, 1) := by decide +kernel
theorem d124_21 : decode Y124.2.1 21 = .ok (.ldc_w 284, 3) := by decide +kernel
theorem d124_24 : decode Y124.2.1 24 = .ok (.if_icmp .le 5, 3) := by decide +kernel
theorem d124_27 : decode Y124.2.1 27 = .ok (.iconst (-1), 1) := by decide +kernel
theorem d124_28 : decode Y124.2.1 28 = .ok (.ireturn, 1) := by decide +kernel
theorem d124_29 : decode Y124.2.1 29 = .ok (.aload_n 0, 1) := by decide +kernel
theorem d124_30 : decode Y124.2.1 30 = .ok (.getfield 54, 3) := by decide +kernel
theorem d124_33 : decode Y124.2.1 33 = .ok (.aload_n 0, 1) := by decide +kernel
theorem d124_34 : decode Y124.2.1 34 = .ok (.getfield 47, 3) := by decide +kernel
theorem d124_37 : decode Y124.2.1 37 = .ok (.invokevirtual 168, 3) := by decide +kernel
theorem d124_40 : decode Y124.2.1 40 = .ok (.aload_n 0, 1) := by decide +kernel
theorem d124_41 : decode Y124.2.1 41 = .ok (.getfield 47, 3) := by decide +kernel
theorem d124_44 : decode Y124.2.1 44 = .ok (.iload_n 1, 1) := by decide +kernel
theorem d124_45 : decode Y124.2.1 45 = .ok (.invokevirtual 285, 3) := by decide +kernel
theorem d124_48 : decode Y124.2.1 48 = .ok (.ireturn, 1) := by decide +kernel
theorem E124 (d : Nat) (a0 : Nat) (x1 : Int32) (h0 : ts_sh a0 = (0, 11)) (m : lt_m) : lt_ev (d + 1) 124 [.inr (.inr (some a0)), .inl x1] m = if x1 < (1 : Int32) then (some (some (.inl (-1 : Int32)), m)) else (if (999 : Int32) < x1 then (some (some (.inl (-1 : Int32)), m)) else (if ((m.1 (a0 + 13) 4) + x1) ≤ (99999 : Int32) then (lt_cV (lt_ev d 81 [.inr (.inr (some (a0 + 81))), .inr (.inr (some (a0 + 13)))] m) (fun m1 => (lt_cI (lt_ev d 125 [.inr (.inr (some (a0 + 13))), .inl x1] m1) (fun v1 m2 => (some (some (.inl v1), m2)))))) else (some (some (.inl (-1 : Int32)), m)))) := by
  refine Eq.trans (lt_enter2 (ls := [some (.inr (.inr (some a0))), some (.inl x1)]) hY124 (Nat.le_of_ble_eq_true rfl) (by rfl)) ?_
  refine Eq.trans (li_iload_n d124_0 (by rfl)) ?_
  refine Eq.trans (li_iconst d124_1 ic_1) ?_
  refine Eq.trans (li_icmp_lt (t := 27) d124_2 (by rfl)) ?_
  refine lt_ite (fun c1 => ?_) (fun c1 => ?_)
  · refine Eq.trans (li_iconst d124_27 ic_n1) ?_
    exact li_iret d124_28 rfl
  · refine Eq.trans (li_iload_n d124_5 (by rfl)) ?_
    refine Eq.trans (li_sipush d124_6 si_999) ?_
    refine Eq.trans (li_icmp_gt (t := 27) d124_9 (by rfl)) ?_
    refine lt_ite (fun c2 => ?_) (fun c2 => ?_)
    · refine Eq.trans (li_iconst d124_27 ic_n1) ?_
      exact li_iret d124_28 rfl
    · refine Eq.trans (li_aload_n d124_12 (by rfl)) ?_
      refine Eq.trans (li_getr d124_13 fa_11_47 h0 rfl rfl rfl (by decide)) ?_
      refine Eq.trans (li_geti d124_16 fa_11_223 (sf_of h0 5 (by decide) (by decide)) rfl) ?_
      refine Eq.trans (li_iload_n d124_19 (by rfl)) ?_
      refine Eq.trans (li_iadd d124_20) ?_
      refine Eq.trans (li_ldc_w d124_21 cI_11_284) ?_
      refine Eq.trans (li_icmp_le (t := 29) d124_24 (by rfl)) ?_
      refine lt_ite (fun c3 => ?_) (fun c3 => ?_)
      · refine Eq.trans (li_aload_n d124_29 (by rfl)) ?_
        refine Eq.trans (li_getr d124_30 fa_11_54 h0 rfl rfl rfl (by decide)) ?_
        refine Eq.trans (li_aload_n d124_33 (by rfl)) ?_
        refine Eq.trans (li_getr d124_34 fa_11_47 h0 rfl rfl rfl (by decide)) ?_
        refine Eq.trans (li_ivV d124_37 ca_11_168 kd_81 kl_81 (by rfl) (by rfl) (sf_of h0 6 (by decide) (by decide)) (Nat.le_of_ble_eq_true rfl) (Nat.le_of_ble_eq_true rfl)) ?_
        refine lt_cV_c (fun m1 => ?_)
        refine Eq.trans (li_aload_n d124_40 (by rfl)) ?_
        refine Eq.trans (li_getr d124_41 fa_11_47 h0 rfl rfl rfl (by decide)) ?_
        refine Eq.trans (li_iload_n d124_44 (by rfl)) ?_
        refine Eq.trans (li_ivI d124_45 ca_11_285 kd_125 kl_125 (by rfl) (by rfl) (sf_of h0 5 (by decide) (by decide)) (Nat.le_of_ble_eq_true rfl) (Nat.le_of_ble_eq_true rfl)) ?_
        refine lt_cI_c (fun v1 m2 => ?_)
        exact li_iret d124_48 rfl
      · refine Eq.trans (li_iconst d124_27 ic_n1) ?_
        exact li_iret d124_28 rfl
/-! TransitSeals$Ledger.letPass(I)I -/
theorem d125_0 : decode Y125.2.1 0 = .ok (.aload_n 0, 1) := by decide +kernel
theorem d125_1 : decode Y125.2.1 1 = .ok (.getfield 34, 3) := by decide +kernel
theorem d125_4 : decode Y125.2.1 4 = .ok (.iload_n 1, 1) := by decide +kernel
theorem d125_5 : decode Y125.2.1 5 = .ok (.iadd, 1) := by decide +kernel
theorem d125_6 : decode Y125.2.1 6 = .ok (.istore_n 2, 1) := by decide +kernel
theorem d125_7 : decode Y125.2.1 7 = .ok (.iconst 0, 1) := by decide +kernel
theorem d125_8 : decode Y125.2.1 8 = .ok (.istore_n 3, 1) := by decide +kernel
theorem d125_9 : decode Y125.2.1 9 = .ok (.iconst 0, 1) := by decide +kernel
theorem d125_10 : decode Y125.2.1 10 = .ok (.istore 4, 2) := by decide +kernel
theorem d125_12 : decode Y125.2.1 12 = .ok (.iload 4, 2) := by decide +kernel
theorem d125_14 : decode Y125.2.1 14 = .ok (.bipush 40, 2) := by decide +kernel
theorem d125_16 : decode Y125.2.1 16 = .ok (.if_icmp .ge 38, 3) := by decide +kernel
theorem d125_19 : decode Y125.2.1 19 = .ok (.aload_n 0, 1) := by decide +kernel
theorem d125_20 : decode Y125.2.1 20 = .ok (.iload_n 2, 1) := by decide +kernel
theorem d125_21 : decode Y125.2.1 21 = .ok (.invokevirtual 124, 3) := by decide +kernel
theorem d125_24 : decode Y125.2.1 24 = .ok (.astore 5, 2) := by decide +kernel
theorem d125_26 : decode Y125.2.1 26 = .ok (.aload 5, 2) := by decide +kernel
theorem d125_28 : decode Y125.2.1 28 = .ok (.ifnonnull 6, 3) := by decide +kernel
theorem d125_31 : decode Y125.2.1 31 = .ok (.goto 23, 3) := by decide +kernel
theorem d125_34 : decode Y125.2.1 34 = .ok (.aload_n 0, 1) := by decide +kernel
theorem d125_35 : decode Y125.2.1 35 = .ok (.aload 5, 2) := by decide +kernel
theorem d125_37 : decode Y125.2.1 37 = .ok (.invokevirtual 127, 3) := by decide +kernel
theorem d125_40 : decode Y125.2.1 40 = .ok (.iload_n 3, 1) := by decide +kernel
theorem d125_41 : decode Y125.2.1 41 = .ok (.aload 5, 2) := by decide +kernel
theorem d125_43 : decode Y125.2.1 43 = .ok (.invokevirtual 87, 3) := by decide +kernel
theorem d125_46 : decode Y125.2.1 46 = .ok (.ior, 1) := by decide +kernel
theorem d125_47 : decode Y125.2.1 47 = .ok (.istore_n 3, 1) := by decide +kernel
theorem d125_48 : decode Y125.2.1 48 = .ok (.iinc 4 1, 3) := by decide +kernel
theorem d125_51 : decode Y125.2.1 51 = .ok (.goto (-39), 3) := by decide +kernel
theorem d125_54 : decode Y125.2.1 54 = .ok (.aload_n 0, 1) := by decide +kernel
theorem d125_55 : decode Y125.2.1 55 = .ok (.iload_n 2, 1) := by decide +kernel
theorem d125_56 : decode Y125.2.1 56 = .ok (.putfield 34, 3) := by decide +kernel
theorem d125_59 : decode Y125.2.1 59 = .ok (.iload_n 3, 1) := by decide +kernel
theorem d125_60 : decode Y125.2.1 60 = .ok (.invokestatic 130, 3) := by decide +kernel
theorem d125_63 : decode Y125.2.1 63 = .ok (.ireturn, 1) := by decide +kernel
noncomputable def L125_12 (d : Nat) (a0 : Nat) (x1 : Int32) (x2 : Int32) (x3 : Int32) (x4 : Int32) (o5 : Option ts_V) (m : lt_m) : Option lt_r := lt_run d Y125 12 [some (.inr (.inr (some a0))), some (.inl x1), some (.inl x2), some (.inl x3), some (.inl x4), o5] [] m
theorem E125 (d : Nat) (a0 : Nat) (x1 : Int32) (h0 : ts_sh a0 = (0, 2)) (m : lt_m) : lt_ev (d + 1) 125 [.inr (.inr (some a0)), .inl x1] m = L125_12 d a0 x1 ((m.1 a0 4) + x1) (0 : Int32) (0 : Int32) none m := by
  refine Eq.trans (lt_enter2 (ls := [some (.inr (.inr (some a0))), some (.inl x1), none, none, none, none]) hY125 (Nat.le_of_ble_eq_true rfl) (by rfl)) ?_
  refine Eq.trans (li_aload_n d125_0 (by rfl)) ?_
  refine Eq.trans (li_geti d125_1 fa_2_34 h0 rfl) ?_
  refine Eq.trans (li_iload_n d125_4 (by rfl)) ?_
  refine Eq.trans (li_iadd d125_5) ?_
  refine Eq.trans (li_istore_n (ls' := [some (.inr (.inr (some a0))), some (.inl x1), some (.inl ((m.1 a0 4) + x1)), none, none, none]) d125_6 (by decide) (by rfl)) ?_
  refine Eq.trans (li_iconst d125_7 ic_0) ?_
  refine Eq.trans (li_istore_n (ls' := [some (.inr (.inr (some a0))), some (.inl x1), some (.inl ((m.1 a0 4) + x1)), some (.inl (0 : Int32)), none, none]) d125_8 (by decide) (by rfl)) ?_
  refine Eq.trans (li_iconst d125_9 ic_0) ?_
  refine Eq.trans (li_istore (ls' := [some (.inr (.inr (some a0))), some (.inl x1), some (.inl ((m.1 a0 4) + x1)), some (.inl (0 : Int32)), some (.inl (0 : Int32)), none]) d125_10 (by decide) (by rfl)) ?_
  rfl
theorem E125_12 (d : Nat) (a0 : Nat) (x1 : Int32) (x2 : Int32) (x3 : Int32) (x4 : Int32) (o5 : Option ts_V) (h0 : ts_sh a0 = (0, 2)) (m : lt_m) : L125_12 d a0 x1 x2 x3 x4 o5 m = if (40 : Int32) ≤ x4 then (lt_cI (lt_ev d 60 [.inl x3] (lm_i m a0 4 x2)) (fun v1 m1 => (some (some (.inl v1), m1)))) else (lt_cR (lt_ev d 126 [.inr (.inr (some a0)), .inl x2] m) (fun v2 m2 => (lt_nl v2 (lt_cI (lt_ev d 60 [.inl x3] (lm_i m2 a0 4 x2)) (fun v3 m3 => (some (some (.inl v3), m3)))) (fun q1 => (lt_cV (lt_ev d 128 [.inr (.inr (some a0)), .inr (.inr (some q1))] m2) (fun m4 => (lt_gd (ts_sh q1 = (0, 4)) (lt_cI (lt_ev d 65 [.inr (.inr (some q1))] m4) (fun v4 m5 => (L125_12 d a0 x1 x2 (x3 ||| v4) (x4 + (1 : Int32)) (some (.inr (.inr (some q1)))) m5)))))))))) := by
  show lt_run d Y125 12 [some (.inr (.inr (some a0))), some (.inl x1), some (.inl x2), some (.inl x3), some (.inl x4), o5] [] m = _
  refine Eq.trans (li_iload d125_12 (by rfl)) ?_
  refine Eq.trans (li_bipush d125_14 bi_40) ?_
  refine Eq.trans (li_icmp_ge (t := 54) d125_16 (by rfl)) ?_
  refine lt_ite (fun c1 => ?_) (fun c1 => ?_)
  · refine Eq.trans (li_aload_n d125_54 (by rfl)) ?_
    refine Eq.trans (li_iload_n d125_55 (by rfl)) ?_
    refine Eq.trans (li_puti d125_56 fa_2_34 h0 rfl rfl) ?_
    refine Eq.trans (li_iload_n d125_59 (by rfl)) ?_
    refine Eq.trans (li_isI d125_60 bi_2_130 ca_2_130 kd_60 (by rfl) (by rfl) (Nat.le_of_ble_eq_true rfl) (Nat.le_of_ble_eq_true rfl)) ?_
    refine lt_cI_c (fun v1 m1 => ?_)
    exact li_iret d125_63 rfl
  · refine Eq.trans (li_aload_n d125_19 (by rfl)) ?_
    refine Eq.trans (li_iload_n d125_20 (by rfl)) ?_
    refine Eq.trans (li_ivR d125_21 ca_2_124 kd_126 kl_126 (by rfl) (by rfl) h0 (Nat.le_of_ble_eq_true rfl) (Nat.le_of_ble_eq_true rfl)) ?_
    refine lt_cR_c (fun v2 m2 => ?_)
    refine Eq.trans (li_astore (ls' := [some (.inr (.inr (some a0))), some (.inl x1), some (.inl x2), some (.inl x3), some (.inl x4), some (.inr (.inr v2))]) d125_24 (by decide) (by rfl)) ?_
    refine Eq.trans (li_aload d125_26 (by rfl)) ?_
    refine lt_nl_x (F := fun oz => lt_run d Y125 28 [some (.inr (.inr (some a0))), some (.inl x1), some (.inl x2), some (.inl x3), some (.inl x4), some (.inr (.inr oz))] [.inr (.inr oz)] m2) ?_ (fun q1 => ?_)
    · refine Eq.trans (li_ifnonnull_n d125_28) ?_
      refine Eq.trans (li_goto (t := 54) d125_31 (by rfl)) ?_
      refine Eq.trans (li_aload_n d125_54 (by rfl)) ?_
      refine Eq.trans (li_iload_n d125_55 (by rfl)) ?_
      refine Eq.trans (li_puti d125_56 fa_2_34 h0 rfl rfl) ?_
      refine Eq.trans (li_iload_n d125_59 (by rfl)) ?_
      refine Eq.trans (li_isI d125_60 bi_2_130 ca_2_130 kd_60 (by rfl) (by rfl) (Nat.le_of_ble_eq_true rfl) (Nat.le_of_ble_eq_true rfl)) ?_
      refine lt_cI_c (fun v3 m3 => ?_)
      exact li_iret d125_63 rfl
    · refine Eq.trans (li_ifnonnull_s (t := 34) d125_28 (by rfl)) ?_
      refine Eq.trans (li_aload_n d125_34 (by rfl)) ?_
      refine Eq.trans (li_aload d125_35 (by rfl)) ?_
      refine Eq.trans (li_ivV d125_37 ca_2_127 kd_128 kl_128 (by rfl) (by rfl) h0 (Nat.le_of_ble_eq_true rfl) (Nat.le_of_ble_eq_true rfl)) ?_
      refine lt_cV_c (fun m4 => ?_)
      refine Eq.trans (li_iload_n d125_40 (by rfl)) ?_
      refine Eq.trans (li_aload d125_41 (by rfl)) ?_
      refine Eq.trans (li_ginv d125_43 ca_2_87 kl_65 (by rfl)) ?_
      refine lt_gd_c (fun g1 => ?_)
      refine Eq.trans (li_ivI d125_43 ca_2_87 kd_65 kl_65 (by rfl) (by rfl) g1 (Nat.le_of_ble_eq_true rfl) (Nat.le_of_ble_eq_true rfl)) ?_
      refine lt_cI_c (fun v4 m5 => ?_)
      refine Eq.trans (li_ior d125_46) ?_
      refine Eq.trans (li_istore_n (ls' := [some (.inr (.inr (some a0))), some (.inl x1), some (.inl x2), some (.inl (x3 ||| v4)), some (.inl x4), some (.inr (.inr (some q1)))]) d125_47 (by decide) (by rfl)) ?_
      refine Eq.trans (li_iinc (ls' := [some (.inr (.inr (some a0))), some (.inl x1), some (.inl x2), some (.inl (x3 ||| v4)), some (.inl (x4 + (1 : Int32))), some (.inr (.inr (some q1)))]) d125_48 (by rfl) (by decide) ic_1 (by rfl)) ?_
      refine Eq.trans (li_goto (t := 12) d125_51 (by rfl)) ?_
      rfl
/-! TransitSeals$Ledger.firstToChange(I)LTransitSeals$Movement; -/
theorem d126_0 : decode Y126.2.1 0 = .ok (.aconst_null, 1) := by decide +kernel
theorem d126_1 : decode Y126.2.1 1 = .ok (.astore_n 2, 1) := by decide +kernel
theorem d126_2 : decode Y126.2.1 2 = .ok (.aload_n 0, 1) := by decide +kernel
theorem d126_3 : decode Y126.2.1 3 = .ok (.getfield 20, 3) := by decide +kernel
theorem d126_6 : decode Y126.2.1 6 = .ok (.astore_n 3, 1) := by decide +kernel
theorem d126_7 : decode Y126.2.1 7 = .ok (.aload_n 3, 1) := by decide +kernel
theorem d126_8 : decode Y126.2.1 8 = .ok (.arraylength, 1) := by decide +kernel
theorem d126_9 : decode Y126.2.1 9 = .ok (.istore 4, 2) := by decide +kernel
theorem d126_11 : decode Y126.2.1 11 = .ok (.iconst 0, 1) := by decide +kernel
theorem d126_12 : decode Y126.2.1 12 = .ok (.istore 5, 2) := by decide +kernel
theorem d126_14 : decode Y126.2.1 14 = .ok (.iload 5, 2) := by decide +kernel
theorem d126_16 : decode Y126.2.1 16 = .ok (.iload 4, 2) := by decide +kernel
theorem d126_18 : decode Y126.2.1 18 = .ok (.if_icmp .ge 43, 3) := by decide +kernel
theorem d126_21 : decode Y126.2.1 21 = .ok (.aload_n 3, 1) := by decide +kernel
theorem d126_22 : decode Y126.2.1 22 = .ok (.iload 5, 2) := by decide +kernel
theorem d126_24 : decode Y126.2.1 24 = .ok (.aaload, 1) := by decide +kernel
theorem d126_25 : decode Y126.2.1 25 = .ok (.astore 6, 2) := by decide +kernel
theorem d126_27 : decode Y126.2.1 27 = .ok (.aload 6, 2) := by decide +kernel
theorem d126_29 : decode Y126.2.1 29 = .ok (.invokevirtual 135, 3) := by decide +kernel
theorem d126_32 : decode Y126.2.1 32 = .ok (.iload_n 1, 1) := by decide +kernel
theorem d126_33 : decode Y126.2.1 33 = .ok (.if_icmp .gt 22, 3) := by decide +kernel
theorem d126_36 : decode Y126.2.1 36 = .ok (.aload_n 2, 1) := by decide +kernel
theorem d126_37 : decode Y126.2.1 37 = .ok (.ifnull 15, 3) := by decide +kernel
theorem d126_40 : decode Y126.2.1 40 = .ok (.aload 6, 2) := by decide +kernel
theorem d126_42 : decode Y126.2.1 42 = .ok (.invokevirtual 135, 3) := by decide +kernel
theorem d126_45 : decode Y126.2.1 45 = .ok (.aload_n 2, 1) := by decide +kernel
theorem d126_46 : decode Y126.2.1 46 = .ok (.invokevirtual 135, 3) := by decide +kernel
theorem d126_49 : decode Y126.2.1 49 = .ok (.if_icmp .ge 6, 3) := by decide +kernel
theorem d126_52 : decode Y126.2.1 52 = .ok (.aload 6, 2) := by decide +kernel
theorem d126_54 : decode Y126.2.1 54 = .ok (.astore_n 2, 1) := by decide +kernel
theorem d126_55 : decode Y126.2.1 55 = .ok (.iinc 5 1, 3) := by decide +kernel
theorem d126_58 : decode Y126.2.1 58 = .ok (.goto (-44), 3) := by decide +kernel
theorem d126_61 : decode Y126.2.1 61 = .ok (.aload_n 2, 1) := by decide +kernel
theorem d126_62 : decode Y126.2.1 62 = .ok (.areturn, 1) := by decide +kernel
noncomputable def L126_14 (d : Nat) (a0 : Nat) (x1 : Int32) (q2 : Option Nat) (x5 : Int32) (o6 : Option ts_V) (m : lt_m) : Option lt_r := lt_run d Y126 14 [some (.inr (.inr (some a0))), some (.inl x1), some (.inr (.inr q2)), some (.inr (.inr (some (a0 + 3)))), some (.inl (20 : Int32)), some (.inl x5), o6] [] m
theorem E126 (d : Nat) (a0 : Nat) (x1 : Int32) (h0 : ts_sh a0 = (0, 2)) (m : lt_m) : lt_ev (d + 1) 126 [.inr (.inr (some a0)), .inl x1] m = L126_14 d a0 x1 none (0 : Int32) none m := by
  refine Eq.trans (lt_enter2 (ls := [some (.inr (.inr (some a0))), some (.inl x1), none, none, none, none, none]) hY126 (Nat.le_of_ble_eq_true rfl) (by rfl)) ?_
  refine Eq.trans (li_null d126_0) ?_
  refine Eq.trans (li_astore_n (ls' := [some (.inr (.inr (some a0))), some (.inl x1), some (.inr (.inr none)), none, none, none, none]) d126_1 (by decide) (by rfl)) ?_
  refine Eq.trans (li_aload_n d126_2 (by rfl)) ?_
  refine Eq.trans (li_getr d126_3 fa_2_20 h0 rfl rfl rfl (by decide)) ?_
  refine Eq.trans (li_astore_n (ls' := [some (.inr (.inr (some a0))), some (.inl x1), some (.inr (.inr none)), some (.inr (.inr (some (a0 + 3)))), none, none, none]) d126_6 (by decide) (by rfl)) ?_
  refine Eq.trans (li_aload_n d126_7 (by rfl)) ?_
  refine Eq.trans (li_alen d126_8 (sf_of h0 2 (by decide) (by decide)) (by decide) (by rfl)) ?_
  refine Eq.trans (li_istore (ls' := [some (.inr (.inr (some a0))), some (.inl x1), some (.inr (.inr none)), some (.inr (.inr (some (a0 + 3)))), some (.inl (20 : Int32)), none, none]) d126_9 (by decide) (by rfl)) ?_
  refine Eq.trans (li_iconst d126_11 ic_0) ?_
  refine Eq.trans (li_istore (ls' := [some (.inr (.inr (some a0))), some (.inl x1), some (.inr (.inr none)), some (.inr (.inr (some (a0 + 3)))), some (.inl (20 : Int32)), some (.inl (0 : Int32)), none]) d126_12 (by decide) (by rfl)) ?_
  rfl
theorem E126_14 (d : Nat) (a0 : Nat) (x1 : Int32) (q2 : Option Nat) (x5 : Int32) (o6 : Option ts_V) (h0 : ts_sh a0 = (0, 2)) (m : lt_m) : L126_14 d a0 x1 q2 x5 o6 m = if (20 : Int32) ≤ x5 then (some (some (.inr (.inr q2)), m)) else (lt_gd (0 ≤ x5 ∧ (x5).toNatClampNeg < 20) (lt_cI (lt_ev d 127 [.inr (.inr (some ((a0 + 3) + 5 + 3 * (x5).toNatClampNeg)))] m) (fun v1 m1 => (if x1 < v1 then (L126_14 d a0 x1 q2 (x5 + (1 : Int32)) (some (.inr (.inr (some ((a0 + 3) + 5 + 3 * (x5).toNatClampNeg))))) m1) else (lt_nl q2 (L126_14 d a0 x1 (some ((a0 + 3) + 5 + 3 * (x5).toNatClampNeg)) (x5 + (1 : Int32)) (some (.inr (.inr (some ((a0 + 3) + 5 + 3 * (x5).toNatClampNeg))))) m1) (fun q1 => (lt_cI (lt_ev d 127 [.inr (.inr (some ((a0 + 3) + 5 + 3 * (x5).toNatClampNeg)))] m1) (fun v2 m2 => (lt_gd (ts_sh q1 = (0, 4)) (lt_cI (lt_ev d 127 [.inr (.inr (some q1))] m2) (fun v3 m3 => (if v3 ≤ v2 then (L126_14 d a0 x1 (some q1) (x5 + (1 : Int32)) (some (.inr (.inr (some ((a0 + 3) + 5 + 3 * (x5).toNatClampNeg))))) m3) else (L126_14 d a0 x1 (some ((a0 + 3) + 5 + 3 * (x5).toNatClampNeg)) (x5 + (1 : Int32)) (some (.inr (.inr (some ((a0 + 3) + 5 + 3 * (x5).toNatClampNeg))))) m3))))))))))))) := by
  show lt_run d Y126 14 [some (.inr (.inr (some a0))), some (.inl x1), some (.inr (.inr q2)), some (.inr (.inr (some (a0 + 3)))), some (.inl (20 : Int32)), some (.inl x5), o6] [] m = _
  refine Eq.trans (li_iload d126_14 (by rfl)) ?_
  refine Eq.trans (li_iload d126_16 (by rfl)) ?_
  refine Eq.trans (li_icmp_ge (t := 61) d126_18 (by rfl)) ?_
  refine lt_ite (fun c1 => ?_) (fun c1 => ?_)
  · refine Eq.trans (li_aload_n d126_61 (by rfl)) ?_
    exact li_aret d126_62 rfl
  · refine Eq.trans (li_aload_n d126_21 (by rfl)) ?_
    refine Eq.trans (li_iload d126_22 (by rfl)) ?_
    refine Eq.trans (li_aald4 d126_24 (sf_of h0 2 (by decide) (by decide))) ?_
    refine lt_gd_c (fun g1 => ?_)
    refine Eq.trans (li_astore (ls' := [some (.inr (.inr (some a0))), some (.inl x1), some (.inr (.inr q2)), some (.inr (.inr (some (a0 + 3)))), some (.inl (20 : Int32)), some (.inl x5), some (.inr (.inr (some ((a0 + 3) + 5 + 3 * (x5).toNatClampNeg))))]) d126_25 (by decide) (by rfl)) ?_
    refine Eq.trans (li_aload d126_27 (by rfl)) ?_
    refine Eq.trans (li_ivI d126_29 ca_2_135 kd_127 kl_127 (by rfl) (by rfl) (sm_4 (sf_of h0 2 (by decide) (by decide)) g1.2) (Nat.le_of_ble_eq_true rfl) (Nat.le_of_ble_eq_true rfl)) ?_
    refine lt_cI_c (fun v1 m1 => ?_)
    refine Eq.trans (li_iload_n d126_32 (by rfl)) ?_
    refine Eq.trans (li_icmp_gt (t := 55) d126_33 (by rfl)) ?_
    refine lt_ite (fun c2 => ?_) (fun c2 => ?_)
    · refine Eq.trans (li_iinc (ls' := [some (.inr (.inr (some a0))), some (.inl x1), some (.inr (.inr q2)), some (.inr (.inr (some (a0 + 3)))), some (.inl (20 : Int32)), some (.inl (x5 + (1 : Int32))), some (.inr (.inr (some ((a0 + 3) + 5 + 3 * (x5).toNatClampNeg))))]) d126_55 (by rfl) (by decide) ic_1 (by rfl)) ?_
      refine Eq.trans (li_goto (t := 14) d126_58 (by rfl)) ?_
      rfl
    · refine Eq.trans (li_aload_n d126_36 (by rfl)) ?_
      refine lt_nl_x (F := fun oz => lt_run d Y126 37 [some (.inr (.inr (some a0))), some (.inl x1), some (.inr (.inr oz)), some (.inr (.inr (some (a0 + 3)))), some (.inl (20 : Int32)), some (.inl x5), some (.inr (.inr (some ((a0 + 3) + 5 + 3 * (x5).toNatClampNeg))))] [.inr (.inr oz)] m1) ?_ (fun q1 => ?_)
      · refine Eq.trans (li_ifnull_n (t := 52) d126_37 (by rfl)) ?_
        refine Eq.trans (li_aload d126_52 (by rfl)) ?_
        refine Eq.trans (li_astore_n (ls' := [some (.inr (.inr (some a0))), some (.inl x1), some (.inr (.inr (some ((a0 + 3) + 5 + 3 * (x5).toNatClampNeg)))), some (.inr (.inr (some (a0 + 3)))), some (.inl (20 : Int32)), some (.inl x5), some (.inr (.inr (some ((a0 + 3) + 5 + 3 * (x5).toNatClampNeg))))]) d126_54 (by decide) (by rfl)) ?_
        refine Eq.trans (li_iinc (ls' := [some (.inr (.inr (some a0))), some (.inl x1), some (.inr (.inr (some ((a0 + 3) + 5 + 3 * (x5).toNatClampNeg)))), some (.inr (.inr (some (a0 + 3)))), some (.inl (20 : Int32)), some (.inl (x5 + (1 : Int32))), some (.inr (.inr (some ((a0 + 3) + 5 + 3 * (x5).toNatClampNeg))))]) d126_55 (by rfl) (by decide) ic_1 (by rfl)) ?_
        refine Eq.trans (li_goto (t := 14) d126_58 (by rfl)) ?_
        rfl
      · refine Eq.trans (li_ifnull_s d126_37) ?_
        refine Eq.trans (li_aload d126_40 (by rfl)) ?_
        refine Eq.trans (li_ivI d126_42 ca_2_135 kd_127 kl_127 (by rfl) (by rfl) (sm_4 (sf_of h0 2 (by decide) (by decide)) g1.2) (Nat.le_of_ble_eq_true rfl) (Nat.le_of_ble_eq_true rfl)) ?_
        refine lt_cI_c (fun v2 m2 => ?_)
        refine Eq.trans (li_aload_n d126_45 (by rfl)) ?_
        refine Eq.trans (li_ginv d126_46 ca_2_135 kl_127 (by rfl)) ?_
        refine lt_gd_c (fun g2 => ?_)
        refine Eq.trans (li_ivI d126_46 ca_2_135 kd_127 kl_127 (by rfl) (by rfl) g2 (Nat.le_of_ble_eq_true rfl) (Nat.le_of_ble_eq_true rfl)) ?_
        refine lt_cI_c (fun v3 m3 => ?_)
        refine Eq.trans (li_icmp_ge (t := 55) d126_49 (by rfl)) ?_
        refine lt_ite (fun c3 => ?_) (fun c3 => ?_)
        · refine Eq.trans (li_iinc (ls' := [some (.inr (.inr (some a0))), some (.inl x1), some (.inr (.inr (some q1))), some (.inr (.inr (some (a0 + 3)))), some (.inl (20 : Int32)), some (.inl (x5 + (1 : Int32))), some (.inr (.inr (some ((a0 + 3) + 5 + 3 * (x5).toNatClampNeg))))]) d126_55 (by rfl) (by decide) ic_1 (by rfl)) ?_
          refine Eq.trans (li_goto (t := 14) d126_58 (by rfl)) ?_
          rfl
        · refine Eq.trans (li_aload d126_52 (by rfl)) ?_
          refine Eq.trans (li_astore_n (ls' := [some (.inr (.inr (some a0))), some (.inl x1), some (.inr (.inr (some ((a0 + 3) + 5 + 3 * (x5).toNatClampNeg)))), some (.inr (.inr (some (a0 + 3)))), some (.inl (20 : Int32)), some (.inl x5), some (.inr (.inr (some ((a0 + 3) + 5 + 3 * (x5).toNatClampNeg))))]) d126_54 (by decide) (by rfl)) ?_
          refine Eq.trans (li_iinc (ls' := [some (.inr (.inr (some a0))), some (.inl x1), some (.inr (.inr (some ((a0 + 3) + 5 + 3 * (x5).toNatClampNeg)))), some (.inr (.inr (some (a0 + 3)))), some (.inl (20 : Int32)), some (.inl (x5 + (1 : Int32))), some (.inr (.inr (some ((a0 + 3) + 5 + 3 * (x5).toNatClampNeg))))]) d126_55 (by rfl) (by decide) ic_1 (by rfl)) ?_
          refine Eq.trans (li_goto (t := 14) d126_58 (by rfl)) ?_
          rfl
/-! TransitSeals$Movement.changesAt()I -/
theorem d127_0 : decode Y127.2.1 0 = .ok (.aload_n 0, 1) := by decide +kernel
theorem d127_1 : decode Y127.2.1 1 = .ok (.getfield 9, 3) := by decide +kernel
theorem d127_4 : decode Y127.2.1 4 = .ok (.ifCond .ne 10, 3) := by decide +kernel
theorem d127_7 : decode Y127.2.1 7 = .ok (.aload_n 0, 1) := by decide +kernel
theorem d127_8 : decode Y127.2.1 8 = .ok (.getfield 48, 3) := by decide +kernel
theorem d127_11 : decode Y127.2.1 11 = .ok (.iconst 1, 1) := by decide +kernel
theorem d127_12 : decode Y127.2.1 12 = .ok (.iadd, 1) := by decide +kernel
theorem d127_13 : decode Y127.2.1 13 = .ok (.ireturn, 1) := by decide +kernel
theorem d127_14 : decode Y127.2.1 14 = .ok (.aload_n 0, 1) := by decide +kernel
theorem d127_15 : decode Y127.2.1 15 = .ok (.getfield 9, 3) := by decide +kernel
theorem d127_18 : decode Y127.2.1 18 = .ok (.iconst 3, 1) := by decide +kernel
theorem d127_19 : decode Y127.2.1 19 = .ok (.if_icmp .ne 13, 3) := by decide +kernel
theorem d127_22 : decode Y127.2.1 22 = .ok (.aload_n 0, 1) := by decide +kernel
theorem d127_23 : decode Y127.2.1 23 = .ok (.getfield 48, 3) := by decide +kernel
theorem d127_26 : decode Y127.2.1 26 = .ok (.bipush 72, 2) := by decide +kernel
theorem d127_28 : decode Y127.2.1 28 = .ok (.iadd, 1) := by decide +kernel
theorem d127_29 : decode Y127.2.1 29 = .ok (.goto 5, 3) := by decide +kernel
theorem d127_32 : decode Y127.2.1 32 = .ok (.ldc 51, 2) := by decide +kernel
theorem d127_34 : decode Y127.2.1 34 = .ok (.ireturn, 1) := by decide +kernel
theorem E127 (d : Nat) (a0 : Nat) (h0 : ts_sh a0 = (0, 4)) (m : lt_m) : lt_ev (d + 1) 127 [.inr (.inr (some a0))] m = if ¬ (m.1 a0 7) = 0 then (if ¬ (m.1 a0 7) = (3 : Int32) then (some (some (.inl (1000000 : Int32)), m)) else (some (some (.inl ((m.1 a0 6) + (72 : Int32))), m))) else (some (some (.inl ((m.1 a0 6) + (1 : Int32))), m)) := by
  refine Eq.trans (lt_enter2 (ls := [some (.inr (.inr (some a0)))]) hY127 (Nat.le_of_ble_eq_true rfl) (by rfl)) ?_
  refine Eq.trans (li_aload_n d127_0 (by rfl)) ?_
  refine Eq.trans (li_geti d127_1 fa_4_9 h0 rfl) ?_
  refine Eq.trans (li_if_ne (t := 14) d127_4 (by rfl)) ?_
  refine lt_ite (fun c1 => ?_) (fun c1 => ?_)
  · refine Eq.trans (li_aload_n d127_14 (by rfl)) ?_
    refine Eq.trans (li_geti d127_15 fa_4_9 h0 rfl) ?_
    refine Eq.trans (li_iconst d127_18 ic_3) ?_
    refine Eq.trans (li_icmp_ne (t := 32) d127_19 (by rfl)) ?_
    refine lt_ite (fun c2 => ?_) (fun c2 => ?_)
    · refine Eq.trans (li_ldc d127_32 cI_4_51) ?_
      exact li_iret d127_34 rfl
    · refine Eq.trans (li_aload_n d127_22 (by rfl)) ?_
      refine Eq.trans (li_geti d127_23 fa_4_48 h0 rfl) ?_
      refine Eq.trans (li_bipush d127_26 bi_72) ?_
      refine Eq.trans (li_iadd d127_28) ?_
      refine Eq.trans (li_goto (t := 34) d127_29 (by rfl)) ?_
      exact li_iret d127_34 rfl
  · refine Eq.trans (li_aload_n d127_7 (by rfl)) ?_
    refine Eq.trans (li_geti d127_8 fa_4_48 h0 rfl) ?_
    refine Eq.trans (li_iconst d127_11 ic_1) ?_
    refine Eq.trans (li_iadd d127_12) ?_
    exact li_iret d127_13 rfl
/-! TransitSeals$Ledger.change(LTransitSeals$Movement;)V -/
theorem d128_0 : decode Y128.2.1 0 = .ok (.aload_n 1, 1) := by decide +kernel
theorem d128_1 : decode Y128.2.1 1 = .ok (.invokevirtual 135, 3) := by decide +kernel
theorem d128_4 : decode Y128.2.1 4 = .ok (.istore_n 2, 1) := by decide +kernel
theorem d128_5 : decode Y128.2.1 5 = .ok (.aload_n 1, 1) := by decide +kernel
theorem d128_6 : decode Y128.2.1 6 = .ok (.getfield 44, 3) := by decide +kernel
theorem d128_9 : decode Y128.2.1 9 = .ok (.ifCond .ne 24, 3) := by decide +kernel
theorem d128_12 : decode Y128.2.1 12 = .ok (.aload_n 1, 1) := by decide +kernel
theorem d128_13 : decode Y128.2.1 13 = .ok (.iconst 3, 1) := by decide +kernel
theorem d128_14 : decode Y128.2.1 14 = .ok (.putfield 44, 3) := by decide +kernel
theorem d128_17 : decode Y128.2.1 17 = .ok (.aload_n 0, 1) := by decide +kernel
theorem d128_18 : decode Y128.2.1 18 = .ok (.getfield 27, 3) := by decide +kernel
theorem d128_21 : decode Y128.2.1 21 = .ok (.iconst 4, 1) := by decide +kernel
theorem d128_22 : decode Y128.2.1 22 = .ok (.aload_n 1, 1) := by decide +kernel
theorem d128_23 : decode Y128.2.1 23 = .ok (.getfield 118, 3) := by decide +kernel
theorem d128_26 : decode Y128.2.1 26 = .ok (.iload_n 2, 1) := by decide +kernel
theorem d128_27 : decode Y128.2.1 27 = .ok (.invokevirtual 121, 3) := by decide +kernel
theorem d128_30 : decode Y128.2.1 30 = .ok (.goto 24, 3) := by decide +kernel
theorem d128_33 : decode Y128.2.1 33 = .ok (.aload_n 1, 1) := by decide +kernel
theorem d128_34 : decode Y128.2.1 34 = .ok (.aload_n 1, 1) := by decide +kernel
theorem d128_35 : decode Y128.2.1 35 = .ok (.getfield 138, 3) := by decide +kernel
theorem d128_38 : decode Y128.2.1 38 = .ok (.invokevirtual 141, 3) := by decide +kernel
theorem d128_41 : decode Y128.2.1 41 = .ok (.aload_n 0, 1) := by decide +kernel
theorem d128_42 : decode Y128.2.1 42 = .ok (.getfield 27, 3) := by decide +kernel
theorem d128_45 : decode Y128.2.1 45 = .ok (.iconst 5, 1) := by decide +kernel
theorem d128_46 : decode Y128.2.1 46 = .ok (.aload_n 1, 1) := by decide +kernel
theorem d128_47 : decode Y128.2.1 47 = .ok (.getfield 118, 3) := by decide +kernel
theorem d128_50 : decode Y128.2.1 50 = .ok (.iload_n 2, 1) := by decide +kernel
theorem d128_51 : decode Y128.2.1 51 = .ok (.invokevirtual 121, 3) := by decide +kernel
theorem d128_54 : decode Y128.2.1 54 = .ok (.return_, 1) := by decide +kernel
theorem E128 (d : Nat) (a0 : Nat) (a1 : Nat) (h0 : ts_sh a0 = (0, 2)) (h1 : ts_sh a1 = (0, 4)) (m : lt_m) : lt_ev (d + 1) 128 [.inr (.inr (some a0)), .inr (.inr (some a1))] m = lt_cI (lt_ev d 127 [.inr (.inr (some a1))] m) (fun v1 m1 => (if ¬ (m1.1 a1 7) = 0 then (lt_cV (lt_ev d 120 [.inr (.inr (some a1)), .inl (m1.1 a1 4)] m1) (fun m2 => (lt_cV (lt_ev d 112 [.inr (.inr (some (a0 + 4))), .inl (5 : Int32), .inl (m2.1 a1 0), .inl v1] m2) (fun m3 => (some (none, m3)))))) else (lt_cV (lt_ev d 112 [.inr (.inr (some (a0 + 4))), .inl (4 : Int32), .inl ((lm_i m1 a1 7 (3 : Int32)).1 a1 0), .inl v1] (lm_i m1 a1 7 (3 : Int32))) (fun m4 => (some (none, m4)))))) := by
  refine Eq.trans (lt_enter2 (ls := [some (.inr (.inr (some a0))), some (.inr (.inr (some a1))), none]) hY128 (Nat.le_of_ble_eq_true rfl) (by rfl)) ?_
  refine Eq.trans (li_aload_n d128_0 (by rfl)) ?_
  refine Eq.trans (li_ivI d128_1 ca_2_135 kd_127 kl_127 (by rfl) (by rfl) h1 (Nat.le_of_ble_eq_true rfl) (Nat.le_of_ble_eq_true rfl)) ?_
  refine lt_cI_c (fun v1 m1 => ?_)
  refine Eq.trans (li_istore_n (ls' := [some (.inr (.inr (some a0))), some (.inr (.inr (some a1))), some (.inl v1)]) d128_4 (by decide) (by rfl)) ?_
  refine Eq.trans (li_aload_n d128_5 (by rfl)) ?_
  refine Eq.trans (li_geti d128_6 fa_2_44 h1 rfl) ?_
  refine Eq.trans (li_if_ne (t := 33) d128_9 (by rfl)) ?_
  refine lt_ite (fun c1 => ?_) (fun c1 => ?_)
  · refine Eq.trans (li_aload_n d128_33 (by rfl)) ?_
    refine Eq.trans (li_aload_n d128_34 (by rfl)) ?_
    refine Eq.trans (li_geti d128_35 fa_2_138 h1 rfl) ?_
    refine Eq.trans (li_ivV d128_38 ca_2_141 kd_120 kl_120 (by rfl) (by rfl) h1 (Nat.le_of_ble_eq_true rfl) (Nat.le_of_ble_eq_true rfl)) ?_
    refine lt_cV_c (fun m2 => ?_)
    refine Eq.trans (li_aload_n d128_41 (by rfl)) ?_
    refine Eq.trans (li_getr d128_42 fa_2_27 h0 rfl rfl rfl (by decide)) ?_
    refine Eq.trans (li_iconst d128_45 ic_5) ?_
    refine Eq.trans (li_aload_n d128_46 (by rfl)) ?_
    refine Eq.trans (li_geti d128_47 fa_2_118 h1 rfl) ?_
    refine Eq.trans (li_iload_n d128_50 (by rfl)) ?_
    refine Eq.trans (li_ivV d128_51 ca_2_121 kd_112 kl_112 (by rfl) (by rfl) (sf_of h0 3 (by decide) (by decide)) (Nat.le_of_ble_eq_true rfl) (Nat.le_of_ble_eq_true rfl)) ?_
    refine lt_cV_c (fun m3 => ?_)
    exact li_vret d128_54 rfl
  · refine Eq.trans (li_aload_n d128_12 (by rfl)) ?_
    refine Eq.trans (li_iconst d128_13 ic_3) ?_
    refine Eq.trans (li_puti d128_14 fa_2_44 h1 rfl rfl) ?_
    refine Eq.trans (li_aload_n d128_17 (by rfl)) ?_
    refine Eq.trans (li_getr d128_18 fa_2_27 h0 rfl rfl rfl (by decide)) ?_
    refine Eq.trans (li_iconst d128_21 ic_4) ?_
    refine Eq.trans (li_aload_n d128_22 (by rfl)) ?_
    refine Eq.trans (li_geti d128_23 fa_2_118 h1 rfl) ?_
    refine Eq.trans (li_iload_n d128_26 (by rfl)) ?_
    refine Eq.trans (li_ivV d128_27 ca_2_121 kd_112 kl_112 (by rfl) (by rfl) (sf_of h0 3 (by decide) (by decide)) (Nat.le_of_ble_eq_true rfl) (Nat.le_of_ble_eq_true rfl)) ?_
    refine lt_cV_c (fun m4 => ?_)
    refine Eq.trans (li_goto (t := 54) d128_30 (by rfl)) ?_
    exact li_vret d128_54 rfl
/-! TransitSeals.movement(II)I -/
theorem d129_0 : decode Y129.2.1 0 = .ok (.aload_n 0, 1) := by decide +kernel
theorem d129_1 : decode Y129.2.1 1 = .ok (.getfield 47, 3) := by decide +kernel
theorem d129_4 : decode Y129.2.1 4 = .ok (.iload_n 1, 1) := by decide +kernel
theorem d129_5 : decode Y129.2.1 5 = .ok (.invokevirtual 240, 3) := by decide +kernel
theorem d129_8 : decode Y129.2.1 8 = .ok (.astore_n 3, 1) := by decide +kernel
theorem d129_9 : decode Y129.2.1 9 = .ok (.aload_n 3, 1) := by decide +kernel
theorem d129_10 : decode Y129.2.1 10 = .ok (.ifnonnull 5, 3) := by decide +kernel
theorem d129_13 : decode Y129.2.1 13 = .ok (.iconst (-1), 1) := by decide +kernel
theorem d129_14 : decode Y129.2.1 14 = .ok (.ireturn, 1) := by decide +kernel
theorem d129_15 : decode Y129.2.1 15 = .ok (.iload_n 2, 1) := by decide +kernel
theorem d129_16 : decode Y129.2.1 16 = .ok (.tableswitch 148 0 12 #[68, 73, 78, 83, 88, 93, 98, 103, 108, 113, 126, 131, 143], 68) := by decide +kernel
theorem d129_84 : decode Y129.2.1 84 = .ok (.aload_n 3, 1) := by decide +kernel
theorem d129_85 : decode Y129.2.1 85 = .ok (.getfield 288, 3) := by decide +kernel
theorem d129_88 : decode Y129.2.1 88 = .ok (.ireturn, 1) := by decide +kernel
theorem d129_89 : decode Y129.2.1 89 = .ok (.aload_n 3, 1) := by decide +kernel
theorem d129_90 : decode Y129.2.1 90 = .ok (.getfield 272, 3) := by decide +kernel
theorem d129_93 : decode Y129.2.1 93 = .ok (.ireturn, 1) := by decide +kernel
theorem d129_94 : decode Y129.2.1 94 = .ok (.aload_n 3, 1) := by decide +kernel
theorem d129_95 : decode Y129.2.1 95 = .ok (.getfield 266, 3) := by decide +kernel
theorem d129_98 : decode Y129.2.1 98 = .ok (.ireturn, 1) := by decide +kernel
theorem d129_99 : decode Y129.2.1 99 = .ok (.aload_n 3, 1) := by decide +kernel
theorem d129_100 : decode Y129.2.1 100 = .ok (.getfield 269, 3) := by decide +kernel
theorem d129_103 : decode Y129.2.1 103 = .ok (.ireturn, 1) := by decide +kernel
theorem d129_104 : decode Y129.2.1 104 = .ok (.aload_n 3, 1) := by decide +kernel
theorem d129_105 : decode Y129.2.1 105 = .ok (.getfield 291, 3) := by decide +kernel
theorem d129_108 : decode Y129.2.1 108 = .ok (.ireturn, 1) := by decide +kernel
theorem d129_109 : decode Y129.2.1 109 = .ok (.aload_n 3, 1) := by decide +kernel
theorem d129_110 : decode Y129.2.1 110 = .ok (.getfield 294, 3) := by decide +kernel
theorem d129_113 : decode Y129.2.1 113 = .ok (.ireturn, 1) := by decide +kernel
theorem d129_114 : decode Y129.2.1 114 = .ok (.aload_n 3, 1) := by decide +kernel
theorem d129_115 : decode Y129.2.1 115 = .ok (.getfield 296, 3) := by decide +kernel
theorem d129_118 : decode Y129.2.1 118 = .ok (.ireturn, 1) := by decide +kernel
theorem d129_119 : decode Y129.2.1 119 = .ok (.aload_n 3, 1) := by decide +kernel
theorem d129_120 : decode Y129.2.1 120 = .ok (.getfield 256, 3) := by decide +kernel
theorem d129_123 : decode Y129.2.1 123 = .ok (.ireturn, 1) := by decide +kernel
theorem d129_124 : decode Y129.2.1 124 = .ok (.aload_n 3, 1) := by decide +kernel
theorem d129_125 : decode Y129.2.1 125 = .ok (.invokevirtual 299, 3) := by decide +kernel
theorem d129_128 : decode Y129.2.1 128 = .ok (.ireturn, 1) := by decide +kernel
theorem d129_129 : decode Y129.2.1 129 = .ok (.aload_n 3, 1) := by decide +kernel
theorem d129_130 : decode Y129.2.1 130 = .ok (.getfield 259, 3) := by decide +kernel
theorem d129_133 : decode Y129.2.1 133 = .ok (.ifCond .eq 7, 3) := by decide +kernel
theorem d129_136 : decode Y129.2.1 136 = .ok (.iconst 1, 1) := by decide +kernel
theorem d129_137 : decode Y129.2.1 137 = .ok (.goto 4, 3) := by decide +kernel
theorem d129_140 : decode Y129.2.1 140 = .ok (.iconst 0, 1) := by decide +kernel
theorem d129_141 : decode Y129.2.1 141 = .ok (.ireturn, 1) := by decide +kernel
theorem d129_142 : decode Y129.2.1 142 = .ok (.aload_n 3, 1) := by decide +kernel
theorem d129_143 : decode Y129.2.1 143 = .ok (.getfield 278, 3) := by decide +kernel
theorem d129_146 : decode Y129.2.1 146 = .ok (.ireturn, 1) := by decide +kernel
theorem d129_147 : decode Y129.2.1 147 = .ok (.aload_n 3, 1) := by decide +kernel
theorem d129_148 : decode Y129.2.1 148 = .ok (.aload_n 0, 1) := by decide +kernel
theorem d129_149 : decode Y129.2.1 149 = .ok (.getfield 47, 3) := by decide +kernel
theorem d129_152 : decode Y129.2.1 152 = .ok (.getfield 223, 3) := by decide +kernel
theorem d129_155 : decode Y129.2.1 155 = .ok (.invokevirtual 281, 3) := by decide +kernel
theorem d129_158 : decode Y129.2.1 158 = .ok (.ireturn, 1) := by decide +kernel
theorem d129_159 : decode Y129.2.1 159 = .ok (.aload_n 3, 1) := by decide +kernel
theorem d129_160 : decode Y129.2.1 160 = .ok (.getfield 253, 3) := by decide +kernel
theorem d129_163 : decode Y129.2.1 163 = .ok (.ireturn, 1) := by decide +kernel
theorem d129_164 : decode Y129.2.1 164 = .ok (.iconst (-1), 1) := by decide +kernel
theorem d129_165 : decode Y129.2.1 165 = .ok (.ireturn, 1) := by decide +kernel
theorem E129 (d : Nat) (a0 : Nat) (x1 : Int32) (x2 : Int32) (h0 : ts_sh a0 = (0, 11)) (m : lt_m) : lt_ev (d + 1) 129 [.inr (.inr (some a0)), .inl x1, .inl x2] m = lt_cR (lt_ev d 114 [.inr (.inr (some (a0 + 13))), .inl x1] m) (fun v1 m1 => (lt_nl v1 (some (some (.inl (-1 : Int32)), m1)) (fun q1 => (lt_sw x2 [(lt_gd (ts_sh q1 = (0, 4)) (some (some (.inl (m1.1 q1 1)), m1))), (lt_gd (ts_sh q1 = (0, 4)) (some (some (.inl (m1.1 q1 2)), m1))), (lt_gd (ts_sh q1 = (0, 4)) (some (some (.inl (m1.1 q1 3)), m1))), (lt_gd (ts_sh q1 = (0, 4)) (some (some (.inl (m1.1 q1 7)), m1))), (lt_gd (ts_sh q1 = (0, 4)) (some (some (.inl (m1.1 q1 4)), m1))), (lt_gd (ts_sh q1 = (0, 4)) (some (some (.inl (m1.1 q1 5)), m1))), (lt_gd (ts_sh q1 = (0, 4)) (some (some (.inl (m1.1 q1 6)), m1))), (lt_gd (ts_sh q1 = (0, 4)) (some (some (.inl (m1.1 q1 9)), m1))), (lt_gd (ts_sh q1 = (0, 4)) (lt_cI (lt_ev d 63 [.inr (.inr (some q1))] m1) (fun v2 m2 => (some (some (.inl v2), m2))))), (lt_gd (ts_sh q1 = (0, 4)) (if (m1.1 q1 11) = 0 then (some (some (.inl (0 : Int32)), m1)) else (some (some (.inl (1 : Int32)), m1)))), (lt_gd (ts_sh q1 = (0, 4)) (some (some (.inl (m1.1 q1 10)), m1))), (lt_gd (ts_sh q1 = (0, 4)) (lt_cI (lt_ev d 122 [.inr (.inr (some q1)), .inl (m1.1 (a0 + 13) 4)] m1) (fun v3 m3 => (some (some (.inl v3), m3))))), (lt_gd (ts_sh q1 = (0, 4)) (some (some (.inl (m1.1 q1 8)), m1)))] (some (some (.inl (-1 : Int32)), m1)))))) := by
  refine Eq.trans (lt_enter2 (ls := [some (.inr (.inr (some a0))), some (.inl x1), some (.inl x2), none]) hY129 (Nat.le_of_ble_eq_true rfl) (by rfl)) ?_
  refine Eq.trans (li_aload_n d129_0 (by rfl)) ?_
  refine Eq.trans (li_getr d129_1 fa_11_47 h0 rfl rfl rfl (by decide)) ?_
  refine Eq.trans (li_iload_n d129_4 (by rfl)) ?_
  refine Eq.trans (li_ivR d129_5 ca_11_240 kd_114 kl_114 (by rfl) (by rfl) (sf_of h0 5 (by decide) (by decide)) (Nat.le_of_ble_eq_true rfl) (Nat.le_of_ble_eq_true rfl)) ?_
  refine lt_cR_c (fun v1 m1 => ?_)
  refine Eq.trans (li_astore_n (ls' := [some (.inr (.inr (some a0))), some (.inl x1), some (.inl x2), some (.inr (.inr v1))]) d129_8 (by decide) (by rfl)) ?_
  refine Eq.trans (li_aload_n d129_9 (by rfl)) ?_
  refine lt_nl_x (F := fun oz => lt_run d Y129 10 [some (.inr (.inr (some a0))), some (.inl x1), some (.inl x2), some (.inr (.inr oz))] [.inr (.inr oz)] m1) ?_ (fun q1 => ?_)
  · refine Eq.trans (li_ifnonnull_n d129_10) ?_
    refine Eq.trans (li_iconst d129_13 ic_n1) ?_
    exact li_iret d129_14 rfl
  · refine Eq.trans (li_ifnonnull_s (t := 15) d129_10 (by rfl)) ?_
    refine Eq.trans (li_iload_n d129_15 (by rfl)) ?_
    refine Eq.trans (li_tsw (n := 12) (td := 164) (ts := [84, 89, 94, 99, 104, 109, 114, 119, 124, 129, 142, 147, 159]) d129_16 (by decide) (by decide) (by rfl)) ?_
    refine lt_sw_c ?_ ?_
    · simp only [List.map_cons, List.map_nil]
      refine lt_l2 ?_ (lt_l2 ?_ (lt_l2 ?_ (lt_l2 ?_ (lt_l2 ?_ (lt_l2 ?_ (lt_l2 ?_ (lt_l2 ?_ (lt_l2 ?_ (lt_l2 ?_ (lt_l2 ?_ (lt_l2 ?_ (lt_l2 ?_ (rfl)))))))))))))
      · refine Eq.trans (li_aload_n d129_84 (by rfl)) ?_
        refine Eq.trans (li_gget d129_85 fa_11_288) ?_
        refine lt_gd_c (fun g1 => ?_)
        refine Eq.trans (li_geti d129_85 fa_11_288 g1 rfl) ?_
        exact li_iret d129_88 rfl
      · refine Eq.trans (li_aload_n d129_89 (by rfl)) ?_
        refine Eq.trans (li_gget d129_90 fa_11_272) ?_
        refine lt_gd_c (fun g2 => ?_)
        refine Eq.trans (li_geti d129_90 fa_11_272 g2 rfl) ?_
        exact li_iret d129_93 rfl
      · refine Eq.trans (li_aload_n d129_94 (by rfl)) ?_
        refine Eq.trans (li_gget d129_95 fa_11_266) ?_
        refine lt_gd_c (fun g3 => ?_)
        refine Eq.trans (li_geti d129_95 fa_11_266 g3 rfl) ?_
        exact li_iret d129_98 rfl
      · refine Eq.trans (li_aload_n d129_99 (by rfl)) ?_
        refine Eq.trans (li_gget d129_100 fa_11_269) ?_
        refine lt_gd_c (fun g4 => ?_)
        refine Eq.trans (li_geti d129_100 fa_11_269 g4 rfl) ?_
        exact li_iret d129_103 rfl
      · refine Eq.trans (li_aload_n d129_104 (by rfl)) ?_
        refine Eq.trans (li_gget d129_105 fa_11_291) ?_
        refine lt_gd_c (fun g5 => ?_)
        refine Eq.trans (li_geti d129_105 fa_11_291 g5 rfl) ?_
        exact li_iret d129_108 rfl
      · refine Eq.trans (li_aload_n d129_109 (by rfl)) ?_
        refine Eq.trans (li_gget d129_110 fa_11_294) ?_
        refine lt_gd_c (fun g6 => ?_)
        refine Eq.trans (li_geti d129_110 fa_11_294 g6 rfl) ?_
        exact li_iret d129_113 rfl
      · refine Eq.trans (li_aload_n d129_114 (by rfl)) ?_
        refine Eq.trans (li_gget d129_115 fa_11_296) ?_
        refine lt_gd_c (fun g7 => ?_)
        refine Eq.trans (li_geti d129_115 fa_11_296 g7 rfl) ?_
        exact li_iret d129_118 rfl
      · refine Eq.trans (li_aload_n d129_119 (by rfl)) ?_
        refine Eq.trans (li_gget d129_120 fa_11_256) ?_
        refine lt_gd_c (fun g8 => ?_)
        refine Eq.trans (li_geti d129_120 fa_11_256 g8 rfl) ?_
        exact li_iret d129_123 rfl
      · refine Eq.trans (li_aload_n d129_124 (by rfl)) ?_
        refine Eq.trans (li_ginv d129_125 ca_11_299 kl_63 (by rfl)) ?_
        refine lt_gd_c (fun g9 => ?_)
        refine Eq.trans (li_ivI d129_125 ca_11_299 kd_63 kl_63 (by rfl) (by rfl) g9 (Nat.le_of_ble_eq_true rfl) (Nat.le_of_ble_eq_true rfl)) ?_
        refine lt_cI_c (fun v2 m2 => ?_)
        exact li_iret d129_128 rfl
      · refine Eq.trans (li_aload_n d129_129 (by rfl)) ?_
        refine Eq.trans (li_gget d129_130 fa_11_259) ?_
        refine lt_gd_c (fun g10 => ?_)
        refine Eq.trans (li_geti d129_130 fa_11_259 g10 rfl) ?_
        refine Eq.trans (li_if_eq (t := 140) d129_133 (by rfl)) ?_
        refine lt_ite (fun c1 => ?_) (fun c1 => ?_)
        · refine Eq.trans (li_iconst d129_140 ic_0) ?_
          exact li_iret d129_141 rfl
        · refine Eq.trans (li_iconst d129_136 ic_1) ?_
          refine Eq.trans (li_goto (t := 141) d129_137 (by rfl)) ?_
          exact li_iret d129_141 rfl
      · refine Eq.trans (li_aload_n d129_142 (by rfl)) ?_
        refine Eq.trans (li_gget d129_143 fa_11_278) ?_
        refine lt_gd_c (fun g11 => ?_)
        refine Eq.trans (li_geti d129_143 fa_11_278 g11 rfl) ?_
        exact li_iret d129_146 rfl
      · refine Eq.trans (li_aload_n d129_147 (by rfl)) ?_
        refine Eq.trans (li_aload_n d129_148 (by rfl)) ?_
        refine Eq.trans (li_getr d129_149 fa_11_47 h0 rfl rfl rfl (by decide)) ?_
        refine Eq.trans (li_geti d129_152 fa_11_223 (sf_of h0 5 (by decide) (by decide)) rfl) ?_
        refine Eq.trans (li_ginv d129_155 ca_11_281 kl_122 (by rfl)) ?_
        refine lt_gd_c (fun g12 => ?_)
        refine Eq.trans (li_ivI d129_155 ca_11_281 kd_122 kl_122 (by rfl) (by rfl) g12 (Nat.le_of_ble_eq_true rfl) (Nat.le_of_ble_eq_true rfl)) ?_
        refine lt_cI_c (fun v3 m3 => ?_)
        exact li_iret d129_158 rfl
      · refine Eq.trans (li_aload_n d129_159 (by rfl)) ?_
        refine Eq.trans (li_gget d129_160 fa_11_253) ?_
        refine lt_gd_c (fun g13 => ?_)
        refine Eq.trans (li_geti d129_160 fa_11_253 g13 rfl) ?_
        exact li_iret d129_163 rfl
    · refine Eq.trans (li_iconst d129_164 ic_n1) ?_
      exact li_iret d129_165 rfl
/-! TransitSeals.stop(II)I -/
theorem d130_0 : decode Y130.2.1 0 = .ok (.aload_n 0, 1) := by decide +kernel
theorem d130_1 : decode Y130.2.1 1 = .ok (.getfield 47, 3) := by decide +kernel
theorem d130_4 : decode Y130.2.1 4 = .ok (.iload_n 1, 1) := by decide +kernel
theorem d130_5 : decode Y130.2.1 5 = .ok (.invokevirtual 240, 3) := by decide +kernel
theorem d130_8 : decode Y130.2.1 8 = .ok (.astore_n 3, 1) := by decide +kernel
theorem d130_9 : decode Y130.2.1 9 = .ok (.aload_n 3, 1) := by decide +kernel
theorem d130_10 : decode Y130.2.1 10 = .ok (.ifnull 12, 3) := by decide +kernel
theorem d130_13 : decode Y130.2.1 13 = .ok (.aload_n 3, 1) := by decide +kernel
theorem d130_14 : decode Y130.2.1 14 = .ok (.iload_n 2, 1) := by decide +kernel
theorem d130_15 : decode Y130.2.1 15 = .ok (.invokevirtual 302, 3) := by decide +kernel
theorem d130_18 : decode Y130.2.1 18 = .ok (.iconst (-1), 1) := by decide +kernel
theorem d130_19 : decode Y130.2.1 19 = .ok (.if_icmp .ne 5, 3) := by decide +kernel
theorem d130_22 : decode Y130.2.1 22 = .ok (.iconst (-1), 1) := by decide +kernel
theorem d130_23 : decode Y130.2.1 23 = .ok (.ireturn, 1) := by decide +kernel
theorem d130_24 : decode Y130.2.1 24 = .ok (.aload_n 0, 1) := by decide +kernel
theorem d130_25 : decode Y130.2.1 25 = .ok (.aload_n 3, 1) := by decide +kernel
theorem d130_26 : decode Y130.2.1 26 = .ok (.iload_n 2, 1) := by decide +kernel
theorem d130_27 : decode Y130.2.1 27 = .ok (.invokevirtual 305, 3) := by decide +kernel
theorem d130_30 : decode Y130.2.1 30 = .ok (.invokevirtual 157, 3) := by decide +kernel
theorem d130_33 : decode Y130.2.1 33 = .ok (.aload_n 3, 1) := by decide +kernel
theorem d130_34 : decode Y130.2.1 34 = .ok (.iload_n 2, 1) := by decide +kernel
theorem d130_35 : decode Y130.2.1 35 = .ok (.invokevirtual 302, 3) := by decide +kernel
theorem d130_38 : decode Y130.2.1 38 = .ok (.ireturn, 1) := by decide +kernel
theorem E130 (d : Nat) (a0 : Nat) (x1 : Int32) (x2 : Int32) (h0 : ts_sh a0 = (0, 11)) (m : lt_m) : lt_ev (d + 1) 130 [.inr (.inr (some a0)), .inl x1, .inl x2] m = lt_cR (lt_ev d 114 [.inr (.inr (some (a0 + 13))), .inl x1] m) (fun v1 m1 => (lt_nl v1 (some (some (.inl (-1 : Int32)), m1)) (fun q1 => (lt_gd (ts_sh q1 = (0, 4)) (lt_cI (lt_ev d 64 [.inr (.inr (some q1)), .inl x2] m1) (fun v2 m2 => (if ¬ v2 = (-1 : Int32) then (lt_cI (lt_ev d 131 [.inr (.inr (some q1)), .inl x2] m2) (fun v3 m3 => (lt_cV (lt_ev d 75 [.inr (.inr (some a0)), .inl v3] m3) (fun m4 => (lt_cI (lt_ev d 64 [.inr (.inr (some q1)), .inl x2] m4) (fun v4 m5 => (some (some (.inl v4), m5)))))))) else (some (some (.inl (-1 : Int32)), m2))))))))) := by
  refine Eq.trans (lt_enter2 (ls := [some (.inr (.inr (some a0))), some (.inl x1), some (.inl x2), none]) hY130 (Nat.le_of_ble_eq_true rfl) (by rfl)) ?_
  refine Eq.trans (li_aload_n d130_0 (by rfl)) ?_
  refine Eq.trans (li_getr d130_1 fa_11_47 h0 rfl rfl rfl (by decide)) ?_
  refine Eq.trans (li_iload_n d130_4 (by rfl)) ?_
  refine Eq.trans (li_ivR d130_5 ca_11_240 kd_114 kl_114 (by rfl) (by rfl) (sf_of h0 5 (by decide) (by decide)) (Nat.le_of_ble_eq_true rfl) (Nat.le_of_ble_eq_true rfl)) ?_
  refine lt_cR_c (fun v1 m1 => ?_)
  refine Eq.trans (li_astore_n (ls' := [some (.inr (.inr (some a0))), some (.inl x1), some (.inl x2), some (.inr (.inr v1))]) d130_8 (by decide) (by rfl)) ?_
  refine Eq.trans (li_aload_n d130_9 (by rfl)) ?_
  refine lt_nl_x (F := fun oz => lt_run d Y130 10 [some (.inr (.inr (some a0))), some (.inl x1), some (.inl x2), some (.inr (.inr oz))] [.inr (.inr oz)] m1) ?_ (fun q1 => ?_)
  · refine Eq.trans (li_ifnull_n (t := 22) d130_10 (by rfl)) ?_
    refine Eq.trans (li_iconst d130_22 ic_n1) ?_
    exact li_iret d130_23 rfl
  · refine Eq.trans (li_ifnull_s d130_10) ?_
    refine Eq.trans (li_aload_n d130_13 (by rfl)) ?_
    refine Eq.trans (li_iload_n d130_14 (by rfl)) ?_
    refine Eq.trans (li_ginv d130_15 ca_11_302 kl_64 (by rfl)) ?_
    refine lt_gd_c (fun g1 => ?_)
    refine Eq.trans (li_ivI d130_15 ca_11_302 kd_64 kl_64 (by rfl) (by rfl) g1 (Nat.le_of_ble_eq_true rfl) (Nat.le_of_ble_eq_true rfl)) ?_
    refine lt_cI_c (fun v2 m2 => ?_)
    refine Eq.trans (li_iconst d130_18 ic_n1) ?_
    refine Eq.trans (li_icmp_ne (t := 24) d130_19 (by rfl)) ?_
    refine lt_ite (fun c1 => ?_) (fun c1 => ?_)
    · refine Eq.trans (li_aload_n d130_24 (by rfl)) ?_
      refine Eq.trans (li_aload_n d130_25 (by rfl)) ?_
      refine Eq.trans (li_iload_n d130_26 (by rfl)) ?_
      refine Eq.trans (li_ivI d130_27 ca_11_305 kd_131 kl_131 (by rfl) (by rfl) g1 (Nat.le_of_ble_eq_true rfl) (Nat.le_of_ble_eq_true rfl)) ?_
      refine lt_cI_c (fun v3 m3 => ?_)
      refine Eq.trans (li_ivV d130_30 ca_11_157 kd_75 kl_75 (by rfl) (by rfl) h0 (Nat.le_of_ble_eq_true rfl) (Nat.le_of_ble_eq_true rfl)) ?_
      refine lt_cV_c (fun m4 => ?_)
      refine Eq.trans (li_aload_n d130_33 (by rfl)) ?_
      refine Eq.trans (li_iload_n d130_34 (by rfl)) ?_
      refine Eq.trans (li_ivI d130_35 ca_11_302 kd_64 kl_64 (by rfl) (by rfl) g1 (Nat.le_of_ble_eq_true rfl) (Nat.le_of_ble_eq_true rfl)) ?_
      refine lt_cI_c (fun v4 m5 => ?_)
      exact li_iret d130_38 rfl
    · refine Eq.trans (li_iconst d130_22 ic_n1) ?_
      exact li_iret d130_23 rfl
/-! TransitSeals$Movement.stampedAt(I)I -/
theorem d131_0 : decode Y131.2.1 0 = .ok (.iload_n 1, 1) := by decide +kernel
theorem d131_1 : decode Y131.2.1 1 = .ok (.ifCond .lt 22, 3) := by decide +kernel
theorem d131_4 : decode Y131.2.1 4 = .ok (.iload_n 1, 1) := by decide +kernel
theorem d131_5 : decode Y131.2.1 5 = .ok (.aload_n 0, 1) := by decide +kernel
theorem d131_6 : decode Y131.2.1 6 = .ok (.getfield 35, 3) := by decide +kernel
theorem d131_9 : decode Y131.2.1 9 = .ok (.if_icmp .ge 14, 3) := by decide +kernel
theorem d131_12 : decode Y131.2.1 12 = .ok (.aload_n 0, 1) := by decide +kernel
theorem d131_13 : decode Y131.2.1 13 = .ok (.getfield 19, 3) := by decide +kernel
theorem d131_16 : decode Y131.2.1 16 = .ok (.iload_n 1, 1) := by decide +kernel
theorem d131_17 : decode Y131.2.1 17 = .ok (.invokestatic 31, 3) := by decide +kernel
theorem d131_20 : decode Y131.2.1 20 = .ok (.goto 4, 3) := by decide +kernel
theorem d131_23 : decode Y131.2.1 23 = .ok (.iconst (-1), 1) := by decide +kernel
theorem d131_24 : decode Y131.2.1 24 = .ok (.ireturn, 1) := by decide +kernel
theorem E131 (d : Nat) (a0 : Nat) (x1 : Int32) (h0 : ts_sh a0 = (0, 4)) (m : lt_m) : lt_ev (d + 1) 131 [.inr (.inr (some a0)), .inl x1] m = if x1 < 0 then (some (some (.inl (-1 : Int32)), m)) else (if (m.1 a0 9) ≤ x1 then (some (some (.inl (-1 : Int32)), m)) else (lt_cI (lt_ev d 16 [.inr (.inr (some (a0 + 2))), .inl x1] m) (fun v1 m1 => (some (some (.inl v1), m1))))) := by
  refine Eq.trans (lt_enter2 (ls := [some (.inr (.inr (some a0))), some (.inl x1)]) hY131 (Nat.le_of_ble_eq_true rfl) (by rfl)) ?_
  refine Eq.trans (li_iload_n d131_0 (by rfl)) ?_
  refine Eq.trans (li_if_lt (t := 23) d131_1 (by rfl)) ?_
  refine lt_ite (fun c1 => ?_) (fun c1 => ?_)
  · refine Eq.trans (li_iconst d131_23 ic_n1) ?_
    exact li_iret d131_24 rfl
  · refine Eq.trans (li_iload_n d131_4 (by rfl)) ?_
    refine Eq.trans (li_aload_n d131_5 (by rfl)) ?_
    refine Eq.trans (li_geti d131_6 fa_4_35 h0 rfl) ?_
    refine Eq.trans (li_icmp_ge (t := 23) d131_9 (by rfl)) ?_
    refine lt_ite (fun c2 => ?_) (fun c2 => ?_)
    · refine Eq.trans (li_iconst d131_23 ic_n1) ?_
      exact li_iret d131_24 rfl
    · refine Eq.trans (li_aload_n d131_12 (by rfl)) ?_
      refine Eq.trans (li_getr d131_13 fa_4_19 h0 rfl rfl rfl (by decide)) ?_
      refine Eq.trans (li_iload_n d131_16 (by rfl)) ?_
      refine Eq.trans (li_isI d131_17 bi_4_31 ca_4_31 kd_16 (by rfl) (by rfl) (Nat.le_of_ble_eq_true rfl) (Nat.le_of_ble_eq_true rfl)) ?_
      refine lt_cI_c (fun v1 m1 => ?_)
      refine Eq.trans (li_goto (t := 24) d131_20 (by rfl)) ?_
      exact li_iret d131_24 rfl
/-! TransitSeals.left(I)I -/
theorem d132_0 : decode Y132.2.1 0 = .ok (.aload_n 0, 1) := by decide +kernel
theorem d132_1 : decode Y132.2.1 1 = .ok (.getfield 47, 3) := by decide +kernel
theorem d132_4 : decode Y132.2.1 4 = .ok (.iload_n 1, 1) := by decide +kernel
theorem d132_5 : decode Y132.2.1 5 = .ok (.invokevirtual 240, 3) := by decide +kernel
theorem d132_8 : decode Y132.2.1 8 = .ok (.astore_n 2, 1) := by decide +kernel
theorem d132_9 : decode Y132.2.1 9 = .ok (.aload_n 2, 1) := by decide +kernel
theorem d132_10 : decode Y132.2.1 10 = .ok (.ifnonnull 5, 3) := by decide +kernel
theorem d132_13 : decode Y132.2.1 13 = .ok (.iconst (-1), 1) := by decide +kernel
theorem d132_14 : decode Y132.2.1 14 = .ok (.ireturn, 1) := by decide +kernel
theorem d132_15 : decode Y132.2.1 15 = .ok (.aload_n 0, 1) := by decide +kernel
theorem d132_16 : decode Y132.2.1 16 = .ok (.aload_n 2, 1) := by decide +kernel
theorem d132_17 : decode Y132.2.1 17 = .ok (.getfield 296, 3) := by decide +kernel
theorem d132_20 : decode Y132.2.1 20 = .ok (.aload_n 0, 1) := by decide +kernel
theorem d132_21 : decode Y132.2.1 21 = .ok (.getfield 47, 3) := by decide +kernel
theorem d132_24 : decode Y132.2.1 24 = .ok (.getfield 223, 3) := by decide +kernel
theorem d132_27 : decode Y132.2.1 27 = .ok (.isub, 1) := by decide +kernel
theorem d132_28 : decode Y132.2.1 28 = .ok (.aload_n 2, 1) := by decide +kernel
theorem d132_29 : decode Y132.2.1 29 = .ok (.invokevirtual 247, 3) := by decide +kernel
theorem d132_32 : decode Y132.2.1 32 = .ok (.invokevirtual 144, 3) := by decide +kernel
theorem d132_35 : decode Y132.2.1 35 = .ok (.aload_n 0, 1) := by decide +kernel
theorem d132_36 : decode Y132.2.1 36 = .ok (.aload_n 2, 1) := by decide +kernel
theorem d132_37 : decode Y132.2.1 37 = .ok (.invokevirtual 308, 3) := by decide +kernel
theorem d132_40 : decode Y132.2.1 40 = .ok (.ireturn, 1) := by decide +kernel
theorem E132 (d : Nat) (a0 : Nat) (x1 : Int32) (h0 : ts_sh a0 = (0, 11)) (m : lt_m) : lt_ev (d + 1) 132 [.inr (.inr (some a0)), .inl x1] m = lt_cR (lt_ev d 114 [.inr (.inr (some (a0 + 13))), .inl x1] m) (fun v1 m1 => (lt_nl v1 (some (some (.inl (-1 : Int32)), m1)) (fun q1 => (lt_gd (ts_sh q1 = (0, 4)) (lt_cI (lt_ev d 115 [.inr (.inr (some q1))] m1) (fun v2 m2 => (lt_cV (lt_ev d 74 [.inr (.inr (some a0)), .inl ((m1.1 q1 6) - (m1.1 (a0 + 13) 4)), .inl v2] m2) (fun m3 => (lt_cI (lt_ev d 133 [.inr (.inr (some a0)), .inr (.inr (some q1))] m3) (fun v3 m4 => (some (some (.inl v3), m4)))))))))))) := by
  refine Eq.trans (lt_enter2 (ls := [some (.inr (.inr (some a0))), some (.inl x1), none]) hY132 (Nat.le_of_ble_eq_true rfl) (by rfl)) ?_
  refine Eq.trans (li_aload_n d132_0 (by rfl)) ?_
  refine Eq.trans (li_getr d132_1 fa_11_47 h0 rfl rfl rfl (by decide)) ?_
  refine Eq.trans (li_iload_n d132_4 (by rfl)) ?_
  refine Eq.trans (li_ivR d132_5 ca_11_240 kd_114 kl_114 (by rfl) (by rfl) (sf_of h0 5 (by decide) (by decide)) (Nat.le_of_ble_eq_true rfl) (Nat.le_of_ble_eq_true rfl)) ?_
  refine lt_cR_c (fun v1 m1 => ?_)
  refine Eq.trans (li_astore_n (ls' := [some (.inr (.inr (some a0))), some (.inl x1), some (.inr (.inr v1))]) d132_8 (by decide) (by rfl)) ?_
  refine Eq.trans (li_aload_n d132_9 (by rfl)) ?_
  refine lt_nl_x (F := fun oz => lt_run d Y132 10 [some (.inr (.inr (some a0))), some (.inl x1), some (.inr (.inr oz))] [.inr (.inr oz)] m1) ?_ (fun q1 => ?_)
  · refine Eq.trans (li_ifnonnull_n d132_10) ?_
    refine Eq.trans (li_iconst d132_13 ic_n1) ?_
    exact li_iret d132_14 rfl
  · refine Eq.trans (li_ifnonnull_s (t := 15) d132_10 (by rfl)) ?_
    refine Eq.trans (li_aload_n d132_15 (by rfl)) ?_
    refine Eq.trans (li_aload_n d132_16 (by rfl)) ?_
    refine Eq.trans (li_gget d132_17 fa_11_296) ?_
    refine lt_gd_c (fun g1 => ?_)
    refine Eq.trans (li_geti d132_17 fa_11_296 g1 rfl) ?_
    refine Eq.trans (li_aload_n d132_20 (by rfl)) ?_
    refine Eq.trans (li_getr d132_21 fa_11_47 h0 rfl rfl rfl (by decide)) ?_
    refine Eq.trans (li_geti d132_24 fa_11_223 (sf_of h0 5 (by decide) (by decide)) rfl) ?_
    refine Eq.trans (li_isub d132_27) ?_
    refine Eq.trans (li_aload_n d132_28 (by rfl)) ?_
    refine Eq.trans (li_ivI d132_29 ca_11_247 kd_115 kl_115 (by rfl) (by rfl) g1 (Nat.le_of_ble_eq_true rfl) (Nat.le_of_ble_eq_true rfl)) ?_
    refine lt_cI_c (fun v2 m2 => ?_)
    refine Eq.trans (li_ivV d132_32 ca_11_144 kd_74 kl_74 (by rfl) (by rfl) h0 (Nat.le_of_ble_eq_true rfl) (Nat.le_of_ble_eq_true rfl)) ?_
    refine lt_cV_c (fun m3 => ?_)
    refine Eq.trans (li_aload_n d132_35 (by rfl)) ?_
    refine Eq.trans (li_aload_n d132_36 (by rfl)) ?_
    refine Eq.trans (li_ivI d132_37 ca_11_308 kd_133 kl_133 (by rfl) (by rfl) h0 (Nat.le_of_ble_eq_true rfl) (Nat.le_of_ble_eq_true rfl)) ?_
    refine lt_cI_c (fun v3 m4 => ?_)
    exact li_iret d132_40 rfl
/-! TransitSeals.hoursToGo(LTransitSeals$Movement;)I -/
theorem d133_0 : decode Y133.2.1 0 = .ok (.iconst 0, 1) := by decide +kernel
theorem d133_1 : decode Y133.2.1 1 = .ok (.istore_n 2, 1) := by decide +kernel
theorem d133_2 : decode Y133.2.1 2 = .ok (.aload_n 1, 1) := by decide +kernel
theorem d133_3 : decode Y133.2.1 3 = .ok (.getfield 256, 3) := by decide +kernel
theorem d133_6 : decode Y133.2.1 6 = .ok (.istore_n 3, 1) := by decide +kernel
theorem d133_7 : decode Y133.2.1 7 = .ok (.iload_n 3, 1) := by decide +kernel
theorem d133_8 : decode Y133.2.1 8 = .ok (.aload_n 1, 1) := by decide +kernel
theorem d133_9 : decode Y133.2.1 9 = .ok (.getfield 253, 3) := by decide +kernel
theorem d133_12 : decode Y133.2.1 12 = .ok (.if_icmp .ge 31, 3) := by decide +kernel
theorem d133_15 : decode Y133.2.1 15 = .ok (.iload_n 2, 1) := by decide +kernel
theorem d133_16 : decode Y133.2.1 16 = .ok (.aload_n 0, 1) := by decide +kernel
theorem d133_17 : decode Y133.2.1 17 = .ok (.getfield 61, 3) := by decide +kernel
theorem d133_20 : decode Y133.2.1 20 = .ok (.aload_n 1, 1) := by decide +kernel
theorem d133_21 : decode Y133.2.1 21 = .ok (.iload_n 3, 1) := by decide +kernel
theorem d133_22 : decode Y133.2.1 22 = .ok (.iconst 1, 1) := by decide +kernel
theorem d133_23 : decode Y133.2.1 23 = .ok (.isub, 1) := by decide +kernel
theorem d133_24 : decode Y133.2.1 24 = .ok (.invokevirtual 302, 3) := by decide +kernel
theorem d133_27 : decode Y133.2.1 27 = .ok (.aload_n 1, 1) := by decide +kernel
theorem d133_28 : decode Y133.2.1 28 = .ok (.iload_n 3, 1) := by decide +kernel
theorem d133_29 : decode Y133.2.1 29 = .ok (.invokevirtual 302, 3) := by decide +kernel
theorem d133_32 : decode Y133.2.1 32 = .ok (.invokevirtual 109, 3) := by decide +kernel
theorem d133_35 : decode Y133.2.1 35 = .ok (.iadd, 1) := by decide +kernel
theorem d133_36 : decode Y133.2.1 36 = .ok (.istore_n 2, 1) := by decide +kernel
theorem d133_37 : decode Y133.2.1 37 = .ok (.iinc 3 1, 3) := by decide +kernel
theorem d133_40 : decode Y133.2.1 40 = .ok (.goto (-33), 3) := by decide +kernel
theorem d133_43 : decode Y133.2.1 43 = .ok (.iload_n 2, 1) := by decide +kernel
theorem d133_44 : decode Y133.2.1 44 = .ok (.ireturn, 1) := by decide +kernel
noncomputable def L133_7 (d : Nat) (a0 : Nat) (a1 : Nat) (x2 : Int32) (x3 : Int32) (m : lt_m) : Option lt_r := lt_run d Y133 7 [some (.inr (.inr (some a0))), some (.inr (.inr (some a1))), some (.inl x2), some (.inl x3)] [] m
theorem E133 (d : Nat) (a0 : Nat) (a1 : Nat) (h0 : ts_sh a0 = (0, 11)) (h1 : ts_sh a1 = (0, 4)) (m : lt_m) : lt_ev (d + 1) 133 [.inr (.inr (some a0)), .inr (.inr (some a1))] m = L133_7 d a0 a1 (0 : Int32) (m.1 a1 9) m := by
  refine Eq.trans (lt_enter2 (ls := [some (.inr (.inr (some a0))), some (.inr (.inr (some a1))), none, none]) hY133 (Nat.le_of_ble_eq_true rfl) (by rfl)) ?_
  refine Eq.trans (li_iconst d133_0 ic_0) ?_
  refine Eq.trans (li_istore_n (ls' := [some (.inr (.inr (some a0))), some (.inr (.inr (some a1))), some (.inl (0 : Int32)), none]) d133_1 (by decide) (by rfl)) ?_
  refine Eq.trans (li_aload_n d133_2 (by rfl)) ?_
  refine Eq.trans (li_geti d133_3 fa_11_256 h1 rfl) ?_
  refine Eq.trans (li_istore_n (ls' := [some (.inr (.inr (some a0))), some (.inr (.inr (some a1))), some (.inl (0 : Int32)), some (.inl (m.1 a1 9))]) d133_6 (by decide) (by rfl)) ?_
  rfl
theorem E133_7 (d : Nat) (a0 : Nat) (a1 : Nat) (x2 : Int32) (x3 : Int32) (h0 : ts_sh a0 = (0, 11)) (h1 : ts_sh a1 = (0, 4)) (m : lt_m) : L133_7 d a0 a1 x2 x3 m = if (m.1 a1 8) ≤ x3 then (some (some (.inl x2), m)) else (lt_cI (lt_ev d 64 [.inr (.inr (some a1)), .inl (x3 - (1 : Int32))] m) (fun v1 m1 => (lt_cI (lt_ev d 64 [.inr (.inr (some a1)), .inl x3] m1) (fun v2 m2 => (lt_gd (ts_sh (m.2.2.1) = (0, 5)) (lt_cI (lt_ev d 13 [.inr (.inr (some (m.2.2.1))), .inl v1, .inl v2] m2) (fun v3 m3 => (L133_7 d a0 a1 (x2 + v3) (x3 + (1 : Int32)) m3)))))))) := by
  show lt_run d Y133 7 [some (.inr (.inr (some a0))), some (.inr (.inr (some a1))), some (.inl x2), some (.inl x3)] [] m = _
  refine Eq.trans (li_iload_n d133_7 (by rfl)) ?_
  refine Eq.trans (li_aload_n d133_8 (by rfl)) ?_
  refine Eq.trans (li_geti d133_9 fa_11_253 h1 rfl) ?_
  refine Eq.trans (li_icmp_ge (t := 43) d133_12 (by rfl)) ?_
  refine lt_ite (fun c1 => ?_) (fun c1 => ?_)
  · refine Eq.trans (li_iload_n d133_43 (by rfl)) ?_
    exact li_iret d133_44 rfl
  · refine Eq.trans (li_iload_n d133_15 (by rfl)) ?_
    refine Eq.trans (li_aload_n d133_16 (by rfl)) ?_
    refine Eq.trans (li_getnet d133_17 fa_11_61 h0) ?_
    refine Eq.trans (li_aload_n d133_20 (by rfl)) ?_
    refine Eq.trans (li_iload_n d133_21 (by rfl)) ?_
    refine Eq.trans (li_iconst d133_22 ic_1) ?_
    refine Eq.trans (li_isub d133_23) ?_
    refine Eq.trans (li_ivI d133_24 ca_11_302 kd_64 kl_64 (by rfl) (by rfl) h1 (Nat.le_of_ble_eq_true rfl) (Nat.le_of_ble_eq_true rfl)) ?_
    refine lt_cI_c (fun v1 m1 => ?_)
    refine Eq.trans (li_aload_n d133_27 (by rfl)) ?_
    refine Eq.trans (li_iload_n d133_28 (by rfl)) ?_
    refine Eq.trans (li_ivI d133_29 ca_11_302 kd_64 kl_64 (by rfl) (by rfl) h1 (Nat.le_of_ble_eq_true rfl) (Nat.le_of_ble_eq_true rfl)) ?_
    refine lt_cI_c (fun v2 m2 => ?_)
    refine Eq.trans (li_ginv d133_32 ca_11_109 kl_13 (by rfl)) ?_
    refine lt_gd_c (fun g1 => ?_)
    refine Eq.trans (li_ivI d133_32 ca_11_109 kd_13 kl_13 (by rfl) (by rfl) g1 (Nat.le_of_ble_eq_true rfl) (Nat.le_of_ble_eq_true rfl)) ?_
    refine lt_cI_c (fun v3 m3 => ?_)
    refine Eq.trans (li_iadd d133_35) ?_
    refine Eq.trans (li_istore_n (ls' := [some (.inr (.inr (some a0))), some (.inr (.inr (some a1))), some (.inl (x2 + v3)), some (.inl x3)]) d133_36 (by decide) (by rfl)) ?_
    refine Eq.trans (li_iinc (ls' := [some (.inr (.inr (some a0))), some (.inr (.inr (some a1))), some (.inl (x2 + v3)), some (.inl (x3 + (1 : Int32)))]) d133_37 (by rfl) (by decide) ic_1 (by rfl)) ?_
    refine Eq.trans (li_goto (t := 7) d133_40 (by rfl)) ?_
    rfl
/-! TransitSeals.states(I)I -/
theorem d137_0 : decode Y137.2.1 0 = .ok (.iload_n 1, 1) := by decide +kernel
theorem d137_1 : decode Y137.2.1 1 = .ok (.ifCond .lt 8, 3) := by decide +kernel
theorem d137_4 : decode Y137.2.1 4 = .ok (.iload_n 1, 1) := by decide +kernel
theorem d137_5 : decode Y137.2.1 5 = .ok (.iconst 5, 1) := by decide +kernel
theorem d137_6 : decode Y137.2.1 6 = .ok (.if_icmp .le 5, 3) := by decide +kernel
theorem d137_9 : decode Y137.2.1 9 = .ok (.iconst (-1), 1) := by decide +kernel
theorem d137_10 : decode Y137.2.1 10 = .ok (.ireturn, 1) := by decide +kernel
theorem d137_11 : decode Y137.2.1 11 = .ok (.iconst 0, 1) := by decide +kernel
theorem d137_12 : decode Y137.2.1 12 = .ok (.istore_n 2, 1) := by decide +kernel
theorem d137_13 : decode Y137.2.1 13 = .ok (.iconst 0, 1) := by decide +kernel
theorem d137_14 : decode Y137.2.1 14 = .ok (.istore_n 3, 1) := by decide +kernel
theorem d137_15 : decode Y137.2.1 15 = .ok (.aload_n 0, 1) := by decide +kernel
theorem d137_16 : decode Y137.2.1 16 = .ok (.getfield 47, 3) := by decide +kernel
theorem d137_19 : decode Y137.2.1 19 = .ok (.getfield 315, 3) := by decide +kernel
theorem d137_22 : decode Y137.2.1 22 = .ok (.astore 4, 2) := by decide +kernel
theorem d137_24 : decode Y137.2.1 24 = .ok (.aload 4, 2) := by decide +kernel
theorem d137_26 : decode Y137.2.1 26 = .ok (.arraylength, 1) := by decide +kernel
theorem d137_27 : decode Y137.2.1 27 = .ok (.istore 5, 2) := by decide +kernel
theorem d137_29 : decode Y137.2.1 29 = .ok (.iconst 0, 1) := by decide +kernel
theorem d137_30 : decode Y137.2.1 30 = .ok (.istore 6, 2) := by decide +kernel
theorem d137_32 : decode Y137.2.1 32 = .ok (.iload 6, 2) := by decide +kernel
theorem d137_34 : decode Y137.2.1 34 = .ok (.iload 5, 2) := by decide +kernel
theorem d137_36 : decode Y137.2.1 36 = .ok (.if_icmp .ge 41, 3) := by decide +kernel
theorem d137_39 : decode Y137.2.1 39 = .ok (.aload 4, 2) := by decide +kernel
theorem d137_41 : decode Y137.2.1 41 = .ok (.iload 6, 2) := by decide +kernel
theorem d137_43 : decode Y137.2.1 43 = .ok (.aaload, 1) := by decide +kernel
theorem d137_44 : decode Y137.2.1 44 = .ok (.astore 7, 2) := by decide +kernel
theorem d137_46 : decode Y137.2.1 46 = .ok (.aload 7, 2) := by decide +kernel
theorem d137_48 : decode Y137.2.1 48 = .ok (.getfield 269, 3) := by decide +kernel
theorem d137_51 : decode Y137.2.1 51 = .ok (.iload_n 1, 1) := by decide +kernel
theorem d137_52 : decode Y137.2.1 52 = .ok (.if_icmp .ne 19, 3) := by decide +kernel
theorem d137_55 : decode Y137.2.1 55 = .ok (.iload_n 2, 1) := by decide +kernel
theorem d137_56 : decode Y137.2.1 56 = .ok (.aload 7, 2) := by decide +kernel
theorem d137_58 : decode Y137.2.1 58 = .ok (.invokevirtual 319, 3) := by decide +kernel
theorem d137_61 : decode Y137.2.1 61 = .ok (.ior, 1) := by decide +kernel
theorem d137_62 : decode Y137.2.1 62 = .ok (.istore_n 2, 1) := by decide +kernel
theorem d137_63 : decode Y137.2.1 63 = .ok (.iload_n 3, 1) := by decide +kernel
theorem d137_64 : decode Y137.2.1 64 = .ok (.aload 7, 2) := by decide +kernel
theorem d137_66 : decode Y137.2.1 66 = .ok (.getfield 294, 3) := by decide +kernel
theorem d137_69 : decode Y137.2.1 69 = .ok (.iadd, 1) := by decide +kernel
theorem d137_70 : decode Y137.2.1 70 = .ok (.istore_n 3, 1) := by decide +kernel
theorem d137_71 : decode Y137.2.1 71 = .ok (.iinc 6 1, 3) := by decide +kernel
theorem d137_74 : decode Y137.2.1 74 = .ok (.goto (-42), 3) := by decide +kernel
theorem d137_77 : decode Y137.2.1 77 = .ok (.aload_n 0, 1) := by decide +kernel
theorem d137_78 : decode Y137.2.1 78 = .ok (.iload_n 2, 1) := by decide +kernel
theorem d137_79 : decode Y137.2.1 79 = .ok (.invokestatic 152, 3) := by decide +kernel
theorem d137_82 : decode Y137.2.1 82 = .ok (.iload_n 3, 1) := by decide +kernel
theorem d137_83 : decode Y137.2.1 83 = .ok (.invokevirtual 144, 3) := by decide +kernel
theorem d137_86 : decode Y137.2.1 86 = .ok (.iload_n 2, 1) := by decide +kernel
theorem d137_87 : decode Y137.2.1 87 = .ok (.ireturn, 1) := by decide +kernel
noncomputable def L137_32 (d : Nat) (a0 : Nat) (x1 : Int32) (x2 : Int32) (x3 : Int32) (x6 : Int32) (o7 : Option ts_V) (m : lt_m) : Option lt_r := lt_run d Y137 32 [some (.inr (.inr (some a0))), some (.inl x1), some (.inl x2), some (.inl x3), some (.inr (.inr (some ((a0 + 13) + 3)))), some (.inl (20 : Int32)), some (.inl x6), o7] [] m
theorem E137 (d : Nat) (a0 : Nat) (x1 : Int32) (h0 : ts_sh a0 = (0, 11)) (m : lt_m) : lt_ev (d + 1) 137 [.inr (.inr (some a0)), .inl x1] m = if x1 < 0 then (some (some (.inl (-1 : Int32)), m)) else (if x1 ≤ (5 : Int32) then (L137_32 d a0 x1 (0 : Int32) (0 : Int32) (0 : Int32) none m) else (some (some (.inl (-1 : Int32)), m))) := by
  refine Eq.trans (lt_enter2 (ls := [some (.inr (.inr (some a0))), some (.inl x1), none, none, none, none, none, none]) hY137 (Nat.le_of_ble_eq_true rfl) (by rfl)) ?_
  refine Eq.trans (li_iload_n d137_0 (by rfl)) ?_
  refine Eq.trans (li_if_lt (t := 9) d137_1 (by rfl)) ?_
  refine lt_ite (fun c1 => ?_) (fun c1 => ?_)
  · refine Eq.trans (li_iconst d137_9 ic_n1) ?_
    exact li_iret d137_10 rfl
  · refine Eq.trans (li_iload_n d137_4 (by rfl)) ?_
    refine Eq.trans (li_iconst d137_5 ic_5) ?_
    refine Eq.trans (li_icmp_le (t := 11) d137_6 (by rfl)) ?_
    refine lt_ite (fun c2 => ?_) (fun c2 => ?_)
    · refine Eq.trans (li_iconst d137_11 ic_0) ?_
      refine Eq.trans (li_istore_n (ls' := [some (.inr (.inr (some a0))), some (.inl x1), some (.inl (0 : Int32)), none, none, none, none, none]) d137_12 (by decide) (by rfl)) ?_
      refine Eq.trans (li_iconst d137_13 ic_0) ?_
      refine Eq.trans (li_istore_n (ls' := [some (.inr (.inr (some a0))), some (.inl x1), some (.inl (0 : Int32)), some (.inl (0 : Int32)), none, none, none, none]) d137_14 (by decide) (by rfl)) ?_
      refine Eq.trans (li_aload_n d137_15 (by rfl)) ?_
      refine Eq.trans (li_getr d137_16 fa_11_47 h0 rfl rfl rfl (by decide)) ?_
      refine Eq.trans (li_getr d137_19 fa_11_315 (sf_of h0 5 (by decide) (by decide)) rfl rfl rfl (by decide)) ?_
      refine Eq.trans (li_astore (ls' := [some (.inr (.inr (some a0))), some (.inl x1), some (.inl (0 : Int32)), some (.inl (0 : Int32)), some (.inr (.inr (some ((a0 + 13) + 3)))), none, none, none]) d137_22 (by decide) (by rfl)) ?_
      refine Eq.trans (li_aload d137_24 (by rfl)) ?_
      refine Eq.trans (li_alen d137_26 (sf_of (sf_of h0 5 (by decide) (by decide)) 2 (by decide) (by decide)) (by decide) (by rfl)) ?_
      refine Eq.trans (li_istore (ls' := [some (.inr (.inr (some a0))), some (.inl x1), some (.inl (0 : Int32)), some (.inl (0 : Int32)), some (.inr (.inr (some ((a0 + 13) + 3)))), some (.inl (20 : Int32)), none, none]) d137_27 (by decide) (by rfl)) ?_
      refine Eq.trans (li_iconst d137_29 ic_0) ?_
      refine Eq.trans (li_istore (ls' := [some (.inr (.inr (some a0))), some (.inl x1), some (.inl (0 : Int32)), some (.inl (0 : Int32)), some (.inr (.inr (some ((a0 + 13) + 3)))), some (.inl (20 : Int32)), some (.inl (0 : Int32)), none]) d137_30 (by decide) (by rfl)) ?_
      rfl
    · refine Eq.trans (li_iconst d137_9 ic_n1) ?_
      exact li_iret d137_10 rfl
theorem E137_32 (d : Nat) (a0 : Nat) (x1 : Int32) (x2 : Int32) (x3 : Int32) (x6 : Int32) (o7 : Option ts_V) (h0 : ts_sh a0 = (0, 11)) (m : lt_m) : L137_32 d a0 x1 x2 x3 x6 o7 m = if (20 : Int32) ≤ x6 then (lt_cI (lt_ev d 60 [.inl x2] m) (fun v1 m1 => (lt_cV (lt_ev d 74 [.inr (.inr (some a0)), .inl v1, .inl x3] m1) (fun m2 => (some (some (.inl x2), m2)))))) else (lt_gd (0 ≤ x6 ∧ (x6).toNatClampNeg < 20) (if ¬ (m.1 (((a0 + 13) + 3) + 5 + 3 * (x6).toNatClampNeg) 7) = x1 then (L137_32 d a0 x1 x2 x3 (x6 + (1 : Int32)) (some (.inr (.inr (some (((a0 + 13) + 3) + 5 + 3 * (x6).toNatClampNeg))))) m) else (lt_cI (lt_ev d 65 [.inr (.inr (some (((a0 + 13) + 3) + 5 + 3 * (x6).toNatClampNeg)))] m) (fun v2 m3 => (L137_32 d a0 x1 (x2 ||| v2) (x3 + (m3.1 (((a0 + 13) + 3) + 5 + 3 * (x6).toNatClampNeg) 5)) (x6 + (1 : Int32)) (some (.inr (.inr (some (((a0 + 13) + 3) + 5 + 3 * (x6).toNatClampNeg))))) m3))))) := by
  show lt_run d Y137 32 [some (.inr (.inr (some a0))), some (.inl x1), some (.inl x2), some (.inl x3), some (.inr (.inr (some ((a0 + 13) + 3)))), some (.inl (20 : Int32)), some (.inl x6), o7] [] m = _
  refine Eq.trans (li_iload d137_32 (by rfl)) ?_
  refine Eq.trans (li_iload d137_34 (by rfl)) ?_
  refine Eq.trans (li_icmp_ge (t := 77) d137_36 (by rfl)) ?_
  refine lt_ite (fun c1 => ?_) (fun c1 => ?_)
  · refine Eq.trans (li_aload_n d137_77 (by rfl)) ?_
    refine Eq.trans (li_iload_n d137_78 (by rfl)) ?_
    refine Eq.trans (li_isI d137_79 bi_11_152 ca_11_152 kd_60 (by rfl) (by rfl) (Nat.le_of_ble_eq_true rfl) (Nat.le_of_ble_eq_true rfl)) ?_
    refine lt_cI_c (fun v1 m1 => ?_)
    refine Eq.trans (li_iload_n d137_82 (by rfl)) ?_
    refine Eq.trans (li_ivV d137_83 ca_11_144 kd_74 kl_74 (by rfl) (by rfl) h0 (Nat.le_of_ble_eq_true rfl) (Nat.le_of_ble_eq_true rfl)) ?_
    refine lt_cV_c (fun m2 => ?_)
    refine Eq.trans (li_iload_n d137_86 (by rfl)) ?_
    exact li_iret d137_87 rfl
  · refine Eq.trans (li_aload d137_39 (by rfl)) ?_
    refine Eq.trans (li_iload d137_41 (by rfl)) ?_
    refine Eq.trans (li_aald4 d137_43 (sf_of (sf_of h0 5 (by decide) (by decide)) 2 (by decide) (by decide))) ?_
    refine lt_gd_c (fun g1 => ?_)
    refine Eq.trans (li_astore (ls' := [some (.inr (.inr (some a0))), some (.inl x1), some (.inl x2), some (.inl x3), some (.inr (.inr (some ((a0 + 13) + 3)))), some (.inl (20 : Int32)), some (.inl x6), some (.inr (.inr (some (((a0 + 13) + 3) + 5 + 3 * (x6).toNatClampNeg))))]) d137_44 (by decide) (by rfl)) ?_
    refine Eq.trans (li_aload d137_46 (by rfl)) ?_
    refine Eq.trans (li_geti d137_48 fa_11_269 (sm_4 (sf_of (sf_of h0 5 (by decide) (by decide)) 2 (by decide) (by decide)) g1.2) rfl) ?_
    refine Eq.trans (li_iload_n d137_51 (by rfl)) ?_
    refine Eq.trans (li_icmp_ne (t := 71) d137_52 (by rfl)) ?_
    refine lt_ite (fun c2 => ?_) (fun c2 => ?_)
    · refine Eq.trans (li_iinc (ls' := [some (.inr (.inr (some a0))), some (.inl x1), some (.inl x2), some (.inl x3), some (.inr (.inr (some ((a0 + 13) + 3)))), some (.inl (20 : Int32)), some (.inl (x6 + (1 : Int32))), some (.inr (.inr (some (((a0 + 13) + 3) + 5 + 3 * (x6).toNatClampNeg))))]) d137_71 (by rfl) (by decide) ic_1 (by rfl)) ?_
      refine Eq.trans (li_goto (t := 32) d137_74 (by rfl)) ?_
      rfl
    · refine Eq.trans (li_iload_n d137_55 (by rfl)) ?_
      refine Eq.trans (li_aload d137_56 (by rfl)) ?_
      refine Eq.trans (li_ivI d137_58 ca_11_319 kd_65 kl_65 (by rfl) (by rfl) (sm_4 (sf_of (sf_of h0 5 (by decide) (by decide)) 2 (by decide) (by decide)) g1.2) (Nat.le_of_ble_eq_true rfl) (Nat.le_of_ble_eq_true rfl)) ?_
      refine lt_cI_c (fun v2 m3 => ?_)
      refine Eq.trans (li_ior d137_61) ?_
      refine Eq.trans (li_istore_n (ls' := [some (.inr (.inr (some a0))), some (.inl x1), some (.inl (x2 ||| v2)), some (.inl x3), some (.inr (.inr (some ((a0 + 13) + 3)))), some (.inl (20 : Int32)), some (.inl x6), some (.inr (.inr (some (((a0 + 13) + 3) + 5 + 3 * (x6).toNatClampNeg))))]) d137_62 (by decide) (by rfl)) ?_
      refine Eq.trans (li_iload_n d137_63 (by rfl)) ?_
      refine Eq.trans (li_aload d137_64 (by rfl)) ?_
      refine Eq.trans (li_geti d137_66 fa_11_294 (sm_4 (sf_of (sf_of h0 5 (by decide) (by decide)) 2 (by decide) (by decide)) g1.2) rfl) ?_
      refine Eq.trans (li_iadd d137_69) ?_
      refine Eq.trans (li_istore_n (ls' := [some (.inr (.inr (some a0))), some (.inl x1), some (.inl (x2 ||| v2)), some (.inl (x3 + (m3.1 (((a0 + 13) + 3) + 5 + 3 * (x6).toNatClampNeg) 5))), some (.inr (.inr (some ((a0 + 13) + 3)))), some (.inl (20 : Int32)), some (.inl x6), some (.inr (.inr (some (((a0 + 13) + 3) + 5 + 3 * (x6).toNatClampNeg))))]) d137_70 (by decide) (by rfl)) ?_
      refine Eq.trans (li_iinc (ls' := [some (.inr (.inr (some a0))), some (.inl x1), some (.inl (x2 ||| v2)), some (.inl (x3 + (m3.1 (((a0 + 13) + 3) + 5 + 3 * (x6).toNatClampNeg) 5))), some (.inr (.inr (some ((a0 + 13) + 3)))), some (.inl (20 : Int32)), some (.inl (x6 + (1 : Int32))), some (.inr (.inr (some (((a0 + 13) + 3) + 5 + 3 * (x6).toNatClampNeg))))]) d137_71 (by rfl) (by decide) ic_1 (by rfl)) ?_
      refine Eq.trans (li_goto (t := 32) d137_74 (by rfl)) ?_
      rfl
/-! TransitSeals.owed(I)I -/
theorem d138_0 : decode Y138.2.1 0 = .ok (.iload_n 1, 1) := by decide +kernel
theorem d138_1 : decode Y138.2.1 1 = .ok (.ifCond .lt 9, 3) := by decide +kernel
theorem d138_4 : decode Y138.2.1 4 = .ok (.iload_n 1, 1) := by decide +kernel
theorem d138_5 : decode Y138.2.1 5 = .ok (.bipush 6, 2) := by decide +kernel
theorem d138_7 : decode Y138.2.1 7 = .ok (.if_icmp .lt 5, 3) := by decide +kernel
theorem d138_10 : decode Y138.2.1 10 = .ok (.iconst (-1), 1) := by decide +kernel
theorem d138_11 : decode Y138.2.1 11 = .ok (.ireturn, 1) := by decide +kernel
theorem d138_12 : decode Y138.2.1 12 = .ok (.iconst 0, 1) := by decide +kernel
theorem d138_13 : decode Y138.2.1 13 = .ok (.istore_n 2, 1) := by decide +kernel
theorem d138_14 : decode Y138.2.1 14 = .ok (.iconst 0, 1) := by decide +kernel
theorem d138_15 : decode Y138.2.1 15 = .ok (.istore_n 3, 1) := by decide +kernel
theorem d138_16 : decode Y138.2.1 16 = .ok (.iconst 0, 1) := by decide +kernel
theorem d138_17 : decode Y138.2.1 17 = .ok (.istore 4, 2) := by decide +kernel
theorem d138_19 : decode Y138.2.1 19 = .ok (.aload_n 0, 1) := by decide +kernel
theorem d138_20 : decode Y138.2.1 20 = .ok (.getfield 47, 3) := by decide +kernel
theorem d138_23 : decode Y138.2.1 23 = .ok (.getfield 315, 3) := by decide +kernel
theorem d138_26 : decode Y138.2.1 26 = .ok (.astore 5, 2) := by decide +kernel
theorem d138_28 : decode Y138.2.1 28 = .ok (.aload 5, 2) := by decide +kernel
theorem d138_30 : decode Y138.2.1 30 = .ok (.arraylength, 1) := by decide +kernel
theorem d138_31 : decode Y138.2.1 31 = .ok (.istore 6, 2) := by decide +kernel
theorem d138_33 : decode Y138.2.1 33 = .ok (.iconst 0, 1) := by decide +kernel
theorem d138_34 : decode Y138.2.1 34 = .ok (.istore 7, 2) := by decide +kernel
theorem d138_36 : decode Y138.2.1 36 = .ok (.iload 7, 2) := by decide +kernel
theorem d138_38 : decode Y138.2.1 38 = .ok (.iload 6, 2) := by decide +kernel
theorem d138_40 : decode Y138.2.1 40 = .ok (.if_icmp .ge 85, 3) := by decide +kernel
theorem d138_43 : decode Y138.2.1 43 = .ok (.aload 5, 2) := by decide +kernel
theorem d138_45 : decode Y138.2.1 45 = .ok (.iload 7, 2) := by decide +kernel
theorem d138_47 : decode Y138.2.1 47 = .ok (.aaload, 1) := by decide +kernel
theorem d138_48 : decode Y138.2.1 48 = .ok (.astore 8, 2) := by decide +kernel
theorem d138_50 : decode Y138.2.1 50 = .ok (.aload 8, 2) := by decide +kernel
theorem d138_52 : decode Y138.2.1 52 = .ok (.invokevirtual 322, 3) := by decide +kernel
theorem d138_55 : decode Y138.2.1 55 = .ok (.ifCond .eq 64, 3) := by decide +kernel
theorem d138_58 : decode Y138.2.1 58 = .ok (.aload_n 0, 1) := by decide +kernel
theorem d138_59 : decode Y138.2.1 59 = .ok (.getfield 61, 3) := by decide +kernel
theorem d138_62 : decode Y138.2.1 62 = .ok (.aload 8, 2) := by decide +kernel
theorem d138_64 : decode Y138.2.1 64 = .ok (.invokevirtual 299, 3) := by decide +kernel
theorem d138_67 : decode Y138.2.1 67 = .ok (.invokevirtual 113, 3) := by decide +kernel
theorem d138_70 : decode Y138.2.1 70 = .ok (.iload_n 1, 1) := by decide +kernel
theorem d138_71 : decode Y138.2.1 71 = .ok (.if_icmp .ne 48, 3) := by decide +kernel
theorem d138_74 : decode Y138.2.1 74 = .ok (.iload_n 2, 1) := by decide +kernel
theorem d138_75 : decode Y138.2.1 75 = .ok (.aload 8, 2) := by decide +kernel
theorem d138_77 : decode Y138.2.1 77 = .ok (.getfield 269, 3) := by decide +kernel
theorem d138_80 : decode Y138.2.1 80 = .ok (.iconst 4, 1) := by decide +kernel
theorem d138_81 : decode Y138.2.1 81 = .ok (.if_icmp .ne 11, 3) := by decide +kernel
theorem d138_84 : decode Y138.2.1 84 = .ok (.aload 8, 2) := by decide +kernel
theorem d138_86 : decode Y138.2.1 86 = .ok (.getfield 278, 3) := by decide +kernel
theorem d138_89 : decode Y138.2.1 89 = .ok (.goto 4, 3) := by decide +kernel
theorem d138_92 : decode Y138.2.1 92 = .ok (.iconst 0, 1) := by decide +kernel
theorem d138_93 : decode Y138.2.1 93 = .ok (.iadd, 1) := by decide +kernel
theorem d138_94 : decode Y138.2.1 94 = .ok (.istore_n 2, 1) := by decide +kernel
theorem d138_95 : decode Y138.2.1 95 = .ok (.iload_n 3, 1) := by decide +kernel
theorem d138_96 : decode Y138.2.1 96 = .ok (.aload 8, 2) := by decide +kernel
theorem d138_98 : decode Y138.2.1 98 = .ok (.getfield 269, 3) := by decide +kernel
theorem d138_101 : decode Y138.2.1 101 = .ok (.iconst 5, 1) := by decide +kernel
theorem d138_102 : decode Y138.2.1 102 = .ok (.if_icmp .ne 11, 3) := by decide +kernel
theorem d138_105 : decode Y138.2.1 105 = .ok (.aload 8, 2) := by decide +kernel
theorem d138_107 : decode Y138.2.1 107 = .ok (.getfield 278, 3) := by decide +kernel
theorem d138_110 : decode Y138.2.1 110 = .ok (.goto 4, 3) := by decide +kernel
theorem d138_113 : decode Y138.2.1 113 = .ok (.iconst 0, 1) := by decide +kernel
theorem d138_114 : decode Y138.2.1 114 = .ok (.iadd, 1) := by decide +kernel
theorem d138_115 : decode Y138.2.1 115 = .ok (.istore_n 3, 1) := by decide +kernel
theorem d138_116 : decode Y138.2.1 116 = .ok (.iinc 4 1, 3) := by decide +kernel
theorem d138_119 : decode Y138.2.1 119 = .ok (.iinc 7 1, 3) := by decide +kernel
theorem d138_122 : decode Y138.2.1 122 = .ok (.goto (-86), 3) := by decide +kernel
theorem d138_125 : decode Y138.2.1 125 = .ok (.aload_n 0, 1) := by decide +kernel
theorem d138_126 : decode Y138.2.1 126 = .ok (.iload_n 3, 1) := by decide +kernel
theorem d138_127 : decode Y138.2.1 127 = .ok (.iload 4, 2) := by decide +kernel
theorem d138_129 : decode Y138.2.1 129 = .ok (.invokevirtual 144, 3) := by decide +kernel
theorem d138_132 : decode Y138.2.1 132 = .ok (.iload_n 2, 1) := by decide +kernel
theorem d138_133 : decode Y138.2.1 133 = .ok (.ireturn, 1) := by decide +kernel
noncomputable def L138_36 (d : Nat) (a0 : Nat) (x1 : Int32) (x2 : Int32) (x3 : Int32) (x4 : Int32) (x7 : Int32) (o8 : Option ts_V) (m : lt_m) : Option lt_r := lt_run d Y138 36 [some (.inr (.inr (some a0))), some (.inl x1), some (.inl x2), some (.inl x3), some (.inl x4), some (.inr (.inr (some ((a0 + 13) + 3)))), some (.inl (20 : Int32)), some (.inl x7), o8] [] m
noncomputable def L138_93 (d : Nat) (a0 : Nat) (x1 : Int32) (x2 : Int32) (x3 : Int32) (x4 : Int32) (x7 : Int32) (b8 : Nat) (xt0 : Int32) (xt1 : Int32) (m : lt_m) : Option lt_r := lt_run d Y138 93 [some (.inr (.inr (some a0))), some (.inl x1), some (.inl x2), some (.inl x3), some (.inl x4), some (.inr (.inr (some ((a0 + 13) + 3)))), some (.inl (20 : Int32)), some (.inl x7), some (.inr (.inr (some b8)))] [.inl xt0, .inl xt1] m
theorem E138 (d : Nat) (a0 : Nat) (x1 : Int32) (h0 : ts_sh a0 = (0, 11)) (m : lt_m) : lt_ev (d + 1) 138 [.inr (.inr (some a0)), .inl x1] m = if x1 < 0 then (some (some (.inl (-1 : Int32)), m)) else (if x1 < (6 : Int32) then (L138_36 d a0 x1 (0 : Int32) (0 : Int32) (0 : Int32) (0 : Int32) none m) else (some (some (.inl (-1 : Int32)), m))) := by
  refine Eq.trans (lt_enter2 (ls := [some (.inr (.inr (some a0))), some (.inl x1), none, none, none, none, none, none, none]) hY138 (Nat.le_of_ble_eq_true rfl) (by rfl)) ?_
  refine Eq.trans (li_iload_n d138_0 (by rfl)) ?_
  refine Eq.trans (li_if_lt (t := 10) d138_1 (by rfl)) ?_
  refine lt_ite (fun c1 => ?_) (fun c1 => ?_)
  · refine Eq.trans (li_iconst d138_10 ic_n1) ?_
    exact li_iret d138_11 rfl
  · refine Eq.trans (li_iload_n d138_4 (by rfl)) ?_
    refine Eq.trans (li_bipush d138_5 bi_6) ?_
    refine Eq.trans (li_icmp_lt (t := 12) d138_7 (by rfl)) ?_
    refine lt_ite (fun c2 => ?_) (fun c2 => ?_)
    · refine Eq.trans (li_iconst d138_12 ic_0) ?_
      refine Eq.trans (li_istore_n (ls' := [some (.inr (.inr (some a0))), some (.inl x1), some (.inl (0 : Int32)), none, none, none, none, none, none]) d138_13 (by decide) (by rfl)) ?_
      refine Eq.trans (li_iconst d138_14 ic_0) ?_
      refine Eq.trans (li_istore_n (ls' := [some (.inr (.inr (some a0))), some (.inl x1), some (.inl (0 : Int32)), some (.inl (0 : Int32)), none, none, none, none, none]) d138_15 (by decide) (by rfl)) ?_
      refine Eq.trans (li_iconst d138_16 ic_0) ?_
      refine Eq.trans (li_istore (ls' := [some (.inr (.inr (some a0))), some (.inl x1), some (.inl (0 : Int32)), some (.inl (0 : Int32)), some (.inl (0 : Int32)), none, none, none, none]) d138_17 (by decide) (by rfl)) ?_
      refine Eq.trans (li_aload_n d138_19 (by rfl)) ?_
      refine Eq.trans (li_getr d138_20 fa_11_47 h0 rfl rfl rfl (by decide)) ?_
      refine Eq.trans (li_getr d138_23 fa_11_315 (sf_of h0 5 (by decide) (by decide)) rfl rfl rfl (by decide)) ?_
      refine Eq.trans (li_astore (ls' := [some (.inr (.inr (some a0))), some (.inl x1), some (.inl (0 : Int32)), some (.inl (0 : Int32)), some (.inl (0 : Int32)), some (.inr (.inr (some ((a0 + 13) + 3)))), none, none, none]) d138_26 (by decide) (by rfl)) ?_
      refine Eq.trans (li_aload d138_28 (by rfl)) ?_
      refine Eq.trans (li_alen d138_30 (sf_of (sf_of h0 5 (by decide) (by decide)) 2 (by decide) (by decide)) (by decide) (by rfl)) ?_
      refine Eq.trans (li_istore (ls' := [some (.inr (.inr (some a0))), some (.inl x1), some (.inl (0 : Int32)), some (.inl (0 : Int32)), some (.inl (0 : Int32)), some (.inr (.inr (some ((a0 + 13) + 3)))), some (.inl (20 : Int32)), none, none]) d138_31 (by decide) (by rfl)) ?_
      refine Eq.trans (li_iconst d138_33 ic_0) ?_
      refine Eq.trans (li_istore (ls' := [some (.inr (.inr (some a0))), some (.inl x1), some (.inl (0 : Int32)), some (.inl (0 : Int32)), some (.inl (0 : Int32)), some (.inr (.inr (some ((a0 + 13) + 3)))), some (.inl (20 : Int32)), some (.inl (0 : Int32)), none]) d138_34 (by decide) (by rfl)) ?_
      rfl
    · refine Eq.trans (li_iconst d138_10 ic_n1) ?_
      exact li_iret d138_11 rfl
theorem E138_36 (d : Nat) (a0 : Nat) (x1 : Int32) (x2 : Int32) (x3 : Int32) (x4 : Int32) (x7 : Int32) (o8 : Option ts_V) (h0 : ts_sh a0 = (0, 11)) (m : lt_m) : L138_36 d a0 x1 x2 x3 x4 x7 o8 m = if (20 : Int32) ≤ x7 then (lt_cV (lt_ev d 74 [.inr (.inr (some a0)), .inl x3, .inl x4] m) (fun m1 => (some (some (.inl x2), m1)))) else (lt_gd (0 ≤ x7 ∧ (x7).toNatClampNeg < 20) (lt_cI (lt_ev d 139 [.inr (.inr (some (((a0 + 13) + 3) + 5 + 3 * (x7).toNatClampNeg)))] m) (fun v1 m2 => (if v1 = 0 then (L138_36 d a0 x1 x2 x3 x4 (x7 + (1 : Int32)) (some (.inr (.inr (some (((a0 + 13) + 3) + 5 + 3 * (x7).toNatClampNeg))))) m2) else (lt_cI (lt_ev d 63 [.inr (.inr (some (((a0 + 13) + 3) + 5 + 3 * (x7).toNatClampNeg)))] m2) (fun v2 m3 => (lt_gd (ts_sh (m2.2.2.1) = (0, 5)) (lt_cI (lt_ev d 21 [.inr (.inr (some (m2.2.2.1))), .inl v2] m3) (fun v3 m4 => (if ¬ v3 = x1 then (L138_36 d a0 x1 x2 x3 x4 (x7 + (1 : Int32)) (some (.inr (.inr (some (((a0 + 13) + 3) + 5 + 3 * (x7).toNatClampNeg))))) m4) else (if ¬ (m4.1 (((a0 + 13) + 3) + 5 + 3 * (x7).toNatClampNeg) 7) = (4 : Int32) then (L138_93 d a0 x1 x2 x3 x4 x7 (((a0 + 13) + 3) + 5 + 3 * (x7).toNatClampNeg) (0 : Int32) x2 m4) else (L138_93 d a0 x1 x2 x3 x4 x7 (((a0 + 13) + 3) + 5 + 3 * (x7).toNatClampNeg) (m4.1 (((a0 + 13) + 3) + 5 + 3 * (x7).toNatClampNeg) 10) x2 m4)))))))))))) := by
  show lt_run d Y138 36 [some (.inr (.inr (some a0))), some (.inl x1), some (.inl x2), some (.inl x3), some (.inl x4), some (.inr (.inr (some ((a0 + 13) + 3)))), some (.inl (20 : Int32)), some (.inl x7), o8] [] m = _
  refine Eq.trans (li_iload d138_36 (by rfl)) ?_
  refine Eq.trans (li_iload d138_38 (by rfl)) ?_
  refine Eq.trans (li_icmp_ge (t := 125) d138_40 (by rfl)) ?_
  refine lt_ite (fun c1 => ?_) (fun c1 => ?_)
  · refine Eq.trans (li_aload_n d138_125 (by rfl)) ?_
    refine Eq.trans (li_iload_n d138_126 (by rfl)) ?_
    refine Eq.trans (li_iload d138_127 (by rfl)) ?_
    refine Eq.trans (li_ivV d138_129 ca_11_144 kd_74 kl_74 (by rfl) (by rfl) h0 (Nat.le_of_ble_eq_true rfl) (Nat.le_of_ble_eq_true rfl)) ?_
    refine lt_cV_c (fun m1 => ?_)
    refine Eq.trans (li_iload_n d138_132 (by rfl)) ?_
    exact li_iret d138_133 rfl
  · refine Eq.trans (li_aload d138_43 (by rfl)) ?_
    refine Eq.trans (li_iload d138_45 (by rfl)) ?_
    refine Eq.trans (li_aald4 d138_47 (sf_of (sf_of h0 5 (by decide) (by decide)) 2 (by decide) (by decide))) ?_
    refine lt_gd_c (fun g1 => ?_)
    refine Eq.trans (li_astore (ls' := [some (.inr (.inr (some a0))), some (.inl x1), some (.inl x2), some (.inl x3), some (.inl x4), some (.inr (.inr (some ((a0 + 13) + 3)))), some (.inl (20 : Int32)), some (.inl x7), some (.inr (.inr (some (((a0 + 13) + 3) + 5 + 3 * (x7).toNatClampNeg))))]) d138_48 (by decide) (by rfl)) ?_
    refine Eq.trans (li_aload d138_50 (by rfl)) ?_
    refine Eq.trans (li_ivI d138_52 ca_11_322 kd_139 kl_139 (by rfl) (by rfl) (sm_4 (sf_of (sf_of h0 5 (by decide) (by decide)) 2 (by decide) (by decide)) g1.2) (Nat.le_of_ble_eq_true rfl) (Nat.le_of_ble_eq_true rfl)) ?_
    refine lt_cI_c (fun v1 m2 => ?_)
    refine Eq.trans (li_if_eq (t := 119) d138_55 (by rfl)) ?_
    refine lt_ite (fun c2 => ?_) (fun c2 => ?_)
    · refine Eq.trans (li_iinc (ls' := [some (.inr (.inr (some a0))), some (.inl x1), some (.inl x2), some (.inl x3), some (.inl x4), some (.inr (.inr (some ((a0 + 13) + 3)))), some (.inl (20 : Int32)), some (.inl (x7 + (1 : Int32))), some (.inr (.inr (some (((a0 + 13) + 3) + 5 + 3 * (x7).toNatClampNeg))))]) d138_119 (by rfl) (by decide) ic_1 (by rfl)) ?_
      refine Eq.trans (li_goto (t := 36) d138_122 (by rfl)) ?_
      rfl
    · refine Eq.trans (li_aload_n d138_58 (by rfl)) ?_
      refine Eq.trans (li_getnet d138_59 fa_11_61 h0) ?_
      refine Eq.trans (li_aload d138_62 (by rfl)) ?_
      refine Eq.trans (li_ivI d138_64 ca_11_299 kd_63 kl_63 (by rfl) (by rfl) (sm_4 (sf_of (sf_of h0 5 (by decide) (by decide)) 2 (by decide) (by decide)) g1.2) (Nat.le_of_ble_eq_true rfl) (Nat.le_of_ble_eq_true rfl)) ?_
      refine lt_cI_c (fun v2 m3 => ?_)
      refine Eq.trans (li_ginv d138_67 ca_11_113 kl_21 (by rfl)) ?_
      refine lt_gd_c (fun g2 => ?_)
      refine Eq.trans (li_ivI d138_67 ca_11_113 kd_21 kl_21 (by rfl) (by rfl) g2 (Nat.le_of_ble_eq_true rfl) (Nat.le_of_ble_eq_true rfl)) ?_
      refine lt_cI_c (fun v3 m4 => ?_)
      refine Eq.trans (li_iload_n d138_70 (by rfl)) ?_
      refine Eq.trans (li_icmp_ne (t := 119) d138_71 (by rfl)) ?_
      refine lt_ite (fun c3 => ?_) (fun c3 => ?_)
      · refine Eq.trans (li_iinc (ls' := [some (.inr (.inr (some a0))), some (.inl x1), some (.inl x2), some (.inl x3), some (.inl x4), some (.inr (.inr (some ((a0 + 13) + 3)))), some (.inl (20 : Int32)), some (.inl (x7 + (1 : Int32))), some (.inr (.inr (some (((a0 + 13) + 3) + 5 + 3 * (x7).toNatClampNeg))))]) d138_119 (by rfl) (by decide) ic_1 (by rfl)) ?_
        refine Eq.trans (li_goto (t := 36) d138_122 (by rfl)) ?_
        rfl
      · refine Eq.trans (li_iload_n d138_74 (by rfl)) ?_
        refine Eq.trans (li_aload d138_75 (by rfl)) ?_
        refine Eq.trans (li_geti d138_77 fa_11_269 (sm_4 (sf_of (sf_of h0 5 (by decide) (by decide)) 2 (by decide) (by decide)) g1.2) rfl) ?_
        refine Eq.trans (li_iconst d138_80 ic_4) ?_
        refine Eq.trans (li_icmp_ne (t := 92) d138_81 (by rfl)) ?_
        refine lt_ite (fun c4 => ?_) (fun c4 => ?_)
        · refine Eq.trans (li_iconst d138_92 ic_0) ?_
          rfl
        · refine Eq.trans (li_aload d138_84 (by rfl)) ?_
          refine Eq.trans (li_geti d138_86 fa_11_278 (sm_4 (sf_of (sf_of h0 5 (by decide) (by decide)) 2 (by decide) (by decide)) g1.2) rfl) ?_
          refine Eq.trans (li_goto (t := 93) d138_89 (by rfl)) ?_
          rfl
theorem E138_93 (d : Nat) (a0 : Nat) (x1 : Int32) (x2 : Int32) (x3 : Int32) (x4 : Int32) (x7 : Int32) (b8 : Nat) (xt0 : Int32) (xt1 : Int32) (hb8 : ts_sh b8 = (0, 4)) (m : lt_m) : L138_93 d a0 x1 x2 x3 x4 x7 b8 xt0 xt1 m = if ¬ (m.1 b8 7) = (5 : Int32) then (L138_36 d a0 x1 (xt1 + xt0) (x3 + (0 : Int32)) (x4 + (1 : Int32)) (x7 + (1 : Int32)) (some (.inr (.inr (some b8)))) m) else (L138_36 d a0 x1 (xt1 + xt0) (x3 + (m.1 b8 10)) (x4 + (1 : Int32)) (x7 + (1 : Int32)) (some (.inr (.inr (some b8)))) m) := by
  show lt_run d Y138 93 [some (.inr (.inr (some a0))), some (.inl x1), some (.inl x2), some (.inl x3), some (.inl x4), some (.inr (.inr (some ((a0 + 13) + 3)))), some (.inl (20 : Int32)), some (.inl x7), some (.inr (.inr (some b8)))] [.inl xt0, .inl xt1] m = _
  refine Eq.trans (li_iadd d138_93) ?_
  refine Eq.trans (li_istore_n (ls' := [some (.inr (.inr (some a0))), some (.inl x1), some (.inl (xt1 + xt0)), some (.inl x3), some (.inl x4), some (.inr (.inr (some ((a0 + 13) + 3)))), some (.inl (20 : Int32)), some (.inl x7), some (.inr (.inr (some b8)))]) d138_94 (by decide) (by rfl)) ?_
  refine Eq.trans (li_iload_n d138_95 (by rfl)) ?_
  refine Eq.trans (li_aload d138_96 (by rfl)) ?_
  refine Eq.trans (li_geti d138_98 fa_11_269 hb8 rfl) ?_
  refine Eq.trans (li_iconst d138_101 ic_5) ?_
  refine Eq.trans (li_icmp_ne (t := 113) d138_102 (by rfl)) ?_
  refine lt_ite (fun c1 => ?_) (fun c1 => ?_)
  · refine Eq.trans (li_iconst d138_113 ic_0) ?_
    refine Eq.trans (li_iadd d138_114) ?_
    refine Eq.trans (li_istore_n (ls' := [some (.inr (.inr (some a0))), some (.inl x1), some (.inl (xt1 + xt0)), some (.inl (x3 + (0 : Int32))), some (.inl x4), some (.inr (.inr (some ((a0 + 13) + 3)))), some (.inl (20 : Int32)), some (.inl x7), some (.inr (.inr (some b8)))]) d138_115 (by decide) (by rfl)) ?_
    refine Eq.trans (li_iinc (ls' := [some (.inr (.inr (some a0))), some (.inl x1), some (.inl (xt1 + xt0)), some (.inl (x3 + (0 : Int32))), some (.inl (x4 + (1 : Int32))), some (.inr (.inr (some ((a0 + 13) + 3)))), some (.inl (20 : Int32)), some (.inl x7), some (.inr (.inr (some b8)))]) d138_116 (by rfl) (by decide) ic_1 (by rfl)) ?_
    refine Eq.trans (li_iinc (ls' := [some (.inr (.inr (some a0))), some (.inl x1), some (.inl (xt1 + xt0)), some (.inl (x3 + (0 : Int32))), some (.inl (x4 + (1 : Int32))), some (.inr (.inr (some ((a0 + 13) + 3)))), some (.inl (20 : Int32)), some (.inl (x7 + (1 : Int32))), some (.inr (.inr (some b8)))]) d138_119 (by rfl) (by decide) ic_1 (by rfl)) ?_
    refine Eq.trans (li_goto (t := 36) d138_122 (by rfl)) ?_
    rfl
  · refine Eq.trans (li_aload d138_105 (by rfl)) ?_
    refine Eq.trans (li_geti d138_107 fa_11_278 hb8 rfl) ?_
    refine Eq.trans (li_goto (t := 114) d138_110 (by rfl)) ?_
    refine Eq.trans (li_iadd d138_114) ?_
    refine Eq.trans (li_istore_n (ls' := [some (.inr (.inr (some a0))), some (.inl x1), some (.inl (xt1 + xt0)), some (.inl (x3 + (m.1 b8 10))), some (.inl x4), some (.inr (.inr (some ((a0 + 13) + 3)))), some (.inl (20 : Int32)), some (.inl x7), some (.inr (.inr (some b8)))]) d138_115 (by decide) (by rfl)) ?_
    refine Eq.trans (li_iinc (ls' := [some (.inr (.inr (some a0))), some (.inl x1), some (.inl (xt1 + xt0)), some (.inl (x3 + (m.1 b8 10))), some (.inl (x4 + (1 : Int32))), some (.inr (.inr (some ((a0 + 13) + 3)))), some (.inl (20 : Int32)), some (.inl x7), some (.inr (.inr (some b8)))]) d138_116 (by rfl) (by decide) ic_1 (by rfl)) ?_
    refine Eq.trans (li_iinc (ls' := [some (.inr (.inr (some a0))), some (.inl x1), some (.inl (xt1 + xt0)), some (.inl (x3 + (m.1 b8 10))), some (.inl (x4 + (1 : Int32))), some (.inr (.inr (some ((a0 + 13) + 3)))), some (.inl (20 : Int32)), some (.inl (x7 + (1 : Int32))), some (.inr (.inr (some b8)))]) d138_119 (by rfl) (by decide) ic_1 (by rfl)) ?_
    refine Eq.trans (li_goto (t := 36) d138_122 (by rfl)) ?_
    rfl
/-! TransitSeals$Movement.isIndebted()Z -/
theorem d139_0 : decode Y139.2.1 0 = .ok (.aload_n 0, 1) := by decide +kernel
theorem d139_1 : decode Y139.2.1 1 = .ok (.getfield 9, 3) := by decide +kernel
theorem d139_4 : decode Y139.2.1 4 = .ok (.iconst 4, 1) := by decide +kernel
theorem d139_5 : decode Y139.2.1 5 = .ok (.if_icmp .eq 11, 3) := by decide +kernel
theorem d139_8 : decode Y139.2.1 8 = .ok (.aload_n 0, 1) := by decide +kernel
theorem d139_9 : decode Y139.2.1 9 = .ok (.getfield 9, 3) := by decide +kernel
theorem d139_12 : decode Y139.2.1 12 = .ok (.iconst 5, 1) := by decide +kernel
theorem d139_13 : decode Y139.2.1 13 = .ok (.if_icmp .ne 7, 3) := by decide +kernel
theorem d139_16 : decode Y139.2.1 16 = .ok (.iconst 1, 1) := by decide +kernel
theorem d139_17 : decode Y139.2.1 17 = .ok (.goto 4, 3) := by decide +kernel
theorem d139_20 : decode Y139.2.1 20 = .ok (.iconst 0, 1) := by decide +kernel
theorem d139_21 : decode Y139.2.1 21 = .ok (.ireturn, 1) := by decide +kernel
theorem E139 (d : Nat) (a0 : Nat) (h0 : ts_sh a0 = (0, 4)) (m : lt_m) : lt_ev (d + 1) 139 [.inr (.inr (some a0))] m = if (m.1 a0 7) = (4 : Int32) then (some (some (.inl (1 : Int32)), m)) else (if ¬ (m.1 a0 7) = (5 : Int32) then (some (some (.inl (0 : Int32)), m)) else (some (some (.inl (1 : Int32)), m))) := by
  refine Eq.trans (lt_enter2 (ls := [some (.inr (.inr (some a0)))]) hY139 (Nat.le_of_ble_eq_true rfl) (by rfl)) ?_
  refine Eq.trans (li_aload_n d139_0 (by rfl)) ?_
  refine Eq.trans (li_geti d139_1 fa_4_9 h0 rfl) ?_
  refine Eq.trans (li_iconst d139_4 ic_4) ?_
  refine Eq.trans (li_icmp_eq (t := 16) d139_5 (by rfl)) ?_
  refine lt_ite (fun c1 => ?_) (fun c1 => ?_)
  · refine Eq.trans (li_iconst d139_16 ic_1) ?_
    refine Eq.trans (li_goto (t := 21) d139_17 (by rfl)) ?_
    exact li_zret d139_21 rfl (by decide)
  · refine Eq.trans (li_aload_n d139_8 (by rfl)) ?_
    refine Eq.trans (li_geti d139_9 fa_4_9 h0 rfl) ?_
    refine Eq.trans (li_iconst d139_12 ic_5) ?_
    refine Eq.trans (li_icmp_ne (t := 20) d139_13 (by rfl)) ?_
    refine lt_ite (fun c2 => ?_) (fun c2 => ?_)
    · refine Eq.trans (li_iconst d139_20 ic_0) ?_
      exact li_zret d139_21 rfl (by decide)
    · refine Eq.trans (li_iconst d139_16 ic_1) ?_
      refine Eq.trans (li_goto (t := 21) d139_17 (by rfl)) ?_
      exact li_zret d139_21 rfl (by decide)
/-! TransitSeals.late()I -/
theorem d140_0 : decode Y140.2.1 0 = .ok (.iconst 0, 1) := by decide +kernel
theorem d140_1 : decode Y140.2.1 1 = .ok (.istore_n 1, 1) := by decide +kernel
theorem d140_2 : decode Y140.2.1 2 = .ok (.aload_n 0, 1) := by decide +kernel
theorem d140_3 : decode Y140.2.1 3 = .ok (.getfield 47, 3) := by decide +kernel
theorem d140_6 : decode Y140.2.1 6 = .ok (.getfield 315, 3) := by decide +kernel
theorem d140_9 : decode Y140.2.1 9 = .ok (.astore_n 2, 1) := by decide +kernel
theorem d140_10 : decode Y140.2.1 10 = .ok (.aload_n 2, 1) := by decide +kernel
theorem d140_11 : decode Y140.2.1 11 = .ok (.arraylength, 1) := by decide +kernel
theorem d140_12 : decode Y140.2.1 12 = .ok (.istore_n 3, 1) := by decide +kernel
theorem d140_13 : decode Y140.2.1 13 = .ok (.iconst 0, 1) := by decide +kernel
theorem d140_14 : decode Y140.2.1 14 = .ok (.istore 4, 2) := by decide +kernel
theorem d140_16 : decode Y140.2.1 16 = .ok (.iload 4, 2) := by decide +kernel
theorem d140_18 : decode Y140.2.1 18 = .ok (.iload_n 3, 1) := by decide +kernel
theorem d140_19 : decode Y140.2.1 19 = .ok (.if_icmp .ge 32, 3) := by decide +kernel
theorem d140_22 : decode Y140.2.1 22 = .ok (.aload_n 2, 1) := by decide +kernel
theorem d140_23 : decode Y140.2.1 23 = .ok (.iload 4, 2) := by decide +kernel
theorem d140_25 : decode Y140.2.1 25 = .ok (.aaload, 1) := by decide +kernel
theorem d140_26 : decode Y140.2.1 26 = .ok (.astore 5, 2) := by decide +kernel
theorem d140_28 : decode Y140.2.1 28 = .ok (.aload_n 0, 1) := by decide +kernel
theorem d140_29 : decode Y140.2.1 29 = .ok (.aload 5, 2) := by decide +kernel
theorem d140_31 : decode Y140.2.1 31 = .ok (.invokevirtual 325, 3) := by decide +kernel
theorem d140_34 : decode Y140.2.1 34 = .ok (.ifCond .eq 11, 3) := by decide +kernel
theorem d140_37 : decode Y140.2.1 37 = .ok (.iload_n 1, 1) := by decide +kernel
theorem d140_38 : decode Y140.2.1 38 = .ok (.aload 5, 2) := by decide +kernel
theorem d140_40 : decode Y140.2.1 40 = .ok (.invokevirtual 319, 3) := by decide +kernel
theorem d140_43 : decode Y140.2.1 43 = .ok (.ior, 1) := by decide +kernel
theorem d140_44 : decode Y140.2.1 44 = .ok (.istore_n 1, 1) := by decide +kernel
theorem d140_45 : decode Y140.2.1 45 = .ok (.iinc 4 1, 3) := by decide +kernel
theorem d140_48 : decode Y140.2.1 48 = .ok (.goto (-32), 3) := by decide +kernel
theorem d140_51 : decode Y140.2.1 51 = .ok (.aload_n 0, 1) := by decide +kernel
theorem d140_52 : decode Y140.2.1 52 = .ok (.iload_n 1, 1) := by decide +kernel
theorem d140_53 : decode Y140.2.1 53 = .ok (.invokestatic 152, 3) := by decide +kernel
theorem d140_56 : decode Y140.2.1 56 = .ok (.invokevirtual 157, 3) := by decide +kernel
theorem d140_59 : decode Y140.2.1 59 = .ok (.iload_n 1, 1) := by decide +kernel
theorem d140_60 : decode Y140.2.1 60 = .ok (.ireturn, 1) := by decide +kernel
noncomputable def L140_16 (d : Nat) (a0 : Nat) (x1 : Int32) (x4 : Int32) (o5 : Option ts_V) (m : lt_m) : Option lt_r := lt_run d Y140 16 [some (.inr (.inr (some a0))), some (.inl x1), some (.inr (.inr (some ((a0 + 13) + 3)))), some (.inl (20 : Int32)), some (.inl x4), o5] [] m
theorem E140 (d : Nat) (a0 : Nat) (h0 : ts_sh a0 = (0, 11)) (m : lt_m) : lt_ev (d + 1) 140 [.inr (.inr (some a0))] m = L140_16 d a0 (0 : Int32) (0 : Int32) none m := by
  refine Eq.trans (lt_enter2 (ls := [some (.inr (.inr (some a0))), none, none, none, none, none]) hY140 (Nat.le_of_ble_eq_true rfl) (by rfl)) ?_
  refine Eq.trans (li_iconst d140_0 ic_0) ?_
  refine Eq.trans (li_istore_n (ls' := [some (.inr (.inr (some a0))), some (.inl (0 : Int32)), none, none, none, none]) d140_1 (by decide) (by rfl)) ?_
  refine Eq.trans (li_aload_n d140_2 (by rfl)) ?_
  refine Eq.trans (li_getr d140_3 fa_11_47 h0 rfl rfl rfl (by decide)) ?_
  refine Eq.trans (li_getr d140_6 fa_11_315 (sf_of h0 5 (by decide) (by decide)) rfl rfl rfl (by decide)) ?_
  refine Eq.trans (li_astore_n (ls' := [some (.inr (.inr (some a0))), some (.inl (0 : Int32)), some (.inr (.inr (some ((a0 + 13) + 3)))), none, none, none]) d140_9 (by decide) (by rfl)) ?_
  refine Eq.trans (li_aload_n d140_10 (by rfl)) ?_
  refine Eq.trans (li_alen d140_11 (sf_of (sf_of h0 5 (by decide) (by decide)) 2 (by decide) (by decide)) (by decide) (by rfl)) ?_
  refine Eq.trans (li_istore_n (ls' := [some (.inr (.inr (some a0))), some (.inl (0 : Int32)), some (.inr (.inr (some ((a0 + 13) + 3)))), some (.inl (20 : Int32)), none, none]) d140_12 (by decide) (by rfl)) ?_
  refine Eq.trans (li_iconst d140_13 ic_0) ?_
  refine Eq.trans (li_istore (ls' := [some (.inr (.inr (some a0))), some (.inl (0 : Int32)), some (.inr (.inr (some ((a0 + 13) + 3)))), some (.inl (20 : Int32)), some (.inl (0 : Int32)), none]) d140_14 (by decide) (by rfl)) ?_
  rfl
theorem E140_16 (d : Nat) (a0 : Nat) (x1 : Int32) (x4 : Int32) (o5 : Option ts_V) (h0 : ts_sh a0 = (0, 11)) (m : lt_m) : L140_16 d a0 x1 x4 o5 m = if (20 : Int32) ≤ x4 then (lt_cI (lt_ev d 60 [.inl x1] m) (fun v1 m1 => (lt_cV (lt_ev d 75 [.inr (.inr (some a0)), .inl v1] m1) (fun m2 => (some (some (.inl x1), m2)))))) else (lt_gd (0 ≤ x4 ∧ (x4).toNatClampNeg < 20) (lt_cI (lt_ev d 141 [.inr (.inr (some a0)), .inr (.inr (some (((a0 + 13) + 3) + 5 + 3 * (x4).toNatClampNeg)))] m) (fun v2 m3 => (if v2 = 0 then (L140_16 d a0 x1 (x4 + (1 : Int32)) (some (.inr (.inr (some (((a0 + 13) + 3) + 5 + 3 * (x4).toNatClampNeg))))) m3) else (lt_cI (lt_ev d 65 [.inr (.inr (some (((a0 + 13) + 3) + 5 + 3 * (x4).toNatClampNeg)))] m3) (fun v3 m4 => (L140_16 d a0 (x1 ||| v3) (x4 + (1 : Int32)) (some (.inr (.inr (some (((a0 + 13) + 3) + 5 + 3 * (x4).toNatClampNeg))))) m4))))))) := by
  show lt_run d Y140 16 [some (.inr (.inr (some a0))), some (.inl x1), some (.inr (.inr (some ((a0 + 13) + 3)))), some (.inl (20 : Int32)), some (.inl x4), o5] [] m = _
  refine Eq.trans (li_iload d140_16 (by rfl)) ?_
  refine Eq.trans (li_iload_n d140_18 (by rfl)) ?_
  refine Eq.trans (li_icmp_ge (t := 51) d140_19 (by rfl)) ?_
  refine lt_ite (fun c1 => ?_) (fun c1 => ?_)
  · refine Eq.trans (li_aload_n d140_51 (by rfl)) ?_
    refine Eq.trans (li_iload_n d140_52 (by rfl)) ?_
    refine Eq.trans (li_isI d140_53 bi_11_152 ca_11_152 kd_60 (by rfl) (by rfl) (Nat.le_of_ble_eq_true rfl) (Nat.le_of_ble_eq_true rfl)) ?_
    refine lt_cI_c (fun v1 m1 => ?_)
    refine Eq.trans (li_ivV d140_56 ca_11_157 kd_75 kl_75 (by rfl) (by rfl) h0 (Nat.le_of_ble_eq_true rfl) (Nat.le_of_ble_eq_true rfl)) ?_
    refine lt_cV_c (fun m2 => ?_)
    refine Eq.trans (li_iload_n d140_59 (by rfl)) ?_
    exact li_iret d140_60 rfl
  · refine Eq.trans (li_aload_n d140_22 (by rfl)) ?_
    refine Eq.trans (li_iload d140_23 (by rfl)) ?_
    refine Eq.trans (li_aald4 d140_25 (sf_of (sf_of h0 5 (by decide) (by decide)) 2 (by decide) (by decide))) ?_
    refine lt_gd_c (fun g1 => ?_)
    refine Eq.trans (li_astore (ls' := [some (.inr (.inr (some a0))), some (.inl x1), some (.inr (.inr (some ((a0 + 13) + 3)))), some (.inl (20 : Int32)), some (.inl x4), some (.inr (.inr (some (((a0 + 13) + 3) + 5 + 3 * (x4).toNatClampNeg))))]) d140_26 (by decide) (by rfl)) ?_
    refine Eq.trans (li_aload_n d140_28 (by rfl)) ?_
    refine Eq.trans (li_aload d140_29 (by rfl)) ?_
    refine Eq.trans (li_ivI d140_31 ca_11_325 kd_141 kl_141 (by rfl) (by rfl) h0 (Nat.le_of_ble_eq_true rfl) (Nat.le_of_ble_eq_true rfl)) ?_
    refine lt_cI_c (fun v2 m3 => ?_)
    refine Eq.trans (li_if_eq (t := 45) d140_34 (by rfl)) ?_
    refine lt_ite (fun c2 => ?_) (fun c2 => ?_)
    · refine Eq.trans (li_iinc (ls' := [some (.inr (.inr (some a0))), some (.inl x1), some (.inr (.inr (some ((a0 + 13) + 3)))), some (.inl (20 : Int32)), some (.inl (x4 + (1 : Int32))), some (.inr (.inr (some (((a0 + 13) + 3) + 5 + 3 * (x4).toNatClampNeg))))]) d140_45 (by rfl) (by decide) ic_1 (by rfl)) ?_
      refine Eq.trans (li_goto (t := 16) d140_48 (by rfl)) ?_
      rfl
    · refine Eq.trans (li_iload_n d140_37 (by rfl)) ?_
      refine Eq.trans (li_aload d140_38 (by rfl)) ?_
      refine Eq.trans (li_ivI d140_40 ca_11_319 kd_65 kl_65 (by rfl) (by rfl) (sm_4 (sf_of (sf_of h0 5 (by decide) (by decide)) 2 (by decide) (by decide)) g1.2) (Nat.le_of_ble_eq_true rfl) (Nat.le_of_ble_eq_true rfl)) ?_
      refine lt_cI_c (fun v3 m4 => ?_)
      refine Eq.trans (li_ior d140_43) ?_
      refine Eq.trans (li_istore_n (ls' := [some (.inr (.inr (some a0))), some (.inl (x1 ||| v3)), some (.inr (.inr (some ((a0 + 13) + 3)))), some (.inl (20 : Int32)), some (.inl x4), some (.inr (.inr (some (((a0 + 13) + 3) + 5 + 3 * (x4).toNatClampNeg))))]) d140_44 (by decide) (by rfl)) ?_
      refine Eq.trans (li_iinc (ls' := [some (.inr (.inr (some a0))), some (.inl (x1 ||| v3)), some (.inr (.inr (some ((a0 + 13) + 3)))), some (.inl (20 : Int32)), some (.inl (x4 + (1 : Int32))), some (.inr (.inr (some (((a0 + 13) + 3) + 5 + 3 * (x4).toNatClampNeg))))]) d140_45 (by rfl) (by decide) ic_1 (by rfl)) ?_
      refine Eq.trans (li_goto (t := 16) d140_48 (by rfl)) ?_
      rfl
/-! TransitSeals.isLate(LTransitSeals$Movement;)Z -/
theorem d141_0 : decode Y141.2.1 0 = .ok (.aload_n 1, 1) := by decide +kernel
theorem d141_1 : decode Y141.2.1 1 = .ok (.getfield 269, 3) := by decide +kernel
theorem d141_4 : decode Y141.2.1 4 = .ok (.ifCond .ne 19, 3) := by decide +kernel
theorem d141_7 : decode Y141.2.1 7 = .ok (.aload_n 0, 1) := by decide +kernel
theorem d141_8 : decode Y141.2.1 8 = .ok (.aload_n 1, 1) := by decide +kernel
theorem d141_9 : decode Y141.2.1 9 = .ok (.invokevirtual 417, 3) := by decide +kernel
theorem d141_12 : decode Y141.2.1 12 = .ok (.aload_n 1, 1) := by decide +kernel
theorem d141_13 : decode Y141.2.1 13 = .ok (.getfield 296, 3) := by decide +kernel
theorem d141_16 : decode Y141.2.1 16 = .ok (.if_icmp .le 7, 3) := by decide +kernel
theorem d141_19 : decode Y141.2.1 19 = .ok (.iconst 1, 1) := by decide +kernel
theorem d141_20 : decode Y141.2.1 20 = .ok (.goto 4, 3) := by decide +kernel
theorem d141_23 : decode Y141.2.1 23 = .ok (.iconst 0, 1) := by decide +kernel
theorem d141_24 : decode Y141.2.1 24 = .ok (.ireturn, 1) := by decide +kernel
theorem E141 (d : Nat) (a0 : Nat) (a1 : Nat) (h0 : ts_sh a0 = (0, 11)) (h1 : ts_sh a1 = (0, 4)) (m : lt_m) : lt_ev (d + 1) 141 [.inr (.inr (some a0)), .inr (.inr (some a1))] m = if ¬ (m.1 a1 7) = 0 then (some (some (.inl (0 : Int32)), m)) else (lt_cI (lt_ev d 142 [.inr (.inr (some a0)), .inr (.inr (some a1))] m) (fun v1 m1 => (if v1 ≤ (m1.1 a1 6) then (some (some (.inl (0 : Int32)), m1)) else (some (some (.inl (1 : Int32)), m1))))) := by
  refine Eq.trans (lt_enter2 (ls := [some (.inr (.inr (some a0))), some (.inr (.inr (some a1)))]) hY141 (Nat.le_of_ble_eq_true rfl) (by rfl)) ?_
  refine Eq.trans (li_aload_n d141_0 (by rfl)) ?_
  refine Eq.trans (li_geti d141_1 fa_11_269 h1 rfl) ?_
  refine Eq.trans (li_if_ne (t := 23) d141_4 (by rfl)) ?_
  refine lt_ite (fun c1 => ?_) (fun c1 => ?_)
  · refine Eq.trans (li_iconst d141_23 ic_0) ?_
    exact li_zret d141_24 rfl (by decide)
  · refine Eq.trans (li_aload_n d141_7 (by rfl)) ?_
    refine Eq.trans (li_aload_n d141_8 (by rfl)) ?_
    refine Eq.trans (li_ivI d141_9 ca_11_417 kd_142 kl_142 (by rfl) (by rfl) h0 (Nat.le_of_ble_eq_true rfl) (Nat.le_of_ble_eq_true rfl)) ?_
    refine lt_cI_c (fun v1 m1 => ?_)
    refine Eq.trans (li_aload_n d141_12 (by rfl)) ?_
    refine Eq.trans (li_geti d141_13 fa_11_296 h1 rfl) ?_
    refine Eq.trans (li_icmp_le (t := 23) d141_16 (by rfl)) ?_
    refine lt_ite (fun c2 => ?_) (fun c2 => ?_)
    · refine Eq.trans (li_iconst d141_23 ic_0) ?_
      exact li_zret d141_24 rfl (by decide)
    · refine Eq.trans (li_iconst d141_19 ic_1) ?_
      refine Eq.trans (li_goto (t := 24) d141_20 (by rfl)) ?_
      exact li_zret d141_24 rfl (by decide)
/-! TransitSeals.hourOfArrival(LTransitSeals$Movement;)I -/
theorem d142_0 : decode Y142.2.1 0 = .ok (.aload_n 1, 1) := by decide +kernel
theorem d142_1 : decode Y142.2.1 1 = .ok (.aload_n 1, 1) := by decide +kernel
theorem d142_2 : decode Y142.2.1 2 = .ok (.getfield 256, 3) := by decide +kernel
theorem d142_5 : decode Y142.2.1 5 = .ok (.iconst 1, 1) := by decide +kernel
theorem d142_6 : decode Y142.2.1 6 = .ok (.isub, 1) := by decide +kernel
theorem d142_7 : decode Y142.2.1 7 = .ok (.invokevirtual 305, 3) := by decide +kernel
theorem d142_10 : decode Y142.2.1 10 = .ok (.aload_n 0, 1) := by decide +kernel
theorem d142_11 : decode Y142.2.1 11 = .ok (.aload_n 1, 1) := by decide +kernel
theorem d142_12 : decode Y142.2.1 12 = .ok (.invokevirtual 308, 3) := by decide +kernel
theorem d142_15 : decode Y142.2.1 15 = .ok (.iadd, 1) := by decide +kernel
theorem d142_16 : decode Y142.2.1 16 = .ok (.ireturn, 1) := by decide +kernel
theorem E142 (d : Nat) (a0 : Nat) (a1 : Nat) (h0 : ts_sh a0 = (0, 11)) (h1 : ts_sh a1 = (0, 4)) (m : lt_m) : lt_ev (d + 1) 142 [.inr (.inr (some a0)), .inr (.inr (some a1))] m = lt_cI (lt_ev d 131 [.inr (.inr (some a1)), .inl ((m.1 a1 9) - (1 : Int32))] m) (fun v1 m1 => (lt_cI (lt_ev d 133 [.inr (.inr (some a0)), .inr (.inr (some a1))] m1) (fun v2 m2 => (some (some (.inl (v1 + v2)), m2))))) := by
  refine Eq.trans (lt_enter2 (ls := [some (.inr (.inr (some a0))), some (.inr (.inr (some a1)))]) hY142 (Nat.le_of_ble_eq_true rfl) (by rfl)) ?_
  refine Eq.trans (li_aload_n d142_0 (by rfl)) ?_
  refine Eq.trans (li_aload_n d142_1 (by rfl)) ?_
  refine Eq.trans (li_geti d142_2 fa_11_256 h1 rfl) ?_
  refine Eq.trans (li_iconst d142_5 ic_1) ?_
  refine Eq.trans (li_isub d142_6) ?_
  refine Eq.trans (li_ivI d142_7 ca_11_305 kd_131 kl_131 (by rfl) (by rfl) h1 (Nat.le_of_ble_eq_true rfl) (Nat.le_of_ble_eq_true rfl)) ?_
  refine lt_cI_c (fun v1 m1 => ?_)
  refine Eq.trans (li_aload_n d142_10 (by rfl)) ?_
  refine Eq.trans (li_aload_n d142_11 (by rfl)) ?_
  refine Eq.trans (li_ivI d142_12 ca_11_308 kd_133 kl_133 (by rfl) (by rfl) h0 (Nat.le_of_ble_eq_true rfl) (Nat.le_of_ble_eq_true rfl)) ?_
  refine lt_cI_c (fun v2 m2 => ?_)
  refine Eq.trans (li_iadd d142_15) ?_
  exact li_iret d142_16 rfl
/-! TransitSeals.can(II)I -/
theorem d147_0 : decode Y147.2.1 0 = .ok (.aload_n 0, 1) := by decide +kernel
theorem d147_1 : decode Y147.2.1 1 = .ok (.getfield 47, 3) := by decide +kernel
theorem d147_4 : decode Y147.2.1 4 = .ok (.iload_n 1, 1) := by decide +kernel
theorem d147_5 : decode Y147.2.1 5 = .ok (.invokevirtual 175, 3) := by decide +kernel
theorem d147_8 : decode Y147.2.1 8 = .ok (.ifCond .eq 14, 3) := by decide +kernel
theorem d147_11 : decode Y147.2.1 11 = .ok (.aload_n 0, 1) := by decide +kernel
theorem d147_12 : decode Y147.2.1 12 = .ok (.getfield 61, 3) := by decide +kernel
theorem d147_15 : decode Y147.2.1 15 = .ok (.iload_n 2, 1) := by decide +kernel
theorem d147_16 : decode Y147.2.1 16 = .ok (.invokevirtual 204, 3) := by decide +kernel
theorem d147_19 : decode Y147.2.1 19 = .ok (.ifCond .ne 5, 3) := by decide +kernel
theorem d147_22 : decode Y147.2.1 22 = .ok (.iconst (-1), 1) := by decide +kernel
theorem d147_23 : decode Y147.2.1 23 = .ok (.ireturn, 1) := by decide +kernel
theorem d147_24 : decode Y147.2.1 24 = .ok (.aload_n 0, 1) := by decide +kernel
theorem d147_25 : decode Y147.2.1 25 = .ok (.getfield 61, 3) := by decide +kernel
theorem d147_28 : decode Y147.2.1 28 = .ok (.iload_n 2, 1) := by decide +kernel
theorem d147_29 : decode Y147.2.1 29 = .ok (.invokevirtual 211, 3) := by decide +kernel
theorem d147_32 : decode Y147.2.1 32 = .ok (.istore_n 3, 1) := by decide +kernel
theorem d147_33 : decode Y147.2.1 33 = .ok (.aload_n 0, 1) := by decide +kernel
theorem d147_34 : decode Y147.2.1 34 = .ok (.getfield 47, 3) := by decide +kernel
theorem d147_37 : decode Y147.2.1 37 = .ok (.iload_n 1, 1) := by decide +kernel
theorem d147_38 : decode Y147.2.1 38 = .ok (.invokevirtual 188, 3) := by decide +kernel
theorem d147_41 : decode Y147.2.1 41 = .ok (.istore 4, 2) := by decide +kernel
theorem d147_43 : decode Y147.2.1 43 = .ok (.sipush 999, 3) := by decide +kernel
theorem d147_46 : decode Y147.2.1 46 = .ok (.istore 5, 2) := by decide +kernel
theorem d147_48 : decode Y147.2.1 48 = .ok (.iload 4, 2) := by decide +kernel
theorem d147_50 : decode Y147.2.1 50 = .ok (.iconst 3, 1) := by decide +kernel
theorem d147_51 : decode Y147.2.1 51 = .ok (.if_icmp .eq 31, 3) := by decide +kernel
theorem d147_54 : decode Y147.2.1 54 = .ok (.iload_n 3, 1) := by decide +kernel
theorem d147_55 : decode Y147.2.1 55 = .ok (.ifCond .le 27, 3) := by decide +kernel
theorem d147_58 : decode Y147.2.1 58 = .ok (.sipush 999, 3) := by decide +kernel
theorem d147_61 : decode Y147.2.1 61 = .ok (.iload 4, 2) := by decide +kernel
theorem d147_63 : decode Y147.2.1 63 = .ok (.invokestatic 335, 3) := by decide +kernel
theorem d147_66 : decode Y147.2.1 66 = .ok (.aload_n 0, 1) := by decide +kernel
theorem d147_67 : decode Y147.2.1 67 = .ok (.getfield 47, 3) := by decide +kernel
theorem d147_70 : decode Y147.2.1 70 = .ok (.iload_n 1, 1) := by decide +kernel
theorem d147_71 : decode Y147.2.1 71 = .ok (.invokevirtual 191, 3) := by decide +kernel
theorem d147_74 : decode Y147.2.1 74 = .ok (.imul, 1) := by decide +kernel
theorem d147_75 : decode Y147.2.1 75 = .ok (.iload_n 3, 1) := by decide +kernel
theorem d147_76 : decode Y147.2.1 76 = .ok (.idiv, 1) := by decide +kernel
theorem d147_77 : decode Y147.2.1 77 = .ok (.invokestatic 338, 3) := by decide +kernel
theorem d147_80 : decode Y147.2.1 80 = .ok (.istore 5, 2) := by decide +kernel
theorem d147_82 : decode Y147.2.1 82 = .ok (.aload_n 0, 1) := by decide +kernel
theorem d147_83 : decode Y147.2.1 83 = .ok (.iload 5, 2) := by decide +kernel
theorem d147_85 : decode Y147.2.1 85 = .ok (.iload_n 3, 1) := by decide +kernel
theorem d147_86 : decode Y147.2.1 86 = .ok (.imul, 1) := by decide +kernel
theorem d147_87 : decode Y147.2.1 87 = .ok (.iload 4, 2) := by decide +kernel
theorem d147_89 : decode Y147.2.1 89 = .ok (.invokestatic 214, 3) := by decide +kernel
theorem d147_92 : decode Y147.2.1 92 = .ok (.invokevirtual 157, 3) := by decide +kernel
theorem d147_95 : decode Y147.2.1 95 = .ok (.iload 5, 2) := by decide +kernel
theorem d147_97 : decode Y147.2.1 97 = .ok (.ireturn, 1) := by decide +kernel
theorem E147 (d : Nat) (a0 : Nat) (x1 : Int32) (x2 : Int32) (h0 : ts_sh a0 = (0, 11)) (m : lt_m) : lt_ev (d + 1) 147 [.inr (.inr (some a0)), .inl x1, .inl x2] m = lt_cI (lt_ev d 90 [.inr (.inr (some (a0 + 13))), .inl x1] m) (fun v1 m1 => (if v1 = 0 then (some (some (.inl (-1 : Int32)), m1)) else (lt_gd (ts_sh (m1.2.2.1) = (0, 5)) (lt_cI (lt_ev d 103 [.inr (.inr (some (m1.2.2.1))), .inl x2] m1) (fun v2 m2 => (if ¬ v2 = 0 then (lt_gd (ts_sh (m2.2.2.1) = (0, 5)) (lt_cI (lt_ev d 25 [.inr (.inr (some (m2.2.2.1))), .inl x2] m2) (fun v3 m3 => (lt_cI (lt_ev d 95 [.inr (.inr (some (a0 + 13))), .inl x1] m3) (fun v4 m4 => (if v4 = (3 : Int32) then (lt_cI (lt_ev d 106 [.inl ((999 : Int32) * v3), .inl v4] m4) (fun v5 m5 => (lt_cV (lt_ev d 75 [.inr (.inr (some a0)), .inl v5] m5) (fun m6 => (some (some (.inl (999 : Int32)), m6)))))) else (if v3 ≤ 0 then (lt_cI (lt_ev d 106 [.inl ((999 : Int32) * v3), .inl v4] m4) (fun v6 m7 => (lt_cV (lt_ev d 75 [.inr (.inr (some a0)), .inl v6] m7) (fun m8 => (some (some (.inl (999 : Int32)), m8)))))) else (lt_cI (lt_ev d 107 [.inl v4] m4) (fun v7 m9 => (lt_cI (lt_ev d 96 [.inr (.inr (some (a0 + 13))), .inl x1] m9) (fun v8 m10 => (lt_gd (¬ v3 = 0) (lt_cI (lt_ev d 106 [.inl ((lm_min (999 : Int32) ((v7 * v8) / v3)) * v3), .inl v4] m10) (fun v9 m11 => (lt_cV (lt_ev d 75 [.inr (.inr (some a0)), .inl v9] m11) (fun m12 => (some (some (.inl (lm_min (999 : Int32) ((v7 * v8) / v3))), m12)))))))))))))))))) else (some (some (.inl (-1 : Int32)), m2)))))))) := by
  refine Eq.trans (lt_enter2 (ls := [some (.inr (.inr (some a0))), some (.inl x1), some (.inl x2), none, none, none]) hY147 (Nat.le_of_ble_eq_true rfl) (by rfl)) ?_
  refine Eq.trans (li_aload_n d147_0 (by rfl)) ?_
  refine Eq.trans (li_getr d147_1 fa_11_47 h0 rfl rfl rfl (by decide)) ?_
  refine Eq.trans (li_iload_n d147_4 (by rfl)) ?_
  refine Eq.trans (li_ivI d147_5 ca_11_175 kd_90 kl_90 (by rfl) (by rfl) (sf_of h0 5 (by decide) (by decide)) (Nat.le_of_ble_eq_true rfl) (Nat.le_of_ble_eq_true rfl)) ?_
  refine lt_cI_c (fun v1 m1 => ?_)
  refine Eq.trans (li_if_eq (t := 22) d147_8 (by rfl)) ?_
  refine lt_ite (fun c1 => ?_) (fun c1 => ?_)
  · refine Eq.trans (li_iconst d147_22 ic_n1) ?_
    exact li_iret d147_23 rfl
  · refine Eq.trans (li_aload_n d147_11 (by rfl)) ?_
    refine Eq.trans (li_getnet d147_12 fa_11_61 h0) ?_
    refine Eq.trans (li_iload_n d147_15 (by rfl)) ?_
    refine Eq.trans (li_ginv d147_16 ca_11_204 kl_103 (by rfl)) ?_
    refine lt_gd_c (fun g1 => ?_)
    refine Eq.trans (li_ivI d147_16 ca_11_204 kd_103 kl_103 (by rfl) (by rfl) g1 (Nat.le_of_ble_eq_true rfl) (Nat.le_of_ble_eq_true rfl)) ?_
    refine lt_cI_c (fun v2 m2 => ?_)
    refine Eq.trans (li_if_ne (t := 24) d147_19 (by rfl)) ?_
    refine lt_ite (fun c2 => ?_) (fun c2 => ?_)
    · refine Eq.trans (li_aload_n d147_24 (by rfl)) ?_
      refine Eq.trans (li_getnet d147_25 fa_11_61 h0) ?_
      refine Eq.trans (li_iload_n d147_28 (by rfl)) ?_
      refine Eq.trans (li_ginv d147_29 ca_11_211 kl_25 (by rfl)) ?_
      refine lt_gd_c (fun g2 => ?_)
      refine Eq.trans (li_ivI d147_29 ca_11_211 kd_25 kl_25 (by rfl) (by rfl) g2 (Nat.le_of_ble_eq_true rfl) (Nat.le_of_ble_eq_true rfl)) ?_
      refine lt_cI_c (fun v3 m3 => ?_)
      refine Eq.trans (li_istore_n (ls' := [some (.inr (.inr (some a0))), some (.inl x1), some (.inl x2), some (.inl v3), none, none]) d147_32 (by decide) (by rfl)) ?_
      refine Eq.trans (li_aload_n d147_33 (by rfl)) ?_
      refine Eq.trans (li_getr d147_34 fa_11_47 h0 rfl rfl rfl (by decide)) ?_
      refine Eq.trans (li_iload_n d147_37 (by rfl)) ?_
      refine Eq.trans (li_ivI d147_38 ca_11_188 kd_95 kl_95 (by rfl) (by rfl) (sf_of h0 5 (by decide) (by decide)) (Nat.le_of_ble_eq_true rfl) (Nat.le_of_ble_eq_true rfl)) ?_
      refine lt_cI_c (fun v4 m4 => ?_)
      refine Eq.trans (li_istore (ls' := [some (.inr (.inr (some a0))), some (.inl x1), some (.inl x2), some (.inl v3), some (.inl v4), none]) d147_41 (by decide) (by rfl)) ?_
      refine Eq.trans (li_sipush d147_43 si_999) ?_
      refine Eq.trans (li_istore (ls' := [some (.inr (.inr (some a0))), some (.inl x1), some (.inl x2), some (.inl v3), some (.inl v4), some (.inl (999 : Int32))]) d147_46 (by decide) (by rfl)) ?_
      refine Eq.trans (li_iload d147_48 (by rfl)) ?_
      refine Eq.trans (li_iconst d147_50 ic_3) ?_
      refine Eq.trans (li_icmp_eq (t := 82) d147_51 (by rfl)) ?_
      refine lt_ite (fun c3 => ?_) (fun c3 => ?_)
      · refine Eq.trans (li_aload_n d147_82 (by rfl)) ?_
        refine Eq.trans (li_iload d147_83 (by rfl)) ?_
        refine Eq.trans (li_iload_n d147_85 (by rfl)) ?_
        refine Eq.trans (li_imul d147_86) ?_
        refine Eq.trans (li_iload d147_87 (by rfl)) ?_
        refine Eq.trans (li_isI d147_89 bi_11_214 ca_11_214 kd_106 (by rfl) (by rfl) (Nat.le_of_ble_eq_true rfl) (Nat.le_of_ble_eq_true rfl)) ?_
        refine lt_cI_c (fun v5 m5 => ?_)
        refine Eq.trans (li_ivV d147_92 ca_11_157 kd_75 kl_75 (by rfl) (by rfl) h0 (Nat.le_of_ble_eq_true rfl) (Nat.le_of_ble_eq_true rfl)) ?_
        refine lt_cV_c (fun m6 => ?_)
        refine Eq.trans (li_iload d147_95 (by rfl)) ?_
        exact li_iret d147_97 rfl
      · refine Eq.trans (li_iload_n d147_54 (by rfl)) ?_
        refine Eq.trans (li_if_le (t := 82) d147_55 (by rfl)) ?_
        refine lt_ite (fun c4 => ?_) (fun c4 => ?_)
        · refine Eq.trans (li_aload_n d147_82 (by rfl)) ?_
          refine Eq.trans (li_iload d147_83 (by rfl)) ?_
          refine Eq.trans (li_iload_n d147_85 (by rfl)) ?_
          refine Eq.trans (li_imul d147_86) ?_
          refine Eq.trans (li_iload d147_87 (by rfl)) ?_
          refine Eq.trans (li_isI d147_89 bi_11_214 ca_11_214 kd_106 (by rfl) (by rfl) (Nat.le_of_ble_eq_true rfl) (Nat.le_of_ble_eq_true rfl)) ?_
          refine lt_cI_c (fun v6 m7 => ?_)
          refine Eq.trans (li_ivV d147_92 ca_11_157 kd_75 kl_75 (by rfl) (by rfl) h0 (Nat.le_of_ble_eq_true rfl) (Nat.le_of_ble_eq_true rfl)) ?_
          refine lt_cV_c (fun m8 => ?_)
          refine Eq.trans (li_iload d147_95 (by rfl)) ?_
          exact li_iret d147_97 rfl
        · refine Eq.trans (li_sipush d147_58 si_999) ?_
          refine Eq.trans (li_iload d147_61 (by rfl)) ?_
          refine Eq.trans (li_isI d147_63 bi_11_335 ca_11_335 kd_107 (by rfl) (by rfl) (Nat.le_of_ble_eq_true rfl) (Nat.le_of_ble_eq_true rfl)) ?_
          refine lt_cI_c (fun v7 m9 => ?_)
          refine Eq.trans (li_aload_n d147_66 (by rfl)) ?_
          refine Eq.trans (li_getr d147_67 fa_11_47 h0 rfl rfl rfl (by decide)) ?_
          refine Eq.trans (li_iload_n d147_70 (by rfl)) ?_
          refine Eq.trans (li_ivI d147_71 ca_11_191 kd_96 kl_96 (by rfl) (by rfl) (sf_of h0 5 (by decide) (by decide)) (Nat.le_of_ble_eq_true rfl) (Nat.le_of_ble_eq_true rfl)) ?_
          refine lt_cI_c (fun v8 m10 => ?_)
          refine Eq.trans (li_imul d147_74) ?_
          refine Eq.trans (li_iload_n d147_75 (by rfl)) ?_
          refine Eq.trans (li_idiv d147_76) ?_
          refine lt_gd_c (fun g3 => ?_)
          refine Eq.trans (li_min d147_77 bi_11_338 (Nat.le_of_ble_eq_true rfl)) ?_
          refine Eq.trans (li_istore (ls' := [some (.inr (.inr (some a0))), some (.inl x1), some (.inl x2), some (.inl v3), some (.inl v4), some (.inl (lm_min (999 : Int32) ((v7 * v8) / v3)))]) d147_80 (by decide) (by rfl)) ?_
          refine Eq.trans (li_aload_n d147_82 (by rfl)) ?_
          refine Eq.trans (li_iload d147_83 (by rfl)) ?_
          refine Eq.trans (li_iload_n d147_85 (by rfl)) ?_
          refine Eq.trans (li_imul d147_86) ?_
          refine Eq.trans (li_iload d147_87 (by rfl)) ?_
          refine Eq.trans (li_isI d147_89 bi_11_214 ca_11_214 kd_106 (by rfl) (by rfl) (Nat.le_of_ble_eq_true rfl) (Nat.le_of_ble_eq_true rfl)) ?_
          refine lt_cI_c (fun v9 m11 => ?_)
          refine Eq.trans (li_ivV d147_92 ca_11_157 kd_75 kl_75 (by rfl) (by rfl) h0 (Nat.le_of_ble_eq_true rfl) (Nat.le_of_ble_eq_true rfl)) ?_
          refine lt_cV_c (fun m12 => ?_)
          refine Eq.trans (li_iload d147_95 (by rfl)) ?_
          exact li_iret d147_97 rfl
    · refine Eq.trans (li_iconst d147_22 ic_n1) ?_
      exact li_iret d147_23 rfl
/-! TransitSeals.frees(II)I -/
theorem d148_0 : decode Y148.2.1 0 = .ok (.aload_n 0, 1) := by decide +kernel
theorem d148_1 : decode Y148.2.1 1 = .ok (.getfield 47, 3) := by decide +kernel
theorem d148_4 : decode Y148.2.1 4 = .ok (.iload_n 1, 1) := by decide +kernel
theorem d148_5 : decode Y148.2.1 5 = .ok (.invokevirtual 175, 3) := by decide +kernel
theorem d148_8 : decode Y148.2.1 8 = .ok (.ifCond .eq 10, 3) := by decide +kernel
theorem d148_11 : decode Y148.2.1 11 = .ok (.iload_n 2, 1) := by decide +kernel
theorem d148_12 : decode Y148.2.1 12 = .ok (.invokestatic 159, 3) := by decide +kernel
theorem d148_15 : decode Y148.2.1 15 = .ok (.ifCond .ne 5, 3) := by decide +kernel
theorem d148_18 : decode Y148.2.1 18 = .ok (.iconst (-1), 1) := by decide +kernel
theorem d148_19 : decode Y148.2.1 19 = .ok (.ireturn, 1) := by decide +kernel
theorem d148_20 : decode Y148.2.1 20 = .ok (.iload_n 2, 1) := by decide +kernel
theorem d148_21 : decode Y148.2.1 21 = .ok (.aload_n 0, 1) := by decide +kernel
theorem d148_22 : decode Y148.2.1 22 = .ok (.getfield 47, 3) := by decide +kernel
theorem d148_25 : decode Y148.2.1 25 = .ok (.iload_n 1, 1) := by decide +kernel
theorem d148_26 : decode Y148.2.1 26 = .ok (.invokevirtual 191, 3) := by decide +kernel
theorem d148_29 : decode Y148.2.1 29 = .ok (.isub, 1) := by decide +kernel
theorem d148_30 : decode Y148.2.1 30 = .ok (.istore_n 3, 1) := by decide +kernel
theorem d148_31 : decode Y148.2.1 31 = .ok (.aload_n 0, 1) := by decide +kernel
theorem d148_32 : decode Y148.2.1 32 = .ok (.getfield 47, 3) := by decide +kernel
theorem d148_35 : decode Y148.2.1 35 = .ok (.iload_n 1, 1) := by decide +kernel
theorem d148_36 : decode Y148.2.1 36 = .ok (.invokevirtual 195, 3) := by decide +kernel
theorem d148_39 : decode Y148.2.1 39 = .ok (.istore 4, 2) := by decide +kernel
theorem d148_41 : decode Y148.2.1 41 = .ok (.aload_n 0, 1) := by decide +kernel
theorem d148_42 : decode Y148.2.1 42 = .ok (.iload 4, 2) := by decide +kernel
theorem d148_44 : decode Y148.2.1 44 = .ok (.iload_n 3, 1) := by decide +kernel
theorem d148_45 : decode Y148.2.1 45 = .ok (.invokevirtual 343, 3) := by decide +kernel
theorem d148_48 : decode Y148.2.1 48 = .ok (.istore 5, 2) := by decide +kernel
theorem d148_50 : decode Y148.2.1 50 = .ok (.iload 5, 2) := by decide +kernel
theorem d148_52 : decode Y148.2.1 52 = .ok (.iconst (-1), 1) := by decide +kernel
theorem d148_53 : decode Y148.2.1 53 = .ok (.if_icmp .ne 6, 3) := by decide +kernel
theorem d148_56 : decode Y148.2.1 56 = .ok (.bipush (-2), 2) := by decide +kernel
theorem d148_58 : decode Y148.2.1 58 = .ok (.ireturn, 1) := by decide +kernel
theorem d148_59 : decode Y148.2.1 59 = .ok (.aload_n 0, 1) := by decide +kernel
theorem d148_60 : decode Y148.2.1 60 = .ok (.aload_n 0, 1) := by decide +kernel
theorem d148_61 : decode Y148.2.1 61 = .ok (.iload 4, 2) := by decide +kernel
theorem d148_63 : decode Y148.2.1 63 = .ok (.iload_n 3, 1) := by decide +kernel
theorem d148_64 : decode Y148.2.1 64 = .ok (.iload 5, 2) := by decide +kernel
theorem d148_66 : decode Y148.2.1 66 = .ok (.invokevirtual 346, 3) := by decide +kernel
theorem d148_69 : decode Y148.2.1 69 = .ok (.invokevirtual 157, 3) := by decide +kernel
theorem d148_72 : decode Y148.2.1 72 = .ok (.iload 5, 2) := by decide +kernel
theorem d148_74 : decode Y148.2.1 74 = .ok (.ireturn, 1) := by decide +kernel
theorem E148 (d : Nat) (a0 : Nat) (x1 : Int32) (x2 : Int32) (h0 : ts_sh a0 = (0, 11)) (m : lt_m) : lt_ev (d + 1) 148 [.inr (.inr (some a0)), .inl x1, .inl x2] m = lt_cI (lt_ev d 90 [.inr (.inr (some (a0 + 13))), .inl x1] m) (fun v1 m1 => (if v1 = 0 then (some (some (.inl (-1 : Int32)), m1)) else (lt_cI (lt_ev d 79 [.inl x2] m1) (fun v2 m2 => (if ¬ v2 = 0 then (lt_cI (lt_ev d 96 [.inr (.inr (some (a0 + 13))), .inl x1] m2) (fun v3 m3 => (lt_cI (lt_ev d 97 [.inr (.inr (some (a0 + 13))), .inl x1] m3) (fun v4 m4 => (lt_cI (lt_ev d 149 [.inr (.inr (some a0)), .inl v4, .inl (x2 - v3)] m4) (fun v5 m5 => (if ¬ v5 = (-1 : Int32) then (lt_cI (lt_ev d 151 [.inr (.inr (some a0)), .inl v4, .inl (x2 - v3), .inl v5] m5) (fun v6 m6 => (lt_cV (lt_ev d 75 [.inr (.inr (some a0)), .inl v6] m6) (fun m7 => (some (some (.inl v5), m7)))))) else (some (some (.inl (-2 : Int32)), m5))))))))) else (some (some (.inl (-1 : Int32)), m2))))))) := by
  refine Eq.trans (lt_enter2 (ls := [some (.inr (.inr (some a0))), some (.inl x1), some (.inl x2), none, none, none]) hY148 (Nat.le_of_ble_eq_true rfl) (by rfl)) ?_
  refine Eq.trans (li_aload_n d148_0 (by rfl)) ?_
  refine Eq.trans (li_getr d148_1 fa_11_47 h0 rfl rfl rfl (by decide)) ?_
  refine Eq.trans (li_iload_n d148_4 (by rfl)) ?_
  refine Eq.trans (li_ivI d148_5 ca_11_175 kd_90 kl_90 (by rfl) (by rfl) (sf_of h0 5 (by decide) (by decide)) (Nat.le_of_ble_eq_true rfl) (Nat.le_of_ble_eq_true rfl)) ?_
  refine lt_cI_c (fun v1 m1 => ?_)
  refine Eq.trans (li_if_eq (t := 18) d148_8 (by rfl)) ?_
  refine lt_ite (fun c1 => ?_) (fun c1 => ?_)
  · refine Eq.trans (li_iconst d148_18 ic_n1) ?_
    exact li_iret d148_19 rfl
  · refine Eq.trans (li_iload_n d148_11 (by rfl)) ?_
    refine Eq.trans (li_isI d148_12 bi_11_159 ca_11_159 kd_79 (by rfl) (by rfl) (Nat.le_of_ble_eq_true rfl) (Nat.le_of_ble_eq_true rfl)) ?_
    refine lt_cI_c (fun v2 m2 => ?_)
    refine Eq.trans (li_if_ne (t := 20) d148_15 (by rfl)) ?_
    refine lt_ite (fun c2 => ?_) (fun c2 => ?_)
    · refine Eq.trans (li_iload_n d148_20 (by rfl)) ?_
      refine Eq.trans (li_aload_n d148_21 (by rfl)) ?_
      refine Eq.trans (li_getr d148_22 fa_11_47 h0 rfl rfl rfl (by decide)) ?_
      refine Eq.trans (li_iload_n d148_25 (by rfl)) ?_
      refine Eq.trans (li_ivI d148_26 ca_11_191 kd_96 kl_96 (by rfl) (by rfl) (sf_of h0 5 (by decide) (by decide)) (Nat.le_of_ble_eq_true rfl) (Nat.le_of_ble_eq_true rfl)) ?_
      refine lt_cI_c (fun v3 m3 => ?_)
      refine Eq.trans (li_isub d148_29) ?_
      refine Eq.trans (li_istore_n (ls' := [some (.inr (.inr (some a0))), some (.inl x1), some (.inl x2), some (.inl (x2 - v3)), none, none]) d148_30 (by decide) (by rfl)) ?_
      refine Eq.trans (li_aload_n d148_31 (by rfl)) ?_
      refine Eq.trans (li_getr d148_32 fa_11_47 h0 rfl rfl rfl (by decide)) ?_
      refine Eq.trans (li_iload_n d148_35 (by rfl)) ?_
      refine Eq.trans (li_ivI d148_36 ca_11_195 kd_97 kl_97 (by rfl) (by rfl) (sf_of h0 5 (by decide) (by decide)) (Nat.le_of_ble_eq_true rfl) (Nat.le_of_ble_eq_true rfl)) ?_
      refine lt_cI_c (fun v4 m4 => ?_)
      refine Eq.trans (li_istore (ls' := [some (.inr (.inr (some a0))), some (.inl x1), some (.inl x2), some (.inl (x2 - v3)), some (.inl v4), none]) d148_39 (by decide) (by rfl)) ?_
      refine Eq.trans (li_aload_n d148_41 (by rfl)) ?_
      refine Eq.trans (li_iload d148_42 (by rfl)) ?_
      refine Eq.trans (li_iload_n d148_44 (by rfl)) ?_
      refine Eq.trans (li_ivI d148_45 ca_11_343 kd_149 kl_149 (by rfl) (by rfl) h0 (Nat.le_of_ble_eq_true rfl) (Nat.le_of_ble_eq_true rfl)) ?_
      refine lt_cI_c (fun v5 m5 => ?_)
      refine Eq.trans (li_istore (ls' := [some (.inr (.inr (some a0))), some (.inl x1), some (.inl x2), some (.inl (x2 - v3)), some (.inl v4), some (.inl v5)]) d148_48 (by decide) (by rfl)) ?_
      refine Eq.trans (li_iload d148_50 (by rfl)) ?_
      refine Eq.trans (li_iconst d148_52 ic_n1) ?_
      refine Eq.trans (li_icmp_ne (t := 59) d148_53 (by rfl)) ?_
      refine lt_ite (fun c3 => ?_) (fun c3 => ?_)
      · refine Eq.trans (li_aload_n d148_59 (by rfl)) ?_
        refine Eq.trans (li_aload_n d148_60 (by rfl)) ?_
        refine Eq.trans (li_iload d148_61 (by rfl)) ?_
        refine Eq.trans (li_iload_n d148_63 (by rfl)) ?_
        refine Eq.trans (li_iload d148_64 (by rfl)) ?_
        refine Eq.trans (li_ivI d148_66 ca_11_346 kd_151 kl_151 (by rfl) (by rfl) h0 (Nat.le_of_ble_eq_true rfl) (Nat.le_of_ble_eq_true rfl)) ?_
        refine lt_cI_c (fun v6 m6 => ?_)
        refine Eq.trans (li_ivV d148_69 ca_11_157 kd_75 kl_75 (by rfl) (by rfl) h0 (Nat.le_of_ble_eq_true rfl) (Nat.le_of_ble_eq_true rfl)) ?_
        refine lt_cV_c (fun m7 => ?_)
        refine Eq.trans (li_iload d148_72 (by rfl)) ?_
        exact li_iret d148_74 rfl
      · refine Eq.trans (li_bipush d148_56 bi_n2) ?_
        exact li_iret d148_58 rfl
    · refine Eq.trans (li_iconst d148_18 ic_n1) ?_
      exact li_iret d148_19 rfl
/-! TransitSeals.fewestFreeing(II)I -/
theorem d149_0 : decode Y149.2.1 0 = .ok (.iconst 0, 1) := by decide +kernel
theorem d149_1 : decode Y149.2.1 1 = .ok (.istore_n 3, 1) := by decide +kernel
theorem d149_2 : decode Y149.2.1 2 = .ok (.iload_n 3, 1) := by decide +kernel
theorem d149_3 : decode Y149.2.1 3 = .ok (.bipush 20, 2) := by decide +kernel
theorem d149_5 : decode Y149.2.1 5 = .ok (.if_icmp .gt 24, 3) := by decide +kernel
theorem d149_8 : decode Y149.2.1 8 = .ok (.aload_n 0, 1) := by decide +kernel
theorem d149_9 : decode Y149.2.1 9 = .ok (.getfield 47, 3) := by decide +kernel
theorem d149_12 : decode Y149.2.1 12 = .ok (.iload_n 1, 1) := by decide +kernel
theorem d149_13 : decode Y149.2.1 13 = .ok (.iload_n 3, 1) := by decide +kernel
theorem d149_14 : decode Y149.2.1 14 = .ok (.invokevirtual 423, 3) := by decide +kernel
theorem d149_17 : decode Y149.2.1 17 = .ok (.iload_n 2, 1) := by decide +kernel
theorem d149_18 : decode Y149.2.1 18 = .ok (.if_icmp .lt 5, 3) := by decide +kernel
theorem d149_21 : decode Y149.2.1 21 = .ok (.iload_n 3, 1) := by decide +kernel
theorem d149_22 : decode Y149.2.1 22 = .ok (.ireturn, 1) := by decide +kernel
theorem d149_23 : decode Y149.2.1 23 = .ok (.iinc 3 1, 3) := by decide +kernel
theorem d149_26 : decode Y149.2.1 26 = .ok (.goto (-24), 3) := by decide +kernel
theorem d149_29 : decode Y149.2.1 29 = .ok (.iconst (-1), 1) := by decide +kernel
theorem d149_30 : decode Y149.2.1 30 = .ok (.ireturn, 1) := by decide +kernel
noncomputable def L149_2 (d : Nat) (a0 : Nat) (x1 : Int32) (x2 : Int32) (x3 : Int32) (m : lt_m) : Option lt_r := lt_run d Y149 2 [some (.inr (.inr (some a0))), some (.inl x1), some (.inl x2), some (.inl x3)] [] m
theorem E149 (d : Nat) (a0 : Nat) (x1 : Int32) (x2 : Int32) (h0 : ts_sh a0 = (0, 11)) (m : lt_m) : lt_ev (d + 1) 149 [.inr (.inr (some a0)), .inl x1, .inl x2] m = L149_2 d a0 x1 x2 (0 : Int32) m := by
  refine Eq.trans (lt_enter2 (ls := [some (.inr (.inr (some a0))), some (.inl x1), some (.inl x2), none]) hY149 (Nat.le_of_ble_eq_true rfl) (by rfl)) ?_
  refine Eq.trans (li_iconst d149_0 ic_0) ?_
  refine Eq.trans (li_istore_n (ls' := [some (.inr (.inr (some a0))), some (.inl x1), some (.inl x2), some (.inl (0 : Int32))]) d149_1 (by decide) (by rfl)) ?_
  rfl
theorem E149_2 (d : Nat) (a0 : Nat) (x1 : Int32) (x2 : Int32) (x3 : Int32) (h0 : ts_sh a0 = (0, 11)) (m : lt_m) : L149_2 d a0 x1 x2 x3 m = if (20 : Int32) < x3 then (some (some (.inl (-1 : Int32)), m)) else (lt_cI (lt_ev d 150 [.inr (.inr (some (a0 + 13))), .inl x1, .inl x3] m) (fun v1 m1 => (if v1 < x2 then (L149_2 d a0 x1 x2 (x3 + (1 : Int32)) m1) else (some (some (.inl x3), m1))))) := by
  show lt_run d Y149 2 [some (.inr (.inr (some a0))), some (.inl x1), some (.inl x2), some (.inl x3)] [] m = _
  refine Eq.trans (li_iload_n d149_2 (by rfl)) ?_
  refine Eq.trans (li_bipush d149_3 bi_20) ?_
  refine Eq.trans (li_icmp_gt (t := 29) d149_5 (by rfl)) ?_
  refine lt_ite (fun c1 => ?_) (fun c1 => ?_)
  · refine Eq.trans (li_iconst d149_29 ic_n1) ?_
    exact li_iret d149_30 rfl
  · refine Eq.trans (li_aload_n d149_8 (by rfl)) ?_
    refine Eq.trans (li_getr d149_9 fa_11_47 h0 rfl rfl rfl (by decide)) ?_
    refine Eq.trans (li_iload_n d149_12 (by rfl)) ?_
    refine Eq.trans (li_iload_n d149_13 (by rfl)) ?_
    refine Eq.trans (li_ivI d149_14 ca_11_423 kd_150 kl_150 (by rfl) (by rfl) (sf_of h0 5 (by decide) (by decide)) (Nat.le_of_ble_eq_true rfl) (Nat.le_of_ble_eq_true rfl)) ?_
    refine lt_cI_c (fun v1 m1 => ?_)
    refine Eq.trans (li_iload_n d149_17 (by rfl)) ?_
    refine Eq.trans (li_icmp_lt (t := 23) d149_18 (by rfl)) ?_
    refine lt_ite (fun c2 => ?_) (fun c2 => ?_)
    · refine Eq.trans (li_iinc (ls' := [some (.inr (.inr (some a0))), some (.inl x1), some (.inl x2), some (.inl (x3 + (1 : Int32)))]) d149_23 (by rfl) (by decide) ic_1 (by rfl)) ?_
      refine Eq.trans (li_goto (t := 2) d149_26 (by rfl)) ?_
      rfl
    · refine Eq.trans (li_iload_n d149_21 (by rfl)) ?_
      exact li_iret d149_22 rfl
/-! TransitSeals$Ledger.greatestShares(II)I -/
theorem d150_0 : decode Y150.2.1 0 = .ok (.iload_n 1, 1) := by decide +kernel
theorem d150_1 : decode Y150.2.1 1 = .ok (.istore_n 3, 1) := by decide +kernel
theorem d150_2 : decode Y150.2.1 2 = .ok (.iconst 0, 1) := by decide +kernel
theorem d150_3 : decode Y150.2.1 3 = .ok (.istore 4, 2) := by decide +kernel
theorem d150_5 : decode Y150.2.1 5 = .ok (.iconst 0, 1) := by decide +kernel
theorem d150_6 : decode Y150.2.1 6 = .ok (.istore 5, 2) := by decide +kernel
theorem d150_8 : decode Y150.2.1 8 = .ok (.iload 5, 2) := by decide +kernel
theorem d150_10 : decode Y150.2.1 10 = .ok (.iload_n 2, 1) := by decide +kernel
theorem d150_11 : decode Y150.2.1 11 = .ok (.if_icmp .ge 107, 3) := by decide +kernel
theorem d150_14 : decode Y150.2.1 14 = .ok (.iload_n 3, 1) := by decide +kernel
theorem d150_15 : decode Y150.2.1 15 = .ok (.ifCond .eq 103, 3) := by decide +kernel
theorem d150_18 : decode Y150.2.1 18 = .ok (.aconst_null, 1) := by decide +kernel
theorem d150_19 : decode Y150.2.1 19 = .ok (.astore 6, 2) := by decide +kernel
theorem d150_21 : decode Y150.2.1 21 = .ok (.aload_n 0, 1) := by decide +kernel
theorem d150_22 : decode Y150.2.1 22 = .ok (.getfield 20, 3) := by decide +kernel
theorem d150_25 : decode Y150.2.1 25 = .ok (.astore 7, 2) := by decide +kernel
theorem d150_27 : decode Y150.2.1 27 = .ok (.aload 7, 2) := by decide +kernel
theorem d150_29 : decode Y150.2.1 29 = .ok (.arraylength, 1) := by decide +kernel
theorem d150_30 : decode Y150.2.1 30 = .ok (.istore 8, 2) := by decide +kernel
theorem d150_32 : decode Y150.2.1 32 = .ok (.iconst 0, 1) := by decide +kernel
theorem d150_33 : decode Y150.2.1 33 = .ok (.istore 9, 2) := by decide +kernel
theorem d150_35 : decode Y150.2.1 35 = .ok (.iload 9, 2) := by decide +kernel
theorem d150_37 : decode Y150.2.1 37 = .ok (.iload 8, 2) := by decide +kernel
theorem d150_39 : decode Y150.2.1 39 = .ok (.if_icmp .ge 48, 3) := by decide +kernel
theorem d150_42 : decode Y150.2.1 42 = .ok (.aload 7, 2) := by decide +kernel
theorem d150_44 : decode Y150.2.1 44 = .ok (.iload 9, 2) := by decide +kernel
theorem d150_46 : decode Y150.2.1 46 = .ok (.aaload, 1) := by decide +kernel
theorem d150_47 : decode Y150.2.1 47 = .ok (.astore 10, 2) := by decide +kernel
theorem d150_49 : decode Y150.2.1 49 = .ok (.iload_n 3, 1) := by decide +kernel
theorem d150_50 : decode Y150.2.1 50 = .ok (.aload 10, 2) := by decide +kernel
theorem d150_52 : decode Y150.2.1 52 = .ok (.invokevirtual 87, 3) := by decide +kernel
theorem d150_55 : decode Y150.2.1 55 = .ok (.iand, 1) := by decide +kernel
theorem d150_56 : decode Y150.2.1 56 = .ok (.ifCond .eq 25, 3) := by decide +kernel
theorem d150_59 : decode Y150.2.1 59 = .ok (.aload 6, 2) := by decide +kernel
theorem d150_61 : decode Y150.2.1 61 = .ok (.ifnull 16, 3) := by decide +kernel
theorem d150_64 : decode Y150.2.1 64 = .ok (.aload 10, 2) := by decide +kernel
theorem d150_66 : decode Y150.2.1 66 = .ok (.getfield 84, 3) := by decide +kernel
theorem d150_69 : decode Y150.2.1 69 = .ok (.aload 6, 2) := by decide +kernel
theorem d150_71 : decode Y150.2.1 71 = .ok (.getfield 84, 3) := by decide +kernel
theorem d150_74 : decode Y150.2.1 74 = .ok (.if_icmp .le 7, 3) := by decide +kernel
theorem d150_77 : decode Y150.2.1 77 = .ok (.aload 10, 2) := by decide +kernel
theorem d150_79 : decode Y150.2.1 79 = .ok (.astore 6, 2) := by decide +kernel
theorem d150_81 : decode Y150.2.1 81 = .ok (.iinc 9 1, 3) := by decide +kernel
theorem d150_84 : decode Y150.2.1 84 = .ok (.goto (-49), 3) := by decide +kernel
theorem d150_87 : decode Y150.2.1 87 = .ok (.aload 6, 2) := by decide +kernel
theorem d150_89 : decode Y150.2.1 89 = .ok (.ifnull 23, 3) := by decide +kernel
theorem d150_92 : decode Y150.2.1 92 = .ok (.iload_n 3, 1) := by decide +kernel
theorem d150_93 : decode Y150.2.1 93 = .ok (.aload 6, 2) := by decide +kernel
theorem d150_95 : decode Y150.2.1 95 = .ok (.invokevirtual 87, 3) := by decide +kernel
theorem d150_98 : decode Y150.2.1 98 = .ok (.iconst (-1), 1) := by decide +kernel
theorem d150_99 : decode Y150.2.1 99 = .ok (.ixor, 1) := by decide +kernel
theorem d150_100 : decode Y150.2.1 100 = .ok (.iand, 1) := by decide +kernel
theorem d150_101 : decode Y150.2.1 101 = .ok (.istore_n 3, 1) := by decide +kernel
theorem d150_102 : decode Y150.2.1 102 = .ok (.iload 4, 2) := by decide +kernel
theorem d150_104 : decode Y150.2.1 104 = .ok (.aload 6, 2) := by decide +kernel
theorem d150_106 : decode Y150.2.1 106 = .ok (.getfield 84, 3) := by decide +kernel
theorem d150_109 : decode Y150.2.1 109 = .ok (.iadd, 1) := by decide +kernel
theorem d150_110 : decode Y150.2.1 110 = .ok (.istore 4, 2) := by decide +kernel
theorem d150_112 : decode Y150.2.1 112 = .ok (.iinc 5 1, 3) := by decide +kernel
theorem d150_115 : decode Y150.2.1 115 = .ok (.goto (-107), 3) := by decide +kernel
theorem d150_118 : decode Y150.2.1 118 = .ok (.iload 4, 2) := by decide +kernel
theorem d150_120 : decode Y150.2.1 120 = .ok (.ireturn, 1) := by decide +kernel
noncomputable def L150_8 (d : Nat) (a0 : Nat) (x1 : Int32) (x2 : Int32) (x3 : Int32) (x4 : Int32) (x5 : Int32) (o6 : Option ts_V) (o7 : Option ts_V) (o8 : Option ts_V) (o9 : Option ts_V) (o10 : Option ts_V) (m : lt_m) : Option lt_r := lt_run d Y150 8 [some (.inr (.inr (some a0))), some (.inl x1), some (.inl x2), some (.inl x3), some (.inl x4), some (.inl x5), o6, o7, o8, o9, o10] [] m
noncomputable def L150_35 (d : Nat) (a0 : Nat) (x1 : Int32) (x2 : Int32) (x3 : Int32) (x4 : Int32) (x5 : Int32) (q6 : Option Nat) (x9 : Int32) (o10 : Option ts_V) (m : lt_m) : Option lt_r := lt_run d Y150 35 [some (.inr (.inr (some a0))), some (.inl x1), some (.inl x2), some (.inl x3), some (.inl x4), some (.inl x5), some (.inr (.inr q6)), some (.inr (.inr (some (a0 + 3)))), some (.inl (20 : Int32)), some (.inl x9), o10] [] m
theorem E150 (d : Nat) (a0 : Nat) (x1 : Int32) (x2 : Int32) (h0 : ts_sh a0 = (0, 2)) (m : lt_m) : lt_ev (d + 1) 150 [.inr (.inr (some a0)), .inl x1, .inl x2] m = L150_8 d a0 x1 x2 x1 (0 : Int32) (0 : Int32) none none none none none m := by
  refine Eq.trans (lt_enter2 (ls := [some (.inr (.inr (some a0))), some (.inl x1), some (.inl x2), none, none, none, none, none, none, none, none]) hY150 (Nat.le_of_ble_eq_true rfl) (by rfl)) ?_
  refine Eq.trans (li_iload_n d150_0 (by rfl)) ?_
  refine Eq.trans (li_istore_n (ls' := [some (.inr (.inr (some a0))), some (.inl x1), some (.inl x2), some (.inl x1), none, none, none, none, none, none, none]) d150_1 (by decide) (by rfl)) ?_
  refine Eq.trans (li_iconst d150_2 ic_0) ?_
  refine Eq.trans (li_istore (ls' := [some (.inr (.inr (some a0))), some (.inl x1), some (.inl x2), some (.inl x1), some (.inl (0 : Int32)), none, none, none, none, none, none]) d150_3 (by decide) (by rfl)) ?_
  refine Eq.trans (li_iconst d150_5 ic_0) ?_
  refine Eq.trans (li_istore (ls' := [some (.inr (.inr (some a0))), some (.inl x1), some (.inl x2), some (.inl x1), some (.inl (0 : Int32)), some (.inl (0 : Int32)), none, none, none, none, none]) d150_6 (by decide) (by rfl)) ?_
  rfl
theorem E150_8 (d : Nat) (a0 : Nat) (x1 : Int32) (x2 : Int32) (x3 : Int32) (x4 : Int32) (x5 : Int32) (o6 : Option ts_V) (o7 : Option ts_V) (o8 : Option ts_V) (o9 : Option ts_V) (o10 : Option ts_V) (h0 : ts_sh a0 = (0, 2)) (m : lt_m) : L150_8 d a0 x1 x2 x3 x4 x5 o6 o7 o8 o9 o10 m = if x2 ≤ x5 then (some (some (.inl x4), m)) else (if x3 = 0 then (some (some (.inl x4), m)) else (L150_35 d a0 x1 x2 x3 x4 x5 none (0 : Int32) (o10) m)) := by
  show lt_run d Y150 8 [some (.inr (.inr (some a0))), some (.inl x1), some (.inl x2), some (.inl x3), some (.inl x4), some (.inl x5), o6, o7, o8, o9, o10] [] m = _
  refine Eq.trans (li_iload d150_8 (by rfl)) ?_
  refine Eq.trans (li_iload_n d150_10 (by rfl)) ?_
  refine Eq.trans (li_icmp_ge (t := 118) d150_11 (by rfl)) ?_
  refine lt_ite (fun c1 => ?_) (fun c1 => ?_)
  · refine Eq.trans (li_iload d150_118 (by rfl)) ?_
    exact li_iret d150_120 rfl
  · refine Eq.trans (li_iload_n d150_14 (by rfl)) ?_
    refine Eq.trans (li_if_eq (t := 118) d150_15 (by rfl)) ?_
    refine lt_ite (fun c2 => ?_) (fun c2 => ?_)
    · refine Eq.trans (li_iload d150_118 (by rfl)) ?_
      exact li_iret d150_120 rfl
    · refine Eq.trans (li_null d150_18) ?_
      refine Eq.trans (li_astore (ls' := [some (.inr (.inr (some a0))), some (.inl x1), some (.inl x2), some (.inl x3), some (.inl x4), some (.inl x5), some (.inr (.inr none)), o7, o8, o9, o10]) d150_19 (by decide) (by rfl)) ?_
      refine Eq.trans (li_aload_n d150_21 (by rfl)) ?_
      refine Eq.trans (li_getr d150_22 fa_2_20 h0 rfl rfl rfl (by decide)) ?_
      refine Eq.trans (li_astore (ls' := [some (.inr (.inr (some a0))), some (.inl x1), some (.inl x2), some (.inl x3), some (.inl x4), some (.inl x5), some (.inr (.inr none)), some (.inr (.inr (some (a0 + 3)))), o8, o9, o10]) d150_25 (by decide) (by rfl)) ?_
      refine Eq.trans (li_aload d150_27 (by rfl)) ?_
      refine Eq.trans (li_alen d150_29 (sf_of h0 2 (by decide) (by decide)) (by decide) (by rfl)) ?_
      refine Eq.trans (li_istore (ls' := [some (.inr (.inr (some a0))), some (.inl x1), some (.inl x2), some (.inl x3), some (.inl x4), some (.inl x5), some (.inr (.inr none)), some (.inr (.inr (some (a0 + 3)))), some (.inl (20 : Int32)), o9, o10]) d150_30 (by decide) (by rfl)) ?_
      refine Eq.trans (li_iconst d150_32 ic_0) ?_
      refine Eq.trans (li_istore (ls' := [some (.inr (.inr (some a0))), some (.inl x1), some (.inl x2), some (.inl x3), some (.inl x4), some (.inl x5), some (.inr (.inr none)), some (.inr (.inr (some (a0 + 3)))), some (.inl (20 : Int32)), some (.inl (0 : Int32)), o10]) d150_33 (by decide) (by rfl)) ?_
      rfl
theorem E150_35 (d : Nat) (a0 : Nat) (x1 : Int32) (x2 : Int32) (x3 : Int32) (x4 : Int32) (x5 : Int32) (q6 : Option Nat) (x9 : Int32) (o10 : Option ts_V) (h0 : ts_sh a0 = (0, 2)) (m : lt_m) : L150_35 d a0 x1 x2 x3 x4 x5 q6 x9 o10 m = if (20 : Int32) ≤ x9 then (lt_nl q6 (L150_8 d a0 x1 x2 x3 x4 (x5 + (1 : Int32)) (some (.inr (.inr none))) (some (.inr (.inr (some (a0 + 3))))) (some (.inl (20 : Int32))) (some (.inl x9)) (o10) m) (fun q1 => (lt_gd (ts_sh q1 = (0, 4)) (lt_cI (lt_ev d 65 [.inr (.inr (some q1))] m) (fun v1 m1 => (L150_8 d a0 x1 x2 (x3 &&& (v1 ^^^ (-1 : Int32))) (x4 + (m1.1 q1 5)) (x5 + (1 : Int32)) (some (.inr (.inr (some q1)))) (some (.inr (.inr (some (a0 + 3))))) (some (.inl (20 : Int32))) (some (.inl x9)) (o10) m1)))))) else (lt_gd (0 ≤ x9 ∧ (x9).toNatClampNeg < 20) (lt_cI (lt_ev d 65 [.inr (.inr (some ((a0 + 3) + 5 + 3 * (x9).toNatClampNeg)))] m) (fun v2 m2 => (if (x3 &&& v2) = 0 then (L150_35 d a0 x1 x2 x3 x4 x5 q6 (x9 + (1 : Int32)) (some (.inr (.inr (some ((a0 + 3) + 5 + 3 * (x9).toNatClampNeg))))) m2) else (lt_nl q6 (L150_35 d a0 x1 x2 x3 x4 x5 (some ((a0 + 3) + 5 + 3 * (x9).toNatClampNeg)) (x9 + (1 : Int32)) (some (.inr (.inr (some ((a0 + 3) + 5 + 3 * (x9).toNatClampNeg))))) m2) (fun q2 => (lt_gd (ts_sh q2 = (0, 4)) (if (m2.1 ((a0 + 3) + 5 + 3 * (x9).toNatClampNeg) 5) ≤ (m2.1 q2 5) then (L150_35 d a0 x1 x2 x3 x4 x5 (some q2) (x9 + (1 : Int32)) (some (.inr (.inr (some ((a0 + 3) + 5 + 3 * (x9).toNatClampNeg))))) m2) else (L150_35 d a0 x1 x2 x3 x4 x5 (some ((a0 + 3) + 5 + 3 * (x9).toNatClampNeg)) (x9 + (1 : Int32)) (some (.inr (.inr (some ((a0 + 3) + 5 + 3 * (x9).toNatClampNeg))))) m2))))))))) := by
  show lt_run d Y150 35 [some (.inr (.inr (some a0))), some (.inl x1), some (.inl x2), some (.inl x3), some (.inl x4), some (.inl x5), some (.inr (.inr q6)), some (.inr (.inr (some (a0 + 3)))), some (.inl (20 : Int32)), some (.inl x9), o10] [] m = _
  refine Eq.trans (li_iload d150_35 (by rfl)) ?_
  refine Eq.trans (li_iload d150_37 (by rfl)) ?_
  refine Eq.trans (li_icmp_ge (t := 87) d150_39 (by rfl)) ?_
  refine lt_ite (fun c1 => ?_) (fun c1 => ?_)
  · refine Eq.trans (li_aload d150_87 (by rfl)) ?_
    refine lt_nl_x (F := fun oz => lt_run d Y150 89 [some (.inr (.inr (some a0))), some (.inl x1), some (.inl x2), some (.inl x3), some (.inl x4), some (.inl x5), some (.inr (.inr oz)), some (.inr (.inr (some (a0 + 3)))), some (.inl (20 : Int32)), some (.inl x9), o10] [.inr (.inr oz)] m) ?_ (fun q1 => ?_)
    · refine Eq.trans (li_ifnull_n (t := 112) d150_89 (by rfl)) ?_
      refine Eq.trans (li_iinc (ls' := [some (.inr (.inr (some a0))), some (.inl x1), some (.inl x2), some (.inl x3), some (.inl x4), some (.inl (x5 + (1 : Int32))), some (.inr (.inr none)), some (.inr (.inr (some (a0 + 3)))), some (.inl (20 : Int32)), some (.inl x9), o10]) d150_112 (by rfl) (by decide) ic_1 (by rfl)) ?_
      refine Eq.trans (li_goto (t := 8) d150_115 (by rfl)) ?_
      rfl
    · refine Eq.trans (li_ifnull_s d150_89) ?_
      refine Eq.trans (li_iload_n d150_92 (by rfl)) ?_
      refine Eq.trans (li_aload d150_93 (by rfl)) ?_
      refine Eq.trans (li_ginv d150_95 ca_2_87 kl_65 (by rfl)) ?_
      refine lt_gd_c (fun g1 => ?_)
      refine Eq.trans (li_ivI d150_95 ca_2_87 kd_65 kl_65 (by rfl) (by rfl) g1 (Nat.le_of_ble_eq_true rfl) (Nat.le_of_ble_eq_true rfl)) ?_
      refine lt_cI_c (fun v1 m1 => ?_)
      refine Eq.trans (li_iconst d150_98 ic_n1) ?_
      refine Eq.trans (li_ixor d150_99) ?_
      refine Eq.trans (li_iand d150_100) ?_
      refine Eq.trans (li_istore_n (ls' := [some (.inr (.inr (some a0))), some (.inl x1), some (.inl x2), some (.inl (x3 &&& (v1 ^^^ (-1 : Int32)))), some (.inl x4), some (.inl x5), some (.inr (.inr (some q1))), some (.inr (.inr (some (a0 + 3)))), some (.inl (20 : Int32)), some (.inl x9), o10]) d150_101 (by decide) (by rfl)) ?_
      refine Eq.trans (li_iload d150_102 (by rfl)) ?_
      refine Eq.trans (li_aload d150_104 (by rfl)) ?_
      refine Eq.trans (li_geti d150_106 fa_2_84 g1 rfl) ?_
      refine Eq.trans (li_iadd d150_109) ?_
      refine Eq.trans (li_istore (ls' := [some (.inr (.inr (some a0))), some (.inl x1), some (.inl x2), some (.inl (x3 &&& (v1 ^^^ (-1 : Int32)))), some (.inl (x4 + (m1.1 q1 5))), some (.inl x5), some (.inr (.inr (some q1))), some (.inr (.inr (some (a0 + 3)))), some (.inl (20 : Int32)), some (.inl x9), o10]) d150_110 (by decide) (by rfl)) ?_
      refine Eq.trans (li_iinc (ls' := [some (.inr (.inr (some a0))), some (.inl x1), some (.inl x2), some (.inl (x3 &&& (v1 ^^^ (-1 : Int32)))), some (.inl (x4 + (m1.1 q1 5))), some (.inl (x5 + (1 : Int32))), some (.inr (.inr (some q1))), some (.inr (.inr (some (a0 + 3)))), some (.inl (20 : Int32)), some (.inl x9), o10]) d150_112 (by rfl) (by decide) ic_1 (by rfl)) ?_
      refine Eq.trans (li_goto (t := 8) d150_115 (by rfl)) ?_
      rfl
  · refine Eq.trans (li_aload d150_42 (by rfl)) ?_
    refine Eq.trans (li_iload d150_44 (by rfl)) ?_
    refine Eq.trans (li_aald4 d150_46 (sf_of h0 2 (by decide) (by decide))) ?_
    refine lt_gd_c (fun g2 => ?_)
    refine Eq.trans (li_astore (ls' := [some (.inr (.inr (some a0))), some (.inl x1), some (.inl x2), some (.inl x3), some (.inl x4), some (.inl x5), some (.inr (.inr q6)), some (.inr (.inr (some (a0 + 3)))), some (.inl (20 : Int32)), some (.inl x9), some (.inr (.inr (some ((a0 + 3) + 5 + 3 * (x9).toNatClampNeg))))]) d150_47 (by decide) (by rfl)) ?_
    refine Eq.trans (li_iload_n d150_49 (by rfl)) ?_
    refine Eq.trans (li_aload d150_50 (by rfl)) ?_
    refine Eq.trans (li_ivI d150_52 ca_2_87 kd_65 kl_65 (by rfl) (by rfl) (sm_4 (sf_of h0 2 (by decide) (by decide)) g2.2) (Nat.le_of_ble_eq_true rfl) (Nat.le_of_ble_eq_true rfl)) ?_
    refine lt_cI_c (fun v2 m2 => ?_)
    refine Eq.trans (li_iand d150_55) ?_
    refine Eq.trans (li_if_eq (t := 81) d150_56 (by rfl)) ?_
    refine lt_ite (fun c2 => ?_) (fun c2 => ?_)
    · refine Eq.trans (li_iinc (ls' := [some (.inr (.inr (some a0))), some (.inl x1), some (.inl x2), some (.inl x3), some (.inl x4), some (.inl x5), some (.inr (.inr q6)), some (.inr (.inr (some (a0 + 3)))), some (.inl (20 : Int32)), some (.inl (x9 + (1 : Int32))), some (.inr (.inr (some ((a0 + 3) + 5 + 3 * (x9).toNatClampNeg))))]) d150_81 (by rfl) (by decide) ic_1 (by rfl)) ?_
      refine Eq.trans (li_goto (t := 35) d150_84 (by rfl)) ?_
      rfl
    · refine Eq.trans (li_aload d150_59 (by rfl)) ?_
      refine lt_nl_x (F := fun oz => lt_run d Y150 61 [some (.inr (.inr (some a0))), some (.inl x1), some (.inl x2), some (.inl x3), some (.inl x4), some (.inl x5), some (.inr (.inr oz)), some (.inr (.inr (some (a0 + 3)))), some (.inl (20 : Int32)), some (.inl x9), some (.inr (.inr (some ((a0 + 3) + 5 + 3 * (x9).toNatClampNeg))))] [.inr (.inr oz)] m2) ?_ (fun q2 => ?_)
      · refine Eq.trans (li_ifnull_n (t := 77) d150_61 (by rfl)) ?_
        refine Eq.trans (li_aload d150_77 (by rfl)) ?_
        refine Eq.trans (li_astore (ls' := [some (.inr (.inr (some a0))), some (.inl x1), some (.inl x2), some (.inl x3), some (.inl x4), some (.inl x5), some (.inr (.inr (some ((a0 + 3) + 5 + 3 * (x9).toNatClampNeg)))), some (.inr (.inr (some (a0 + 3)))), some (.inl (20 : Int32)), some (.inl x9), some (.inr (.inr (some ((a0 + 3) + 5 + 3 * (x9).toNatClampNeg))))]) d150_79 (by decide) (by rfl)) ?_
        refine Eq.trans (li_iinc (ls' := [some (.inr (.inr (some a0))), some (.inl x1), some (.inl x2), some (.inl x3), some (.inl x4), some (.inl x5), some (.inr (.inr (some ((a0 + 3) + 5 + 3 * (x9).toNatClampNeg)))), some (.inr (.inr (some (a0 + 3)))), some (.inl (20 : Int32)), some (.inl (x9 + (1 : Int32))), some (.inr (.inr (some ((a0 + 3) + 5 + 3 * (x9).toNatClampNeg))))]) d150_81 (by rfl) (by decide) ic_1 (by rfl)) ?_
        refine Eq.trans (li_goto (t := 35) d150_84 (by rfl)) ?_
        rfl
      · refine Eq.trans (li_ifnull_s d150_61) ?_
        refine Eq.trans (li_aload d150_64 (by rfl)) ?_
        refine Eq.trans (li_geti d150_66 fa_2_84 (sm_4 (sf_of h0 2 (by decide) (by decide)) g2.2) rfl) ?_
        refine Eq.trans (li_aload d150_69 (by rfl)) ?_
        refine Eq.trans (li_gget d150_71 fa_2_84) ?_
        refine lt_gd_c (fun g3 => ?_)
        refine Eq.trans (li_geti d150_71 fa_2_84 g3 rfl) ?_
        refine Eq.trans (li_icmp_le (t := 81) d150_74 (by rfl)) ?_
        refine lt_ite (fun c3 => ?_) (fun c3 => ?_)
        · refine Eq.trans (li_iinc (ls' := [some (.inr (.inr (some a0))), some (.inl x1), some (.inl x2), some (.inl x3), some (.inl x4), some (.inl x5), some (.inr (.inr (some q2))), some (.inr (.inr (some (a0 + 3)))), some (.inl (20 : Int32)), some (.inl (x9 + (1 : Int32))), some (.inr (.inr (some ((a0 + 3) + 5 + 3 * (x9).toNatClampNeg))))]) d150_81 (by rfl) (by decide) ic_1 (by rfl)) ?_
          refine Eq.trans (li_goto (t := 35) d150_84 (by rfl)) ?_
          rfl
        · refine Eq.trans (li_aload d150_77 (by rfl)) ?_
          refine Eq.trans (li_astore (ls' := [some (.inr (.inr (some a0))), some (.inl x1), some (.inl x2), some (.inl x3), some (.inl x4), some (.inl x5), some (.inr (.inr (some ((a0 + 3) + 5 + 3 * (x9).toNatClampNeg)))), some (.inr (.inr (some (a0 + 3)))), some (.inl (20 : Int32)), some (.inl x9), some (.inr (.inr (some ((a0 + 3) + 5 + 3 * (x9).toNatClampNeg))))]) d150_79 (by decide) (by rfl)) ?_
          refine Eq.trans (li_iinc (ls' := [some (.inr (.inr (some a0))), some (.inl x1), some (.inl x2), some (.inl x3), some (.inl x4), some (.inl x5), some (.inr (.inr (some ((a0 + 3) + 5 + 3 * (x9).toNatClampNeg)))), some (.inr (.inr (some (a0 + 3)))), some (.inl (20 : Int32)), some (.inl (x9 + (1 : Int32))), some (.inr (.inr (some ((a0 + 3) + 5 + 3 * (x9).toNatClampNeg))))]) d150_81 (by rfl) (by decide) ic_1 (by rfl)) ?_
          refine Eq.trans (li_goto (t := 35) d150_84 (by rfl)) ?_
          rfl
/-! TransitSeals.leastBitsFreeing(III)I -/
theorem d151_0 : decode Y151.2.1 0 = .ok (.iconst 0, 1) := by decide +kernel
theorem d151_1 : decode Y151.2.1 1 = .ok (.istore 4, 2) := by decide +kernel
theorem d151_3 : decode Y151.2.1 3 = .ok (.iload_n 2, 1) := by decide +kernel
theorem d151_4 : decode Y151.2.1 4 = .ok (.istore 5, 2) := by decide +kernel
theorem d151_6 : decode Y151.2.1 6 = .ok (.iload_n 3, 1) := by decide +kernel
theorem d151_7 : decode Y151.2.1 7 = .ok (.istore 6, 2) := by decide +kernel
theorem d151_9 : decode Y151.2.1 9 = .ok (.bipush 19, 2) := by decide +kernel
theorem d151_11 : decode Y151.2.1 11 = .ok (.istore 7, 2) := by decide +kernel
theorem d151_13 : decode Y151.2.1 13 = .ok (.iload 7, 2) := by decide +kernel
theorem d151_15 : decode Y151.2.1 15 = .ok (.ifCond .lt 93, 3) := by decide +kernel
theorem d151_18 : decode Y151.2.1 18 = .ok (.iload 6, 2) := by decide +kernel
theorem d151_20 : decode Y151.2.1 20 = .ok (.ifCond .le 88, 3) := by decide +kernel
theorem d151_23 : decode Y151.2.1 23 = .ok (.aload_n 0, 1) := by decide +kernel
theorem d151_24 : decode Y151.2.1 24 = .ok (.getfield 47, 3) := by decide +kernel
theorem d151_27 : decode Y151.2.1 27 = .ok (.iload 7, 2) := by decide +kernel
theorem d151_29 : decode Y151.2.1 29 = .ok (.invokevirtual 240, 3) := by decide +kernel
theorem d151_32 : decode Y151.2.1 32 = .ok (.astore 8, 2) := by decide +kernel
theorem d151_34 : decode Y151.2.1 34 = .ok (.aload 8, 2) := by decide +kernel
theorem d151_36 : decode Y151.2.1 36 = .ok (.ifnull 66, 3) := by decide +kernel
theorem d151_39 : decode Y151.2.1 39 = .ok (.iload_n 1, 1) := by decide +kernel
theorem d151_40 : decode Y151.2.1 40 = .ok (.aload 8, 2) := by decide +kernel
theorem d151_42 : decode Y151.2.1 42 = .ok (.invokevirtual 319, 3) := by decide +kernel
theorem d151_45 : decode Y151.2.1 45 = .ok (.iand, 1) := by decide +kernel
theorem d151_46 : decode Y151.2.1 46 = .ok (.ifCond .ne 6, 3) := by decide +kernel
theorem d151_49 : decode Y151.2.1 49 = .ok (.goto 53, 3) := by decide +kernel
theorem d151_52 : decode Y151.2.1 52 = .ok (.iload_n 1, 1) := by decide +kernel
theorem d151_53 : decode Y151.2.1 53 = .ok (.aload 8, 2) := by decide +kernel
theorem d151_55 : decode Y151.2.1 55 = .ok (.invokevirtual 319, 3) := by decide +kernel
theorem d151_58 : decode Y151.2.1 58 = .ok (.iconst 1, 1) := by decide +kernel
theorem d151_59 : decode Y151.2.1 59 = .ok (.isub, 1) := by decide +kernel
theorem d151_60 : decode Y151.2.1 60 = .ok (.iand, 1) := by decide +kernel
theorem d151_61 : decode Y151.2.1 61 = .ok (.istore 9, 2) := by decide +kernel
theorem d151_63 : decode Y151.2.1 63 = .ok (.aload_n 0, 1) := by decide +kernel
theorem d151_64 : decode Y151.2.1 64 = .ok (.getfield 47, 3) := by decide +kernel
theorem d151_67 : decode Y151.2.1 67 = .ok (.iload 9, 2) := by decide +kernel
theorem d151_69 : decode Y151.2.1 69 = .ok (.iload 6, 2) := by decide +kernel
theorem d151_71 : decode Y151.2.1 71 = .ok (.invokevirtual 423, 3) := by decide +kernel
theorem d151_74 : decode Y151.2.1 74 = .ok (.iload 5, 2) := by decide +kernel
theorem d151_76 : decode Y151.2.1 76 = .ok (.if_icmp .ge 26, 3) := by decide +kernel
theorem d151_79 : decode Y151.2.1 79 = .ok (.iload 4, 2) := by decide +kernel
theorem d151_81 : decode Y151.2.1 81 = .ok (.aload 8, 2) := by decide +kernel
theorem d151_83 : decode Y151.2.1 83 = .ok (.invokevirtual 319, 3) := by decide +kernel
theorem d151_86 : decode Y151.2.1 86 = .ok (.ior, 1) := by decide +kernel
theorem d151_87 : decode Y151.2.1 87 = .ok (.istore 4, 2) := by decide +kernel
theorem d151_89 : decode Y151.2.1 89 = .ok (.iload 5, 2) := by decide +kernel
theorem d151_91 : decode Y151.2.1 91 = .ok (.aload 8, 2) := by decide +kernel
theorem d151_93 : decode Y151.2.1 93 = .ok (.getfield 294, 3) := by decide +kernel
theorem d151_96 : decode Y151.2.1 96 = .ok (.isub, 1) := by decide +kernel
theorem d151_97 : decode Y151.2.1 97 = .ok (.istore 5, 2) := by decide +kernel
theorem d151_99 : decode Y151.2.1 99 = .ok (.iinc 6 (-1), 3) := by decide +kernel
theorem d151_102 : decode Y151.2.1 102 = .ok (.iinc 7 (-1), 3) := by decide +kernel
theorem d151_105 : decode Y151.2.1 105 = .ok (.goto (-92), 3) := by decide +kernel
theorem d151_108 : decode Y151.2.1 108 = .ok (.iload 4, 2) := by decide +kernel
theorem d151_110 : decode Y151.2.1 110 = .ok (.ireturn, 1) := by decide +kernel
noncomputable def L151_13 (d : Nat) (a0 : Nat) (x1 : Int32) (x2 : Int32) (x3 : Int32) (x4 : Int32) (x5 : Int32) (x6 : Int32) (x7 : Int32) (o8 : Option ts_V) (o9 : Option ts_V) (m : lt_m) : Option lt_r := lt_run d Y151 13 [some (.inr (.inr (some a0))), some (.inl x1), some (.inl x2), some (.inl x3), some (.inl x4), some (.inl x5), some (.inl x6), some (.inl x7), o8, o9] [] m
theorem E151 (d : Nat) (a0 : Nat) (x1 : Int32) (x2 : Int32) (x3 : Int32) (h0 : ts_sh a0 = (0, 11)) (m : lt_m) : lt_ev (d + 1) 151 [.inr (.inr (some a0)), .inl x1, .inl x2, .inl x3] m = L151_13 d a0 x1 x2 x3 (0 : Int32) x2 x3 (19 : Int32) none none m := by
  refine Eq.trans (lt_enter2 (ls := [some (.inr (.inr (some a0))), some (.inl x1), some (.inl x2), some (.inl x3), none, none, none, none, none, none]) hY151 (Nat.le_of_ble_eq_true rfl) (by rfl)) ?_
  refine Eq.trans (li_iconst d151_0 ic_0) ?_
  refine Eq.trans (li_istore (ls' := [some (.inr (.inr (some a0))), some (.inl x1), some (.inl x2), some (.inl x3), some (.inl (0 : Int32)), none, none, none, none, none]) d151_1 (by decide) (by rfl)) ?_
  refine Eq.trans (li_iload_n d151_3 (by rfl)) ?_
  refine Eq.trans (li_istore (ls' := [some (.inr (.inr (some a0))), some (.inl x1), some (.inl x2), some (.inl x3), some (.inl (0 : Int32)), some (.inl x2), none, none, none, none]) d151_4 (by decide) (by rfl)) ?_
  refine Eq.trans (li_iload_n d151_6 (by rfl)) ?_
  refine Eq.trans (li_istore (ls' := [some (.inr (.inr (some a0))), some (.inl x1), some (.inl x2), some (.inl x3), some (.inl (0 : Int32)), some (.inl x2), some (.inl x3), none, none, none]) d151_7 (by decide) (by rfl)) ?_
  refine Eq.trans (li_bipush d151_9 bi_19) ?_
  refine Eq.trans (li_istore (ls' := [some (.inr (.inr (some a0))), some (.inl x1), some (.inl x2), some (.inl x3), some (.inl (0 : Int32)), some (.inl x2), some (.inl x3), some (.inl (19 : Int32)), none, none]) d151_11 (by decide) (by rfl)) ?_
  rfl
theorem E151_13 (d : Nat) (a0 : Nat) (x1 : Int32) (x2 : Int32) (x3 : Int32) (x4 : Int32) (x5 : Int32) (x6 : Int32) (x7 : Int32) (o8 : Option ts_V) (o9 : Option ts_V) (h0 : ts_sh a0 = (0, 11)) (m : lt_m) : L151_13 d a0 x1 x2 x3 x4 x5 x6 x7 o8 o9 m = if x7 < 0 then (some (some (.inl x4), m)) else (if x6 ≤ 0 then (some (some (.inl x4), m)) else (lt_cR (lt_ev d 114 [.inr (.inr (some (a0 + 13))), .inl x7] m) (fun v1 m1 => (lt_nl v1 (L151_13 d a0 x1 x2 x3 x4 x5 x6 (x7 + (-1 : Int32)) (some (.inr (.inr none))) (o9) m1) (fun q1 => (lt_gd (ts_sh q1 = (0, 4)) (lt_cI (lt_ev d 65 [.inr (.inr (some q1))] m1) (fun v2 m2 => (if ¬ (x1 &&& v2) = 0 then (lt_cI (lt_ev d 65 [.inr (.inr (some q1))] m2) (fun v3 m3 => (lt_cI (lt_ev d 150 [.inr (.inr (some (a0 + 13))), .inl (x1 &&& (v3 - (1 : Int32))), .inl x6] m3) (fun v4 m4 => (if x5 ≤ v4 then (L151_13 d a0 x1 x2 x3 x4 x5 x6 (x7 + (-1 : Int32)) (some (.inr (.inr (some q1)))) (some (.inl (x1 &&& (v3 - (1 : Int32))))) m4) else (lt_cI (lt_ev d 65 [.inr (.inr (some q1))] m4) (fun v5 m5 => (L151_13 d a0 x1 x2 x3 (x4 ||| v5) (x5 - (m5.1 q1 5)) (x6 + (-1 : Int32)) (x7 + (-1 : Int32)) (some (.inr (.inr (some q1)))) (some (.inl (x1 &&& (v3 - (1 : Int32))))) m5)))))))) else (L151_13 d a0 x1 x2 x3 x4 x5 x6 (x7 + (-1 : Int32)) (some (.inr (.inr (some q1)))) (o9) m2)))))))))) := by
  show lt_run d Y151 13 [some (.inr (.inr (some a0))), some (.inl x1), some (.inl x2), some (.inl x3), some (.inl x4), some (.inl x5), some (.inl x6), some (.inl x7), o8, o9] [] m = _
  refine Eq.trans (li_iload d151_13 (by rfl)) ?_
  refine Eq.trans (li_if_lt (t := 108) d151_15 (by rfl)) ?_
  refine lt_ite (fun c1 => ?_) (fun c1 => ?_)
  · refine Eq.trans (li_iload d151_108 (by rfl)) ?_
    exact li_iret d151_110 rfl
  · refine Eq.trans (li_iload d151_18 (by rfl)) ?_
    refine Eq.trans (li_if_le (t := 108) d151_20 (by rfl)) ?_
    refine lt_ite (fun c2 => ?_) (fun c2 => ?_)
    · refine Eq.trans (li_iload d151_108 (by rfl)) ?_
      exact li_iret d151_110 rfl
    · refine Eq.trans (li_aload_n d151_23 (by rfl)) ?_
      refine Eq.trans (li_getr d151_24 fa_11_47 h0 rfl rfl rfl (by decide)) ?_
      refine Eq.trans (li_iload d151_27 (by rfl)) ?_
      refine Eq.trans (li_ivR d151_29 ca_11_240 kd_114 kl_114 (by rfl) (by rfl) (sf_of h0 5 (by decide) (by decide)) (Nat.le_of_ble_eq_true rfl) (Nat.le_of_ble_eq_true rfl)) ?_
      refine lt_cR_c (fun v1 m1 => ?_)
      refine Eq.trans (li_astore (ls' := [some (.inr (.inr (some a0))), some (.inl x1), some (.inl x2), some (.inl x3), some (.inl x4), some (.inl x5), some (.inl x6), some (.inl x7), some (.inr (.inr v1)), o9]) d151_32 (by decide) (by rfl)) ?_
      refine Eq.trans (li_aload d151_34 (by rfl)) ?_
      refine lt_nl_x (F := fun oz => lt_run d Y151 36 [some (.inr (.inr (some a0))), some (.inl x1), some (.inl x2), some (.inl x3), some (.inl x4), some (.inl x5), some (.inl x6), some (.inl x7), some (.inr (.inr oz)), o9] [.inr (.inr oz)] m1) ?_ (fun q1 => ?_)
      · refine Eq.trans (li_ifnull_n (t := 102) d151_36 (by rfl)) ?_
        refine Eq.trans (li_iinc (ls' := [some (.inr (.inr (some a0))), some (.inl x1), some (.inl x2), some (.inl x3), some (.inl x4), some (.inl x5), some (.inl x6), some (.inl (x7 + (-1 : Int32))), some (.inr (.inr none)), o9]) d151_102 (by rfl) (by decide) ic_n1 (by rfl)) ?_
        refine Eq.trans (li_goto (t := 13) d151_105 (by rfl)) ?_
        rfl
      · refine Eq.trans (li_ifnull_s d151_36) ?_
        refine Eq.trans (li_iload_n d151_39 (by rfl)) ?_
        refine Eq.trans (li_aload d151_40 (by rfl)) ?_
        refine Eq.trans (li_ginv d151_42 ca_11_319 kl_65 (by rfl)) ?_
        refine lt_gd_c (fun g1 => ?_)
        refine Eq.trans (li_ivI d151_42 ca_11_319 kd_65 kl_65 (by rfl) (by rfl) g1 (Nat.le_of_ble_eq_true rfl) (Nat.le_of_ble_eq_true rfl)) ?_
        refine lt_cI_c (fun v2 m2 => ?_)
        refine Eq.trans (li_iand d151_45) ?_
        refine Eq.trans (li_if_ne (t := 52) d151_46 (by rfl)) ?_
        refine lt_ite (fun c3 => ?_) (fun c3 => ?_)
        · refine Eq.trans (li_iload_n d151_52 (by rfl)) ?_
          refine Eq.trans (li_aload d151_53 (by rfl)) ?_
          refine Eq.trans (li_ivI d151_55 ca_11_319 kd_65 kl_65 (by rfl) (by rfl) g1 (Nat.le_of_ble_eq_true rfl) (Nat.le_of_ble_eq_true rfl)) ?_
          refine lt_cI_c (fun v3 m3 => ?_)
          refine Eq.trans (li_iconst d151_58 ic_1) ?_
          refine Eq.trans (li_isub d151_59) ?_
          refine Eq.trans (li_iand d151_60) ?_
          refine Eq.trans (li_istore (ls' := [some (.inr (.inr (some a0))), some (.inl x1), some (.inl x2), some (.inl x3), some (.inl x4), some (.inl x5), some (.inl x6), some (.inl x7), some (.inr (.inr (some q1))), some (.inl (x1 &&& (v3 - (1 : Int32))))]) d151_61 (by decide) (by rfl)) ?_
          refine Eq.trans (li_aload_n d151_63 (by rfl)) ?_
          refine Eq.trans (li_getr d151_64 fa_11_47 h0 rfl rfl rfl (by decide)) ?_
          refine Eq.trans (li_iload d151_67 (by rfl)) ?_
          refine Eq.trans (li_iload d151_69 (by rfl)) ?_
          refine Eq.trans (li_ivI d151_71 ca_11_423 kd_150 kl_150 (by rfl) (by rfl) (sf_of h0 5 (by decide) (by decide)) (Nat.le_of_ble_eq_true rfl) (Nat.le_of_ble_eq_true rfl)) ?_
          refine lt_cI_c (fun v4 m4 => ?_)
          refine Eq.trans (li_iload d151_74 (by rfl)) ?_
          refine Eq.trans (li_icmp_ge (t := 102) d151_76 (by rfl)) ?_
          refine lt_ite (fun c4 => ?_) (fun c4 => ?_)
          · refine Eq.trans (li_iinc (ls' := [some (.inr (.inr (some a0))), some (.inl x1), some (.inl x2), some (.inl x3), some (.inl x4), some (.inl x5), some (.inl x6), some (.inl (x7 + (-1 : Int32))), some (.inr (.inr (some q1))), some (.inl (x1 &&& (v3 - (1 : Int32))))]) d151_102 (by rfl) (by decide) ic_n1 (by rfl)) ?_
            refine Eq.trans (li_goto (t := 13) d151_105 (by rfl)) ?_
            rfl
          · refine Eq.trans (li_iload d151_79 (by rfl)) ?_
            refine Eq.trans (li_aload d151_81 (by rfl)) ?_
            refine Eq.trans (li_ivI d151_83 ca_11_319 kd_65 kl_65 (by rfl) (by rfl) g1 (Nat.le_of_ble_eq_true rfl) (Nat.le_of_ble_eq_true rfl)) ?_
            refine lt_cI_c (fun v5 m5 => ?_)
            refine Eq.trans (li_ior d151_86) ?_
            refine Eq.trans (li_istore (ls' := [some (.inr (.inr (some a0))), some (.inl x1), some (.inl x2), some (.inl x3), some (.inl (x4 ||| v5)), some (.inl x5), some (.inl x6), some (.inl x7), some (.inr (.inr (some q1))), some (.inl (x1 &&& (v3 - (1 : Int32))))]) d151_87 (by decide) (by rfl)) ?_
            refine Eq.trans (li_iload d151_89 (by rfl)) ?_
            refine Eq.trans (li_aload d151_91 (by rfl)) ?_
            refine Eq.trans (li_geti d151_93 fa_11_294 g1 rfl) ?_
            refine Eq.trans (li_isub d151_96) ?_
            refine Eq.trans (li_istore (ls' := [some (.inr (.inr (some a0))), some (.inl x1), some (.inl x2), some (.inl x3), some (.inl (x4 ||| v5)), some (.inl (x5 - (m5.1 q1 5))), some (.inl x6), some (.inl x7), some (.inr (.inr (some q1))), some (.inl (x1 &&& (v3 - (1 : Int32))))]) d151_97 (by decide) (by rfl)) ?_
            refine Eq.trans (li_iinc (ls' := [some (.inr (.inr (some a0))), some (.inl x1), some (.inl x2), some (.inl x3), some (.inl (x4 ||| v5)), some (.inl (x5 - (m5.1 q1 5))), some (.inl (x6 + (-1 : Int32))), some (.inl x7), some (.inr (.inr (some q1))), some (.inl (x1 &&& (v3 - (1 : Int32))))]) d151_99 (by rfl) (by decide) ic_n1 (by rfl)) ?_
            refine Eq.trans (li_iinc (ls' := [some (.inr (.inr (some a0))), some (.inl x1), some (.inl x2), some (.inl x3), some (.inl (x4 ||| v5)), some (.inl (x5 - (m5.1 q1 5))), some (.inl (x6 + (-1 : Int32))), some (.inl (x7 + (-1 : Int32))), some (.inr (.inr (some q1))), some (.inl (x1 &&& (v3 - (1 : Int32))))]) d151_102 (by rfl) (by decide) ic_n1 (by rfl)) ?_
            refine Eq.trans (li_goto (t := 13) d151_105 (by rfl)) ?_
            rfl
        · refine Eq.trans (li_goto (t := 102) d151_49 (by rfl)) ?_
          refine Eq.trans (li_iinc (ls' := [some (.inr (.inr (some a0))), some (.inl x1), some (.inl x2), some (.inl x3), some (.inl x4), some (.inl x5), some (.inl x6), some (.inl (x7 + (-1 : Int32))), some (.inr (.inr (some q1))), o9]) d151_102 (by rfl) (by decide) ic_n1 (by rfl)) ?_
          refine Eq.trans (li_goto (t := 13) d151_105 (by rfl)) ?_
          rfl
/-! TransitSeals.when(II)I -/
theorem d152_0 : decode Y152.2.1 0 = .ok (.aload_n 0, 1) := by decide +kernel
theorem d152_1 : decode Y152.2.1 1 = .ok (.getfield 47, 3) := by decide +kernel
theorem d152_4 : decode Y152.2.1 4 = .ok (.iload_n 1, 1) := by decide +kernel
theorem d152_5 : decode Y152.2.1 5 = .ok (.invokevirtual 175, 3) := by decide +kernel
theorem d152_8 : decode Y152.2.1 8 = .ok (.ifCond .eq 10, 3) := by decide +kernel
theorem d152_11 : decode Y152.2.1 11 = .ok (.iload_n 2, 1) := by decide +kernel
theorem d152_12 : decode Y152.2.1 12 = .ok (.invokestatic 159, 3) := by decide +kernel
theorem d152_15 : decode Y152.2.1 15 = .ok (.ifCond .ne 5, 3) := by decide +kernel
theorem d152_18 : decode Y152.2.1 18 = .ok (.iconst (-1), 1) := by decide +kernel
theorem d152_19 : decode Y152.2.1 19 = .ok (.ireturn, 1) := by decide +kernel
theorem d152_20 : decode Y152.2.1 20 = .ok (.iload_n 2, 1) := by decide +kernel
theorem d152_21 : decode Y152.2.1 21 = .ok (.aload_n 0, 1) := by decide +kernel
theorem d152_22 : decode Y152.2.1 22 = .ok (.getfield 47, 3) := by decide +kernel
theorem d152_25 : decode Y152.2.1 25 = .ok (.iload_n 1, 1) := by decide +kernel
theorem d152_26 : decode Y152.2.1 26 = .ok (.invokevirtual 191, 3) := by decide +kernel
theorem d152_29 : decode Y152.2.1 29 = .ok (.isub, 1) := by decide +kernel
theorem d152_30 : decode Y152.2.1 30 = .ok (.istore_n 3, 1) := by decide +kernel
theorem d152_31 : decode Y152.2.1 31 = .ok (.iload_n 3, 1) := by decide +kernel
theorem d152_32 : decode Y152.2.1 32 = .ok (.ifCond .gt 11, 3) := by decide +kernel
theorem d152_35 : decode Y152.2.1 35 = .ok (.aload_n 0, 1) := by decide +kernel
theorem d152_36 : decode Y152.2.1 36 = .ok (.getfield 47, 3) := by decide +kernel
theorem d152_39 : decode Y152.2.1 39 = .ok (.getfield 223, 3) := by decide +kernel
theorem d152_42 : decode Y152.2.1 42 = .ok (.ireturn, 1) := by decide +kernel
theorem d152_43 : decode Y152.2.1 43 = .ok (.ldc 126, 2) := by decide +kernel
theorem d152_45 : decode Y152.2.1 45 = .ok (.istore 4, 2) := by decide +kernel
theorem d152_47 : decode Y152.2.1 47 = .ok (.aload_n 0, 1) := by decide +kernel
theorem d152_48 : decode Y152.2.1 48 = .ok (.getfield 47, 3) := by decide +kernel
theorem d152_51 : decode Y152.2.1 51 = .ok (.getfield 315, 3) := by decide +kernel
theorem d152_54 : decode Y152.2.1 54 = .ok (.astore 5, 2) := by decide +kernel
theorem d152_56 : decode Y152.2.1 56 = .ok (.aload 5, 2) := by decide +kernel
theorem d152_58 : decode Y152.2.1 58 = .ok (.arraylength, 1) := by decide +kernel
theorem d152_59 : decode Y152.2.1 59 = .ok (.istore 6, 2) := by decide +kernel
theorem d152_61 : decode Y152.2.1 61 = .ok (.iconst 0, 1) := by decide +kernel
theorem d152_62 : decode Y152.2.1 62 = .ok (.istore 7, 2) := by decide +kernel
theorem d152_64 : decode Y152.2.1 64 = .ok (.iload 7, 2) := by decide +kernel
theorem d152_66 : decode Y152.2.1 66 = .ok (.iload 6, 2) := by decide +kernel
theorem d152_68 : decode Y152.2.1 68 = .ok (.if_icmp .ge 55, 3) := by decide +kernel
theorem d152_71 : decode Y152.2.1 71 = .ok (.aload 5, 2) := by decide +kernel
theorem d152_73 : decode Y152.2.1 73 = .ok (.iload 7, 2) := by decide +kernel
theorem d152_75 : decode Y152.2.1 75 = .ok (.aaload, 1) := by decide +kernel
theorem d152_76 : decode Y152.2.1 76 = .ok (.astore 8, 2) := by decide +kernel
theorem d152_78 : decode Y152.2.1 78 = .ok (.aload 8, 2) := by decide +kernel
theorem d152_80 : decode Y152.2.1 80 = .ok (.iload_n 1, 1) := by decide +kernel
theorem d152_81 : decode Y152.2.1 81 = .ok (.invokevirtual 329, 3) := by decide +kernel
theorem d152_84 : decode Y152.2.1 84 = .ok (.ifCond .eq 33, 3) := by decide +kernel
theorem d152_87 : decode Y152.2.1 87 = .ok (.aload_n 0, 1) := by decide +kernel
theorem d152_88 : decode Y152.2.1 88 = .ok (.aload 8, 2) := by decide +kernel
theorem d152_90 : decode Y152.2.1 90 = .ok (.invokevirtual 350, 3) := by decide +kernel
theorem d152_93 : decode Y152.2.1 93 = .ok (.istore 9, 2) := by decide +kernel
theorem d152_95 : decode Y152.2.1 95 = .ok (.iload 9, 2) := by decide +kernel
theorem d152_97 : decode Y152.2.1 97 = .ok (.iload 4, 2) := by decide +kernel
theorem d152_99 : decode Y152.2.1 99 = .ok (.if_icmp .ge 18, 3) := by decide +kernel
theorem d152_102 : decode Y152.2.1 102 = .ok (.aload_n 0, 1) := by decide +kernel
theorem d152_103 : decode Y152.2.1 103 = .ok (.iload_n 1, 1) := by decide +kernel
theorem d152_104 : decode Y152.2.1 104 = .ok (.iload 9, 2) := by decide +kernel
theorem d152_106 : decode Y152.2.1 106 = .ok (.invokevirtual 353, 3) := by decide +kernel
theorem d152_109 : decode Y152.2.1 109 = .ok (.iload_n 3, 1) := by decide +kernel
theorem d152_110 : decode Y152.2.1 110 = .ok (.if_icmp .lt 7, 3) := by decide +kernel
theorem d152_113 : decode Y152.2.1 113 = .ok (.iload 9, 2) := by decide +kernel
theorem d152_115 : decode Y152.2.1 115 = .ok (.istore 4, 2) := by decide +kernel
theorem d152_117 : decode Y152.2.1 117 = .ok (.iinc 7 1, 3) := by decide +kernel
theorem d152_120 : decode Y152.2.1 120 = .ok (.goto (-56), 3) := by decide +kernel
theorem d152_123 : decode Y152.2.1 123 = .ok (.iload 4, 2) := by decide +kernel
theorem d152_125 : decode Y152.2.1 125 = .ok (.ldc 126, 2) := by decide +kernel
theorem d152_127 : decode Y152.2.1 127 = .ok (.if_icmp .ne 8, 3) := by decide +kernel
theorem d152_130 : decode Y152.2.1 130 = .ok (.bipush (-2), 2) := by decide +kernel
theorem d152_132 : decode Y152.2.1 132 = .ok (.goto 5, 3) := by decide +kernel
theorem d152_135 : decode Y152.2.1 135 = .ok (.iload 4, 2) := by decide +kernel
theorem d152_137 : decode Y152.2.1 137 = .ok (.ireturn, 1) := by decide +kernel
noncomputable def L152_64 (d : Nat) (a0 : Nat) (x1 : Int32) (x2 : Int32) (x3 : Int32) (x4 : Int32) (x7 : Int32) (o8 : Option ts_V) (o9 : Option ts_V) (m : lt_m) : Option lt_r := lt_run d Y152 64 [some (.inr (.inr (some a0))), some (.inl x1), some (.inl x2), some (.inl x3), some (.inl x4), some (.inr (.inr (some ((a0 + 13) + 3)))), some (.inl (20 : Int32)), some (.inl x7), o8, o9] [] m
theorem E152 (d : Nat) (a0 : Nat) (x1 : Int32) (x2 : Int32) (h0 : ts_sh a0 = (0, 11)) (m : lt_m) : lt_ev (d + 1) 152 [.inr (.inr (some a0)), .inl x1, .inl x2] m = lt_cI (lt_ev d 90 [.inr (.inr (some (a0 + 13))), .inl x1] m) (fun v1 m1 => (if v1 = 0 then (some (some (.inl (-1 : Int32)), m1)) else (lt_cI (lt_ev d 79 [.inl x2] m1) (fun v2 m2 => (if ¬ v2 = 0 then (lt_cI (lt_ev d 96 [.inr (.inr (some (a0 + 13))), .inl x1] m2) (fun v3 m3 => (if 0 < (x2 - v3) then (L152_64 d a0 x1 x2 (x2 - v3) (1000000 : Int32) (0 : Int32) none none m3) else (some (some (.inl (m3.1 (a0 + 13) 4)), m3))))) else (some (some (.inl (-1 : Int32)), m2))))))) := by
  refine Eq.trans (lt_enter2 (ls := [some (.inr (.inr (some a0))), some (.inl x1), some (.inl x2), none, none, none, none, none, none, none]) hY152 (Nat.le_of_ble_eq_true rfl) (by rfl)) ?_
  refine Eq.trans (li_aload_n d152_0 (by rfl)) ?_
  refine Eq.trans (li_getr d152_1 fa_11_47 h0 rfl rfl rfl (by decide)) ?_
  refine Eq.trans (li_iload_n d152_4 (by rfl)) ?_
  refine Eq.trans (li_ivI d152_5 ca_11_175 kd_90 kl_90 (by rfl) (by rfl) (sf_of h0 5 (by decide) (by decide)) (Nat.le_of_ble_eq_true rfl) (Nat.le_of_ble_eq_true rfl)) ?_
  refine lt_cI_c (fun v1 m1 => ?_)
  refine Eq.trans (li_if_eq (t := 18) d152_8 (by rfl)) ?_
  refine lt_ite (fun c1 => ?_) (fun c1 => ?_)
  · refine Eq.trans (li_iconst d152_18 ic_n1) ?_
    exact li_iret d152_19 rfl
  · refine Eq.trans (li_iload_n d152_11 (by rfl)) ?_
    refine Eq.trans (li_isI d152_12 bi_11_159 ca_11_159 kd_79 (by rfl) (by rfl) (Nat.le_of_ble_eq_true rfl) (Nat.le_of_ble_eq_true rfl)) ?_
    refine lt_cI_c (fun v2 m2 => ?_)
    refine Eq.trans (li_if_ne (t := 20) d152_15 (by rfl)) ?_
    refine lt_ite (fun c2 => ?_) (fun c2 => ?_)
    · refine Eq.trans (li_iload_n d152_20 (by rfl)) ?_
      refine Eq.trans (li_aload_n d152_21 (by rfl)) ?_
      refine Eq.trans (li_getr d152_22 fa_11_47 h0 rfl rfl rfl (by decide)) ?_
      refine Eq.trans (li_iload_n d152_25 (by rfl)) ?_
      refine Eq.trans (li_ivI d152_26 ca_11_191 kd_96 kl_96 (by rfl) (by rfl) (sf_of h0 5 (by decide) (by decide)) (Nat.le_of_ble_eq_true rfl) (Nat.le_of_ble_eq_true rfl)) ?_
      refine lt_cI_c (fun v3 m3 => ?_)
      refine Eq.trans (li_isub d152_29) ?_
      refine Eq.trans (li_istore_n (ls' := [some (.inr (.inr (some a0))), some (.inl x1), some (.inl x2), some (.inl (x2 - v3)), none, none, none, none, none, none]) d152_30 (by decide) (by rfl)) ?_
      refine Eq.trans (li_iload_n d152_31 (by rfl)) ?_
      refine Eq.trans (li_if_gt (t := 43) d152_32 (by rfl)) ?_
      refine lt_ite (fun c3 => ?_) (fun c3 => ?_)
      · refine Eq.trans (li_ldc d152_43 cI_11_126) ?_
        refine Eq.trans (li_istore (ls' := [some (.inr (.inr (some a0))), some (.inl x1), some (.inl x2), some (.inl (x2 - v3)), some (.inl (1000000 : Int32)), none, none, none, none, none]) d152_45 (by decide) (by rfl)) ?_
        refine Eq.trans (li_aload_n d152_47 (by rfl)) ?_
        refine Eq.trans (li_getr d152_48 fa_11_47 h0 rfl rfl rfl (by decide)) ?_
        refine Eq.trans (li_getr d152_51 fa_11_315 (sf_of h0 5 (by decide) (by decide)) rfl rfl rfl (by decide)) ?_
        refine Eq.trans (li_astore (ls' := [some (.inr (.inr (some a0))), some (.inl x1), some (.inl x2), some (.inl (x2 - v3)), some (.inl (1000000 : Int32)), some (.inr (.inr (some ((a0 + 13) + 3)))), none, none, none, none]) d152_54 (by decide) (by rfl)) ?_
        refine Eq.trans (li_aload d152_56 (by rfl)) ?_
        refine Eq.trans (li_alen d152_58 (sf_of (sf_of h0 5 (by decide) (by decide)) 2 (by decide) (by decide)) (by decide) (by rfl)) ?_
        refine Eq.trans (li_istore (ls' := [some (.inr (.inr (some a0))), some (.inl x1), some (.inl x2), some (.inl (x2 - v3)), some (.inl (1000000 : Int32)), some (.inr (.inr (some ((a0 + 13) + 3)))), some (.inl (20 : Int32)), none, none, none]) d152_59 (by decide) (by rfl)) ?_
        refine Eq.trans (li_iconst d152_61 ic_0) ?_
        refine Eq.trans (li_istore (ls' := [some (.inr (.inr (some a0))), some (.inl x1), some (.inl x2), some (.inl (x2 - v3)), some (.inl (1000000 : Int32)), some (.inr (.inr (some ((a0 + 13) + 3)))), some (.inl (20 : Int32)), some (.inl (0 : Int32)), none, none]) d152_62 (by decide) (by rfl)) ?_
        rfl
      · refine Eq.trans (li_aload_n d152_35 (by rfl)) ?_
        refine Eq.trans (li_getr d152_36 fa_11_47 h0 rfl rfl rfl (by decide)) ?_
        refine Eq.trans (li_geti d152_39 fa_11_223 (sf_of h0 5 (by decide) (by decide)) rfl) ?_
        exact li_iret d152_42 rfl
    · refine Eq.trans (li_iconst d152_18 ic_n1) ?_
      exact li_iret d152_19 rfl
theorem E152_64 (d : Nat) (a0 : Nat) (x1 : Int32) (x2 : Int32) (x3 : Int32) (x4 : Int32) (x7 : Int32) (o8 : Option ts_V) (o9 : Option ts_V) (h0 : ts_sh a0 = (0, 11)) (m : lt_m) : L152_64 d a0 x1 x2 x3 x4 x7 o8 o9 m = if (20 : Int32) ≤ x7 then (if ¬ x4 = (1000000 : Int32) then (some (some (.inl x4), m)) else (some (some (.inl (-2 : Int32)), m))) else (lt_gd (0 ≤ x7 ∧ (x7).toNatClampNeg < 20) (lt_cI (lt_ev d 92 [.inr (.inr (some (((a0 + 13) + 3) + 5 + 3 * (x7).toNatClampNeg))), .inl x1] m) (fun v1 m1 => (if v1 = 0 then (L152_64 d a0 x1 x2 x3 x4 (x7 + (1 : Int32)) (some (.inr (.inr (some (((a0 + 13) + 3) + 5 + 3 * (x7).toNatClampNeg))))) (o9) m1) else (lt_cI (lt_ev d 153 [.inr (.inr (some a0)), .inr (.inr (some (((a0 + 13) + 3) + 5 + 3 * (x7).toNatClampNeg)))] m1) (fun v2 m2 => (if x4 ≤ v2 then (L152_64 d a0 x1 x2 x3 x4 (x7 + (1 : Int32)) (some (.inr (.inr (some (((a0 + 13) + 3) + 5 + 3 * (x7).toNatClampNeg))))) (some (.inl v2)) m2) else (lt_cI (lt_ev d 154 [.inr (.inr (some a0)), .inl x1, .inl v2] m2) (fun v3 m3 => (if v3 < x3 then (L152_64 d a0 x1 x2 x3 x4 (x7 + (1 : Int32)) (some (.inr (.inr (some (((a0 + 13) + 3) + 5 + 3 * (x7).toNatClampNeg))))) (some (.inl v2)) m3) else (L152_64 d a0 x1 x2 x3 v2 (x7 + (1 : Int32)) (some (.inr (.inr (some (((a0 + 13) + 3) + 5 + 3 * (x7).toNatClampNeg))))) (some (.inl v2)) m3))))))))))) := by
  show lt_run d Y152 64 [some (.inr (.inr (some a0))), some (.inl x1), some (.inl x2), some (.inl x3), some (.inl x4), some (.inr (.inr (some ((a0 + 13) + 3)))), some (.inl (20 : Int32)), some (.inl x7), o8, o9] [] m = _
  refine Eq.trans (li_iload d152_64 (by rfl)) ?_
  refine Eq.trans (li_iload d152_66 (by rfl)) ?_
  refine Eq.trans (li_icmp_ge (t := 123) d152_68 (by rfl)) ?_
  refine lt_ite (fun c1 => ?_) (fun c1 => ?_)
  · refine Eq.trans (li_iload d152_123 (by rfl)) ?_
    refine Eq.trans (li_ldc d152_125 cI_11_126) ?_
    refine Eq.trans (li_icmp_ne (t := 135) d152_127 (by rfl)) ?_
    refine lt_ite (fun c2 => ?_) (fun c2 => ?_)
    · refine Eq.trans (li_iload d152_135 (by rfl)) ?_
      exact li_iret d152_137 rfl
    · refine Eq.trans (li_bipush d152_130 bi_n2) ?_
      refine Eq.trans (li_goto (t := 137) d152_132 (by rfl)) ?_
      exact li_iret d152_137 rfl
  · refine Eq.trans (li_aload d152_71 (by rfl)) ?_
    refine Eq.trans (li_iload d152_73 (by rfl)) ?_
    refine Eq.trans (li_aald4 d152_75 (sf_of (sf_of h0 5 (by decide) (by decide)) 2 (by decide) (by decide))) ?_
    refine lt_gd_c (fun g1 => ?_)
    refine Eq.trans (li_astore (ls' := [some (.inr (.inr (some a0))), some (.inl x1), some (.inl x2), some (.inl x3), some (.inl x4), some (.inr (.inr (some ((a0 + 13) + 3)))), some (.inl (20 : Int32)), some (.inl x7), some (.inr (.inr (some (((a0 + 13) + 3) + 5 + 3 * (x7).toNatClampNeg)))), o9]) d152_76 (by decide) (by rfl)) ?_
    refine Eq.trans (li_aload d152_78 (by rfl)) ?_
    refine Eq.trans (li_iload_n d152_80 (by rfl)) ?_
    refine Eq.trans (li_ivI d152_81 ca_11_329 kd_92 kl_92 (by rfl) (by rfl) (sm_4 (sf_of (sf_of h0 5 (by decide) (by decide)) 2 (by decide) (by decide)) g1.2) (Nat.le_of_ble_eq_true rfl) (Nat.le_of_ble_eq_true rfl)) ?_
    refine lt_cI_c (fun v1 m1 => ?_)
    refine Eq.trans (li_if_eq (t := 117) d152_84 (by rfl)) ?_
    refine lt_ite (fun c3 => ?_) (fun c3 => ?_)
    · refine Eq.trans (li_iinc (ls' := [some (.inr (.inr (some a0))), some (.inl x1), some (.inl x2), some (.inl x3), some (.inl x4), some (.inr (.inr (some ((a0 + 13) + 3)))), some (.inl (20 : Int32)), some (.inl (x7 + (1 : Int32))), some (.inr (.inr (some (((a0 + 13) + 3) + 5 + 3 * (x7).toNatClampNeg)))), o9]) d152_117 (by rfl) (by decide) ic_1 (by rfl)) ?_
      refine Eq.trans (li_goto (t := 64) d152_120 (by rfl)) ?_
      rfl
    · refine Eq.trans (li_aload_n d152_87 (by rfl)) ?_
      refine Eq.trans (li_aload d152_88 (by rfl)) ?_
      refine Eq.trans (li_ivI d152_90 ca_11_350 kd_153 kl_153 (by rfl) (by rfl) h0 (Nat.le_of_ble_eq_true rfl) (Nat.le_of_ble_eq_true rfl)) ?_
      refine lt_cI_c (fun v2 m2 => ?_)
      refine Eq.trans (li_istore (ls' := [some (.inr (.inr (some a0))), some (.inl x1), some (.inl x2), some (.inl x3), some (.inl x4), some (.inr (.inr (some ((a0 + 13) + 3)))), some (.inl (20 : Int32)), some (.inl x7), some (.inr (.inr (some (((a0 + 13) + 3) + 5 + 3 * (x7).toNatClampNeg)))), some (.inl v2)]) d152_93 (by decide) (by rfl)) ?_
      refine Eq.trans (li_iload d152_95 (by rfl)) ?_
      refine Eq.trans (li_iload d152_97 (by rfl)) ?_
      refine Eq.trans (li_icmp_ge (t := 117) d152_99 (by rfl)) ?_
      refine lt_ite (fun c4 => ?_) (fun c4 => ?_)
      · refine Eq.trans (li_iinc (ls' := [some (.inr (.inr (some a0))), some (.inl x1), some (.inl x2), some (.inl x3), some (.inl x4), some (.inr (.inr (some ((a0 + 13) + 3)))), some (.inl (20 : Int32)), some (.inl (x7 + (1 : Int32))), some (.inr (.inr (some (((a0 + 13) + 3) + 5 + 3 * (x7).toNatClampNeg)))), some (.inl v2)]) d152_117 (by rfl) (by decide) ic_1 (by rfl)) ?_
        refine Eq.trans (li_goto (t := 64) d152_120 (by rfl)) ?_
        rfl
      · refine Eq.trans (li_aload_n d152_102 (by rfl)) ?_
        refine Eq.trans (li_iload_n d152_103 (by rfl)) ?_
        refine Eq.trans (li_iload d152_104 (by rfl)) ?_
        refine Eq.trans (li_ivI d152_106 ca_11_353 kd_154 kl_154 (by rfl) (by rfl) h0 (Nat.le_of_ble_eq_true rfl) (Nat.le_of_ble_eq_true rfl)) ?_
        refine lt_cI_c (fun v3 m3 => ?_)
        refine Eq.trans (li_iload_n d152_109 (by rfl)) ?_
        refine Eq.trans (li_icmp_lt (t := 117) d152_110 (by rfl)) ?_
        refine lt_ite (fun c5 => ?_) (fun c5 => ?_)
        · refine Eq.trans (li_iinc (ls' := [some (.inr (.inr (some a0))), some (.inl x1), some (.inl x2), some (.inl x3), some (.inl x4), some (.inr (.inr (some ((a0 + 13) + 3)))), some (.inl (20 : Int32)), some (.inl (x7 + (1 : Int32))), some (.inr (.inr (some (((a0 + 13) + 3) + 5 + 3 * (x7).toNatClampNeg)))), some (.inl v2)]) d152_117 (by rfl) (by decide) ic_1 (by rfl)) ?_
          refine Eq.trans (li_goto (t := 64) d152_120 (by rfl)) ?_
          rfl
        · refine Eq.trans (li_iload d152_113 (by rfl)) ?_
          refine Eq.trans (li_istore (ls' := [some (.inr (.inr (some a0))), some (.inl x1), some (.inl x2), some (.inl x3), some (.inl v2), some (.inr (.inr (some ((a0 + 13) + 3)))), some (.inl (20 : Int32)), some (.inl x7), some (.inr (.inr (some (((a0 + 13) + 3) + 5 + 3 * (x7).toNatClampNeg)))), some (.inl v2)]) d152_115 (by decide) (by rfl)) ?_
          refine Eq.trans (li_iinc (ls' := [some (.inr (.inr (some a0))), some (.inl x1), some (.inl x2), some (.inl x3), some (.inl v2), some (.inr (.inr (some ((a0 + 13) + 3)))), some (.inl (20 : Int32)), some (.inl (x7 + (1 : Int32))), some (.inr (.inr (some (((a0 + 13) + 3) + 5 + 3 * (x7).toNatClampNeg)))), some (.inl v2)]) d152_117 (by rfl) (by decide) ic_1 (by rfl)) ?_
          refine Eq.trans (li_goto (t := 64) d152_120 (by rfl)) ?_
          rfl
/-! TransitSeals.closingHour(LTransitSeals$Movement;)I -/
theorem d153_0 : decode Y153.2.1 0 = .ok (.aload_n 1, 1) := by decide +kernel
theorem d153_1 : decode Y153.2.1 1 = .ok (.getfield 269, 3) := by decide +kernel
theorem d153_4 : decode Y153.2.1 4 = .ok (.iconst 1, 1) := by decide +kernel
theorem d153_5 : decode Y153.2.1 5 = .ok (.if_icmp .ne 11, 3) := by decide +kernel
theorem d153_8 : decode Y153.2.1 8 = .ok (.aload_n 0, 1) := by decide +kernel
theorem d153_9 : decode Y153.2.1 9 = .ok (.getfield 47, 3) := by decide +kernel
theorem d153_12 : decode Y153.2.1 12 = .ok (.getfield 223, 3) := by decide +kernel
theorem d153_15 : decode Y153.2.1 15 = .ok (.ireturn, 1) := by decide +kernel
theorem d153_16 : decode Y153.2.1 16 = .ok (.aload_n 0, 1) := by decide +kernel
theorem d153_17 : decode Y153.2.1 17 = .ok (.aload_n 1, 1) := by decide +kernel
theorem d153_18 : decode Y153.2.1 18 = .ok (.invokevirtual 417, 3) := by decide +kernel
theorem d153_21 : decode Y153.2.1 21 = .ok (.istore_n 2, 1) := by decide +kernel
theorem d153_22 : decode Y153.2.1 22 = .ok (.aload_n 1, 1) := by decide +kernel
theorem d153_23 : decode Y153.2.1 23 = .ok (.getfield 269, 3) := by decide +kernel
theorem d153_26 : decode Y153.2.1 26 = .ok (.ifCond .ne 11, 3) := by decide +kernel
theorem d153_29 : decode Y153.2.1 29 = .ok (.iload_n 2, 1) := by decide +kernel
theorem d153_30 : decode Y153.2.1 30 = .ok (.aload_n 1, 1) := by decide +kernel
theorem d153_31 : decode Y153.2.1 31 = .ok (.getfield 296, 3) := by decide +kernel
theorem d153_34 : decode Y153.2.1 34 = .ok (.if_icmp .le 6, 3) := by decide +kernel
theorem d153_37 : decode Y153.2.1 37 = .ok (.ldc 126, 2) := by decide +kernel
theorem d153_39 : decode Y153.2.1 39 = .ok (.ireturn, 1) := by decide +kernel
theorem d153_40 : decode Y153.2.1 40 = .ok (.aload_n 0, 1) := by decide +kernel
theorem d153_41 : decode Y153.2.1 41 = .ok (.getfield 47, 3) := by decide +kernel
theorem d153_44 : decode Y153.2.1 44 = .ok (.getfield 223, 3) := by decide +kernel
theorem d153_47 : decode Y153.2.1 47 = .ok (.iload_n 2, 1) := by decide +kernel
theorem d153_48 : decode Y153.2.1 48 = .ok (.invokestatic 420, 3) := by decide +kernel
theorem d153_51 : decode Y153.2.1 51 = .ok (.ireturn, 1) := by decide +kernel
theorem E153 (d : Nat) (a0 : Nat) (a1 : Nat) (h0 : ts_sh a0 = (0, 11)) (h1 : ts_sh a1 = (0, 4)) (m : lt_m) : lt_ev (d + 1) 153 [.inr (.inr (some a0)), .inr (.inr (some a1))] m = if ¬ (m.1 a1 7) = (1 : Int32) then (lt_cI (lt_ev d 142 [.inr (.inr (some a0)), .inr (.inr (some a1))] m) (fun v1 m1 => (if ¬ (m1.1 a1 7) = 0 then (some (some (.inl (1000000 : Int32)), m1)) else (if v1 ≤ (m1.1 a1 6) then (some (some (.inl (lm_max (m1.1 (a0 + 13) 4) v1)), m1)) else (some (some (.inl (1000000 : Int32)), m1)))))) else (some (some (.inl (m.1 (a0 + 13) 4)), m)) := by
  refine Eq.trans (lt_enter2 (ls := [some (.inr (.inr (some a0))), some (.inr (.inr (some a1))), none]) hY153 (Nat.le_of_ble_eq_true rfl) (by rfl)) ?_
  refine Eq.trans (li_aload_n d153_0 (by rfl)) ?_
  refine Eq.trans (li_geti d153_1 fa_11_269 h1 rfl) ?_
  refine Eq.trans (li_iconst d153_4 ic_1) ?_
  refine Eq.trans (li_icmp_ne (t := 16) d153_5 (by rfl)) ?_
  refine lt_ite (fun c1 => ?_) (fun c1 => ?_)
  · refine Eq.trans (li_aload_n d153_16 (by rfl)) ?_
    refine Eq.trans (li_aload_n d153_17 (by rfl)) ?_
    refine Eq.trans (li_ivI d153_18 ca_11_417 kd_142 kl_142 (by rfl) (by rfl) h0 (Nat.le_of_ble_eq_true rfl) (Nat.le_of_ble_eq_true rfl)) ?_
    refine lt_cI_c (fun v1 m1 => ?_)
    refine Eq.trans (li_istore_n (ls' := [some (.inr (.inr (some a0))), some (.inr (.inr (some a1))), some (.inl v1)]) d153_21 (by decide) (by rfl)) ?_
    refine Eq.trans (li_aload_n d153_22 (by rfl)) ?_
    refine Eq.trans (li_geti d153_23 fa_11_269 h1 rfl) ?_
    refine Eq.trans (li_if_ne (t := 37) d153_26 (by rfl)) ?_
    refine lt_ite (fun c2 => ?_) (fun c2 => ?_)
    · refine Eq.trans (li_ldc d153_37 cI_11_126) ?_
      exact li_iret d153_39 rfl
    · refine Eq.trans (li_iload_n d153_29 (by rfl)) ?_
      refine Eq.trans (li_aload_n d153_30 (by rfl)) ?_
      refine Eq.trans (li_geti d153_31 fa_11_296 h1 rfl) ?_
      refine Eq.trans (li_icmp_le (t := 40) d153_34 (by rfl)) ?_
      refine lt_ite (fun c3 => ?_) (fun c3 => ?_)
      · refine Eq.trans (li_aload_n d153_40 (by rfl)) ?_
        refine Eq.trans (li_getr d153_41 fa_11_47 h0 rfl rfl rfl (by decide)) ?_
        refine Eq.trans (li_geti d153_44 fa_11_223 (sf_of h0 5 (by decide) (by decide)) rfl) ?_
        refine Eq.trans (li_iload_n d153_47 (by rfl)) ?_
        refine Eq.trans (li_max d153_48 bi_11_420 (Nat.le_of_ble_eq_true rfl)) ?_
        exact li_iret d153_51 rfl
      · refine Eq.trans (li_ldc d153_37 cI_11_126) ?_
        exact li_iret d153_39 rfl
  · refine Eq.trans (li_aload_n d153_8 (by rfl)) ?_
    refine Eq.trans (li_getr d153_9 fa_11_47 h0 rfl rfl rfl (by decide)) ?_
    refine Eq.trans (li_geti d153_12 fa_11_223 (sf_of h0 5 (by decide) (by decide)) rfl) ?_
    exact li_iret d153_15 rfl

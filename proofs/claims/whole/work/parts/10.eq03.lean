/-! ===== equations of methods ===== -/
/-! TransitSeals.states(I)I -/
theorem d137_0 : decode Y137.2.1 0 = .ok (.iload_n 1, 1) := by decide +kernel
theorem d137_1 : decode Y137.2.1 1 = .ok (.ifCond .lt 8, 3) := by decide +kernel
theorem d137_4 : decode Y137.2.1 4 = .ok (.iload_n 1, 1) := by decide +kernel
theorem d137_5 : decode Y137.2.1 5 = .ok (.iconst 5, 1) := by decide +kernel
theorem d137_6 : decode Y137.2.1 6 = .ok (.if_icmp .le 5, 3) := by decide +kernel
theorem d137_9 : decode Y137.2.1 9 = .ok (.iconst (-1), 1) := by decide +kernel
theorem d137_10 : decode Y137.2.1 10 = .ok (.ireturn, 1) := by decide +kernel
theorem d137_11 : decode Y137.2.1 11 = .ok (.iconst 0, 1) := by decide +kernel
theorem d137_12 : decode Y137.2.1 12 = .ok (.istore_n 2, 1) := by decide +kernel
theorem d137_13 : decode Y137.2.1 13 = .ok (.iconst 0, 1) := by decide +kernel
theorem d137_14 : decode Y137.2.1 14 = .ok (.istore_n 3, 1) := by decide +kernel
theorem d137_15 : decode Y137.2.1 15 = .ok (.aload_n 0, 1) := by decide +kernel
theorem d137_16 : decode Y137.2.1 16 = .ok (.getfield 47, 3) := by decide +kernel
theorem d137_19 : decode Y137.2.1 19 = .ok (.getfield 315, 3) := by decide +kernel
theorem d137_22 : decode Y137.2.1 22 = .ok (.astore 4, 2) := by decide +kernel
theorem d137_24 : decode Y137.2.1 24 = .ok (.aload 4, 2) := by decide +kernel
theorem d137_26 : decode Y137.2.1 26 = .ok (.arraylength, 1) := by decide +kernel
theorem d137_27 : decode Y137.2.1 27 = .ok (.istore 5, 2) := by decide +kernel
theorem d137_29 : decode Y137.2.1 29 = .ok (.iconst 0, 1) := by decide +kernel
theorem d137_30 : decode Y137.2.1 30 = .ok (.istore 6, 2) := by decide +kernel
theorem d137_32 : decode Y137.2.1 32 = .ok (.iload 6, 2) := by decide +kernel
theorem d137_34 : decode Y137.2.1 34 = .ok (.iload 5, 2) := by decide +kernel
theorem d137_36 : decode Y137.2.1 36 = .ok (.if_icmp .ge 41, 3) := by decide +kernel
theorem d137_39 : decode Y137.2.1 39 = .ok (.aload 4, 2) := by decide +kernel
theorem d137_41 : decode Y137.2.1 41 = .ok (.iload 6, 2) := by decide +kernel
theorem d137_43 : decode Y137.2.1 43 = .ok (.aaload, 1) := by decide +kernel
theorem d137_44 : decode Y137.2.1 44 = .ok (.astore 7, 2) := by decide +kernel
theorem d137_46 : decode Y137.2.1 46 = .ok (.aload 7, 2) := by decide +kernel
theorem d137_48 : decode Y137.2.1 48 = .ok (.getfield 269, 3) := by decide +kernel
theorem d137_51 : decode Y137.2.1 51 = .ok (.iload_n 1, 1) := by decide +kernel
theorem d137_52 : decode Y137.2.1 52 = .ok (.if_icmp .ne 19, 3) := by decide +kernel
theorem d137_55 : decode Y137.2.1 55 = .ok (.iload_n 2, 1) := by decide +kernel
theorem d137_56 : decode Y137.2.1 56 = .ok (.aload 7, 2) := by decide +kernel
theorem d137_58 : decode Y137.2.1 58 = .ok (.invokevirtual 319, 3) := by decide +kernel
theorem d137_61 : decode Y137.2.1 61 = .ok (.ior, 1) := by decide +kernel
theorem d137_62 : decode Y137.2.1 62 = .ok (.istore_n 2, 1) := by decide +kernel
theorem d137_63 : decode Y137.2.1 63 = .ok (.iload_n 3, 1) := by decide +kernel
theorem d137_64 : decode Y137.2.1 64 = .ok (.aload 7, 2) := by decide +kernel
theorem d137_66 : decode Y137.2.1 66 = .ok (.getfield 294, 3) := by decide +kernel
theorem d137_69 : decode Y137.2.1 69 = .ok (.iadd, 1) := by decide +kernel
theorem d137_70 : decode Y137.2.1 70 = .ok (.istore_n 3, 1) := by decide +kernel
theorem d137_71 : decode Y137.2.1 71 = .ok (.iinc 6 1, 3) := by decide +kernel
theorem d137_74 : decode Y137.2.1 74 = .ok (.goto (-42), 3) := by decide +kernel
theorem d137_77 : decode Y137.2.1 77 = .ok (.aload_n 0, 1) := by decide +kernel
theorem d137_78 : decode Y137.2.1 78 = .ok (.iload_n 2, 1) := by decide +kernel
theorem d137_79 : decode Y137.2.1 79 = .ok (.invokestatic 152, 3) := by decide +kernel
theorem d137_82 : decode Y137.2.1 82 = .ok (.iload_n 3, 1) := by decide +kernel
theorem d137_83 : decode Y137.2.1 83 = .ok (.invokevirtual 144, 3) := by decide +kernel
theorem d137_86 : decode Y137.2.1 86 = .ok (.iload_n 2, 1) := by decide +kernel
theorem d137_87 : decode Y137.2.1 87 = .ok (.ireturn, 1) := by decide +kernel
noncomputable def L137_32 (d : Nat) (a0 : Nat) (x1 : Int32) (x2 : Int32) (x3 : Int32) (x6 : Int32) (o7 : Option ts_V) (m : lt_m) : Option lt_r := lt_run d Y137 32 [some (.inr (.inr (some a0))), some (.inl x1), some (.inl x2), some (.inl x3), some (.inr (.inr (some ((a0 + 13) + 3)))), some (.inl (20 : Int32)), some (.inl x6), o7] [] m
theorem E137 (d : Nat) (a0 : Nat) (x1 : Int32) (h0 : ts_sh a0 = (0, 11)) (m : lt_m) : lt_ev (d + 1) 137 [.inr (.inr (some a0)), .inl x1] m = if x1 < 0 then (some (some (.inl (-1 : Int32)), m)) else (if x1 ≤ (5 : Int32) then (L137_32 d a0 x1 (0 : Int32) (0 : Int32) (0 : Int32) none m) else (some (some (.inl (-1 : Int32)), m))) := by
  refine Eq.trans (lt_enter2 (ls := [some (.inr (.inr (some a0))), some (.inl x1), none, none, none, none, none, none]) hY137 (Nat.le_of_ble_eq_true rfl) (by rfl)) ?_
  refine Eq.trans (li_iload_n d137_0 (by rfl)) ?_
  refine Eq.trans (li_if_lt (t := 9) d137_1 (by rfl)) ?_
  refine lt_ite (fun c1 => ?_) (fun c1 => ?_)
  · refine Eq.trans (li_iconst d137_9 ic_n1) ?_
    exact li_iret d137_10 rfl
  · refine Eq.trans (li_iload_n d137_4 (by rfl)) ?_
    refine Eq.trans (li_iconst d137_5 ic_5) ?_
    refine Eq.trans (li_icmp_le (t := 11) d137_6 (by rfl)) ?_
    refine lt_ite (fun c2 => ?_) (fun c2 => ?_)
    · refine Eq.trans (li_iconst d137_11 ic_0) ?_
      refine Eq.trans (li_istore_n (ls' := [some (.inr (.inr (some a0))), some (.inl x1), some (.inl (0 : Int32)), none, none, none, none, none]) d137_12 (by decide) (by rfl)) ?_
      refine Eq.trans (li_iconst d137_13 ic_0) ?_
      refine Eq.trans (li_istore_n (ls' := [some (.inr (.inr (some a0))), some (.inl x1), some (.inl (0 : Int32)), some (.inl (0 : Int32)), none, none, none, none]) d137_14 (by decide) (by rfl)) ?_
      refine Eq.trans (li_aload_n d137_15 (by rfl)) ?_
      refine Eq.trans (li_getr d137_16 fa_11_47 h0 rfl rfl rfl (by decide)) ?_
      refine Eq.trans (li_getr d137_19 fa_11_315 (sf_of h0 5 (by decide) (by decide)) rfl rfl rfl (by decide)) ?_
      refine Eq.trans (li_astore (ls' := [some (.inr (.inr (some a0))), some (.inl x1), some (.inl (0 : Int32)), some (.inl (0 : Int32)), some (.inr (.inr (some ((a0 + 13) + 3)))), none, none, none]) d137_22 (by decide) (by rfl)) ?_
      refine Eq.trans (li_aload d137_24 (by rfl)) ?_
      refine Eq.trans (li_alen d137_26 (sf_of (sf_of h0 5 (by decide) (by decide)) 2 (by decide) (by decide)) (by decide) (by rfl)) ?_
      refine Eq.trans (li_istore (ls' := [some (.inr (.inr (some a0))), some (.inl x1), some (.inl (0 : Int32)), some (.inl (0 : Int32)), some (.inr (.inr (some ((a0 + 13) + 3)))), some (.inl (20 : Int32)), none, none]) d137_27 (by decide) (by rfl)) ?_
      refine Eq.trans (li_iconst d137_29 ic_0) ?_
      refine Eq.trans (li_istore (ls' := [some (.inr (.inr (some a0))), some (.inl x1), some (.inl (0 : Int32)), some (.inl (0 : Int32)), some (.inr (.inr (some ((a0 + 13) + 3)))), some (.inl (20 : Int32)), some (.inl (0 : Int32)), none]) d137_30 (by decide) (by rfl)) ?_
      rfl
    · refine Eq.trans (li_iconst d137_9 ic_n1) ?_
      exact li_iret d137_10 rfl
theorem E137_32 (d : Nat) (a0 : Nat) (x1 : Int32) (x2 : Int32) (x3 : Int32) (x6 : Int32) (o7 : Option ts_V) (h0 : ts_sh a0 = (0, 11)) (m : lt_m) : L137_32 d a0 x1 x2 x3 x6 o7 m = if (20 : Int32) ≤ x6 then (lt_cI (lt_ev d 60 [.inl x2] m) (fun v1 m1 => (lt_cV (lt_ev d 74 [.inr (.inr (some a0)), .inl v1, .inl x3] m1) (fun m2 => (some (some (.inl x2), m2)))))) else (lt_gd (0 ≤ x6 ∧ (x6).toNatClampNeg < 20) (if ¬ (m.1 (((a0 + 13) + 3) + 5 + 3 * (x6).toNatClampNeg) 7) = x1 then (L137_32 d a0 x1 x2 x3 (x6 + (1 : Int32)) (some (.inr (.inr (some (((a0 + 13) + 3) + 5 + 3 * (x6).toNatClampNeg))))) m) else (lt_cI (lt_ev d 65 [.inr (.inr (some (((a0 + 13) + 3) + 5 + 3 * (x6).toNatClampNeg)))] m) (fun v2 m3 => (L137_32 d a0 x1 (x2 ||| v2) (x3 + (m3.1 (((a0 + 13) + 3) + 5 + 3 * (x6).toNatClampNeg) 5)) (x6 + (1 : Int32)) (some (.inr (.inr (some (((a0 + 13) + 3) + 5 + 3 * (x6).toNatClampNeg))))) m3))))) := by
  show lt_run d Y137 32 [some (.inr (.inr (some a0))), some (.inl x1), some (.inl x2), some (.inl x3), some (.inr (.inr (some ((a0 + 13) + 3)))), some (.inl (20 : Int32)), some (.inl x6), o7] [] m = _
  refine Eq.trans (li_iload d137_32 (by rfl)) ?_
  refine Eq.trans (li_iload d137_34 (by rfl)) ?_
  refine Eq.trans (li_icmp_ge (t := 77) d137_36 (by rfl)) ?_
  refine lt_ite (fun c1 => ?_) (fun c1 => ?_)
  · refine Eq.trans (li_aload_n d137_77 (by rfl)) ?_
    refine Eq.trans (li_iload_n d137_78 (by rfl)) ?_
    refine Eq.trans (li_isI d137_79 bi_11_152 ca_11_152 kd_60 (by rfl) (by rfl) (Nat.le_of_ble_eq_true rfl) (Nat.le_of_ble_eq_true rfl)) ?_
    refine lt_cI_c (fun v1 m1 => ?_)
    refine Eq.trans (li_iload_n d137_82 (by rfl)) ?_
    refine Eq.trans (li_ivV d137_83 ca_11_144 kd_74 kl_74 (by rfl) (by rfl) h0 (Nat.le_of_ble_eq_true rfl) (Nat.le_of_ble_eq_true rfl)) ?_
    refine lt_cV_c (fun m2 => ?_)
    refine Eq.trans (li_iload_n d137_86 (by rfl)) ?_
    exact li_iret d137_87 rfl
  · refine Eq.trans (li_aload d137_39 (by rfl)) ?_
    refine Eq.trans (li_iload d137_41 (by rfl)) ?_
    refine Eq.trans (li_aald4 d137_43 (sf_of (sf_of h0 5 (by decide) (by decide)) 2 (by decide) (by decide))) ?_
    refine lt_gd_c (fun g1 => ?_)
    refine Eq.trans (li_astore (ls' := [some (.inr (.inr (some a0))), some (.inl x1), some (.inl x2), some (.inl x3), some (.inr (.inr (some ((a0 + 13) + 3)))), some (.inl (20 : Int32)), some (.inl x6), some (.inr (.inr (some (((a0 + 13) + 3) + 5 + 3 * (x6).toNatClampNeg))))]) d137_44 (by decide) (by rfl)) ?_
    refine Eq.trans (li_aload d137_46 (by rfl)) ?_
    refine Eq.trans (li_geti d137_48 fa_11_269 (sm_4 (sf_of (sf_of h0 5 (by decide) (by decide)) 2 (by decide) (by decide)) g1.2) rfl) ?_
    refine Eq.trans (li_iload_n d137_51 (by rfl)) ?_
    refine Eq.trans (li_icmp_ne (t := 71) d137_52 (by rfl)) ?_
    refine lt_ite (fun c2 => ?_) (fun c2 => ?_)
    · refine Eq.trans (li_iinc (ls' := [some (.inr (.inr (some a0))), some (.inl x1), some (.inl x2), some (.inl x3), some (.inr (.inr (some ((a0 + 13) + 3)))), some (.inl (20 : Int32)), some (.inl (x6 + (1 : Int32))), some (.inr (.inr (some (((a0 + 13) + 3) + 5 + 3 * (x6).toNatClampNeg))))]) d137_71 (by rfl) (by decide) ic_1 (by rfl)) ?_
      refine Eq.trans (li_goto (t := 32) d137_74 (by rfl)) ?_
      rfl
    · refine Eq.trans (li_iload_n d137_55 (by rfl)) ?_
      refine Eq.trans (li_aload d137_56 (by rfl)) ?_
      refine Eq.trans (li_ivI d137_58 ca_11_319 kd_65 kl_65 (by rfl) (by rfl) (sm_4 (sf_of (sf_of h0 5 (by decide) (by decide)) 2 (by decide) (by decide)) g1.2) (Nat.le_of_ble_eq_true rfl) (Nat.le_of_ble_eq_true rfl)) ?_
      refine lt_cI_c (fun v2 m3 => ?_)
      refine Eq.trans (li_ior d137_61) ?_
      refine Eq.trans (li_istore_n (ls' := [some (.inr (.inr (some a0))), some (.inl x1), some (.inl (x2 ||| v2)), some (.inl x3), some (.inr (.inr (some ((a0 + 13) + 3)))), some (.inl (20 : Int32)), some (.inl x6), some (.inr (.inr (some (((a0 + 13) + 3) + 5 + 3 * (x6).toNatClampNeg))))]) d137_62 (by decide) (by rfl)) ?_
      refine Eq.trans (li_iload_n d137_63 (by rfl)) ?_
      refine Eq.trans (li_aload d137_64 (by rfl)) ?_
      refine Eq.trans (li_geti d137_66 fa_11_294 (sm_4 (sf_of (sf_of h0 5 (by decide) (by decide)) 2 (by decide) (by decide)) g1.2) rfl) ?_
      refine Eq.trans (li_iadd d137_69) ?_
      refine Eq.trans (li_istore_n (ls' := [some (.inr (.inr (some a0))), some (.inl x1), some (.inl (x2 ||| v2)), some (.inl (x3 + (m3.1 (((a0 + 13) + 3) + 5 + 3 * (x6).toNatClampNeg) 5))), some (.inr (.inr (some ((a0 + 13) + 3)))), some (.inl (20 : Int32)), some (.inl x6), some (.inr (.inr (some (((a0 + 13) + 3) + 5 + 3 * (x6).toNatClampNeg))))]) d137_70 (by decide) (by rfl)) ?_
      refine Eq.trans (li_iinc (ls' := [some (.inr (.inr (some a0))), some (.inl x1), some (.inl (x2 ||| v2)), some (.inl (x3 + (m3.1 (((a0 + 13) + 3) + 5 + 3 * (x6).toNatClampNeg) 5))), some (.inr (.inr (some ((a0 + 13) + 3)))), some (.inl (20 : Int32)), some (.inl (x6 + (1 : Int32))), some (.inr (.inr (some (((a0 + 13) + 3) + 5 + 3 * (x6).toNatClampNeg))))]) d137_71 (by rfl) (by decide) ic_1 (by rfl)) ?_
      refine Eq.trans (li_goto (t := 32) d137_74 (by rfl)) ?_
      rfl
/-! TransitSeals.owed(I)I -/
theorem d138_0 : decode Y138.2.1 0 = .ok (.iload_n 1, 1) := by decide +kernel
theorem d138_1 : decode Y138.2.1 1 = .ok (.ifCond .lt 9, 3) := by decide +kernel
theorem d138_4 : decode Y138.2.1 4 = .ok (.iload_n 1, 1) := by decide +kernel
theorem d138_5 : decode Y138.2.1 5 = .ok (.bipush 6, 2) := by decide +kernel
theorem d138_7 : decode Y138.2.1 7 = .ok (.if_icmp .lt 5, 3) := by decide +kernel
theorem d138_10 : decode Y138.2.1 10 = .ok (.iconst (-1), 1) := by decide +kernel
theorem d138_11 : decode Y138.2.1 11 = .ok (.ireturn, 1) := by decide +kernel
theorem d138_12 : decode Y138.2.1 12 = .ok (.iconst 0, 1) := by decide +kernel
theorem d138_13 : decode Y138.2.1 13 = .ok (.istore_n 2, 1) := by decide +kernel
theorem d138_14 : decode Y138.2.1 14 = .ok (.iconst 0, 1) := by decide +kernel
theorem d138_15 : decode Y138.2.1 15 = .ok (.istore_n 3, 1) := by decide +kernel
theorem d138_16 : decode Y138.2.1 16 = .ok (.iconst 0, 1) := by decide +kernel
theorem d138_17 : decode Y138.2.1 17 = .ok (.istore 4, 2) := by decide +kernel
theorem d138_19 : decode Y138.2.1 19 = .ok (.aload_n 0, 1) := by decide +kernel
theorem d138_20 : decode Y138.2.1 20 = .ok (.getfield 47, 3) := by decide +kernel
theorem d138_23 : decode Y138.2.1 23 = .ok (.getfield 315, 3) := by decide +kernel
theorem d138_26 : decode Y138.2.1 26 = .ok (.astore 5, 2) := by decide +kernel
theorem d138_28 : decode Y138.2.1 28 = .ok (.aload 5, 2) := by decide +kernel
theorem d138_30 : decode Y138.2.1 30 = .ok (.arraylength, 1) := by decide +kernel
theorem d138_31 : decode Y138.2.1 31 = .ok (.istore 6, 2) := by decide +kernel
theorem d138_33 : decode Y138.2.1 33 = .ok (.iconst 0, 1) := by decide +kernel
theorem d138_34 : decode Y138.2.1 34 = .ok (.istore 7, 2) := by decide +kernel
theorem d138_36 : decode Y138.2.1 36 = .ok (.iload 7, 2) := by decide +kernel
theorem d138_38 : decode Y138.2.1 38 = .ok (.iload 6, 2) := by decide +kernel
theorem d138_40 : decode Y138.2.1 40 = .ok (.if_icmp .ge 85, 3) := by decide +kernel
theorem d138_43 : decode Y138.2.1 43 = .ok (.aload 5, 2) := by decide +kernel
theorem d138_45 : decode Y138.2.1 45 = .ok (.iload 7, 2) := by decide +kernel
theorem d138_47 : decode Y138.2.1 47 = .ok (.aaload, 1) := by decide +kernel
theorem d138_48 : decode Y138.2.1 48 = .ok (.astore 8, 2) := by decide +kernel
theorem d138_50 : decode Y138.2.1 50 = .ok (.aload 8, 2) := by decide +kernel
theorem d138_52 : decode Y138.2.1 52 = .ok (.invokevirtual 322, 3) := by decide +kernel
theorem d138_55 : decode Y138.2.1 55 = .ok (.ifCond .eq 64, 3) := by decide +kernel
theorem d138_58 : decode Y138.2.1 58 = .ok (.aload_n 0, 1) := by decide +kernel
theorem d138_59 : decode Y138.2.1 59 = .ok (.getfield 61, 3) := by decide +kernel
theorem d138_62 : decode Y138.2.1 62 = .ok (.aload 8, 2) := by decide +kernel
theorem d138_64 : decode Y138.2.1 64 = .ok (.invokevirtual 299, 3) := by decide +kernel
theorem d138_67 : decode Y138.2.1 67 = .ok (.invokevirtual 113, 3) := by decide +kernel
theorem d138_70 : decode Y138.2.1 70 = .ok (.iload_n 1, 1) := by decide +kernel
theorem d138_71 : decode Y138.2.1 71 = .ok (.if_icmp .ne 48, 3) := by decide +kernel
theorem d138_74 : decode Y138.2.1 74 = .ok (.iload_n 2, 1) := by decide +kernel
theorem d138_75 : decode Y138.2.1 75 = .ok (.aload 8, 2) := by decide +kernel
theorem d138_77 : decode Y138.2.1 77 = .ok (.getfield 269, 3) := by decide +kernel
theorem d138_80 : decode Y138.2.1 80 = .ok (.iconst 4, 1) := by decide +kernel
theorem d138_81 : decode Y138.2.1 81 = .ok (.if_icmp .ne 11, 3) := by decide +kernel
theorem d138_84 : decode Y138.2.1 84 = .ok (.aload 8, 2) := by decide +kernel
theorem d138_86 : decode Y138.2.1 86 = .ok (.getfield 278, 3) := by decide +kernel
theorem d138_89 : decode Y138.2.1 89 = .ok (.goto 4, 3) := by decide +kernel
theorem d138_92 : decode Y138.2.1 92 = .ok (.iconst 0, 1) := by decide +kernel
theorem d138_93 : decode Y138.2.1 93 = .ok (.iadd, 1) := by decide +kernel
theorem d138_94 : decode Y138.2.1 94 = .ok (.istore_n 2, 1) := by decide +kernel
theorem d138_95 : decode Y138.2.1 95 = .ok (.iload_n 3, 1) := by decide +kernel
theorem d138_96 : decode Y138.2.1 96 = .ok (.aload 8, 2) := by decide +kernel
theorem d138_98 : decode Y138.2.1 98 = .ok (.getfield 269, 3) := by decide +kernel
theorem d138_101 : decode Y138.2.1 101 = .ok (.iconst 5, 1) := by decide +kernel
theorem d138_102 : decode Y138.2.1 102 = .ok (.if_icmp .ne 11, 3) := by decide +kernel
theorem d138_105 : decode Y138.2.1 105 = .ok (.aload 8, 2) := by decide +kernel
theorem d138_107 : decode Y138.2.1 107 = .ok (.getfield 278, 3) := by decide +kernel
theorem d138_110 : decode Y138.2.1 110 = .ok (.goto 4, 3) := by decide +kernel
theorem d138_113 : decode Y138.2.1 113 = .ok (.iconst 0, 1) := by decide +kernel
theorem d138_114 : decode Y138.2.1 114 = .ok (.iadd, 1) := by decide +kernel
theorem d138_115 : decode Y138.2.1 115 = .ok (.istore_n 3, 1) := by decide +kernel
theorem d138_116 : decode Y138.2.1 116 = .ok (.iinc 4 1, 3) := by decide +kernel
theorem d138_119 : decode Y138.2.1 119 = .ok (.iinc 7 1, 3) := by decide +kernel
theorem d138_122 : decode Y138.2.1 122 = .ok (.goto (-86), 3) := by decide +kernel
theorem d138_125 : decode Y138.2.1 125 = .ok (.aload_n 0, 1) := by decide +kernel
theorem d138_126 : decode Y138.2.1 126 = .ok (.iload_n 3, 1) := by decide +kernel
theorem d138_127 : decode Y138.2.1 127 = .ok (.iload 4, 2) := by decide +kernel
theorem d138_129 : decode Y138.2.1 129 = .ok (.invokevirtual 144, 3) := by decide +kernel
theorem d138_132 : decode Y138.2.1 132 = .ok (.iload_n 2, 1) := by decide +kernel
theorem d138_133 : decode Y138.2.1 133 = .ok (.ireturn, 1) := by decide +kernel
noncomputable def L138_36 (d : Nat) (a0 : Nat) (x1 : Int32) (x2 : Int32) (x3 : Int32) (x4 : Int32) (x7 : Int32) (o8 : Option ts_V) (m : lt_m) : Option lt_r := lt_run d Y138 36 [some (.inr (.inr (some a0))), some (.inl x1), some (.inl x2), some (.inl x3), some (.inl x4), some (.inr (.inr (some ((a0 + 13) + 3)))), some (.inl (20 : Int32)), some (.inl x7), o8] [] m
noncomputable def L138_93 (d : Nat) (a0 : Nat) (x1 : Int32) (x2 : Int32) (x3 : Int32) (x4 : Int32) (x7 : Int32) (b8 : Nat) (xt0 : Int32) (xt1 : Int32) (m : lt_m) : Option lt_r := lt_run d Y138 93 [some (.inr (.inr (some a0))), some (.inl x1), some (.inl x2), some (.inl x3), some (.inl x4), some (.inr (.inr (some ((a0 + 13) + 3)))), some (.inl (20 : Int32)), some (.inl x7), some (.inr (.inr (some b8)))] [.inl xt0, .inl xt1] m
theorem E138 (d : Nat) (a0 : Nat) (x1 : Int32) (h0 : ts_sh a0 = (0, 11)) (m : lt_m) : lt_ev (d + 1) 138 [.inr (.inr (some a0)), .inl x1] m = if x1 < 0 then (some (some (.inl (-1 : Int32)), m)) else (if x1 < (6 : Int32) then (L138_36 d a0 x1 (0 : Int32) (0 : Int32) (0 : Int32) (0 : Int32) none m) else (some (some (.inl (-1 : Int32)), m))) := by
  refine Eq.trans (lt_enter2 (ls := [some (.inr (.inr (some a0))), some (.inl x1), none, none, none, none, none, none, none]) hY138 (Nat.le_of_ble_eq_true rfl) (by rfl)) ?_
  refine Eq.trans (li_iload_n d138_0 (by rfl)) ?_
  refine Eq.trans (li_if_lt (t := 10) d138_1 (by rfl)) ?_
  refine lt_ite (fun c1 => ?_) (fun c1 => ?_)
  · refine Eq.trans (li_iconst d138_10 ic_n1) ?_
    exact li_iret d138_11 rfl
  · refine Eq.trans (li_iload_n d138_4 (by rfl)) ?_
    refine Eq.trans (li_bipush d138_5 bi_6) ?_
    refine Eq.trans (li_icmp_lt (t := 12) d138_7 (by rfl)) ?_
    refine lt_ite (fun c2 => ?_) (fun c2 => ?_)
    · refine Eq.trans (li_iconst d138_12 ic_0) ?_
      refine Eq.trans (li_istore_n (ls' := [some (.inr (.inr (some a0))), some (.inl x1), some (.inl (0 : Int32)), none, none, none, none, none, none]) d138_13 (by decide) (by rfl)) ?_
      refine Eq.trans (li_iconst d138_14 ic_0) ?_
      refine Eq.trans (li_istore_n (ls' := [some (.inr (.inr (some a0))), some (.inl x1), some (.inl (0 : Int32)), some (.inl (0 : Int32)), none, none, none, none, none]) d138_15 (by decide) (by rfl)) ?_
      refine Eq.trans (li_iconst d138_16 ic_0) ?_
      refine Eq.trans (li_istore (ls' := [some (.inr (.inr (some a0))), some (.inl x1), some (.inl (0 : Int32)), some (.inl (0 : Int32)), some (.inl (0 : Int32)), none, none, none, none]) d138_17 (by decide) (by rfl)) ?_
      refine Eq.trans (li_aload_n d138_19 (by rfl)) ?_
      refine Eq.trans (li_getr d138_20 fa_11_47 h0 rfl rfl rfl (by decide)) ?_
      refine Eq.trans (li_getr d138_23 fa_11_315 (sf_of h0 5 (by decide) (by decide)) rfl rfl rfl (by decide)) ?_
      refine Eq.trans (li_astore (ls' := [some (.inr (.inr (some a0))), some (.inl x1), some (.inl (0 : Int32)), some (.inl (0 : Int32)), some (.inl (0 : Int32)), some (.inr (.inr (some ((a0 + 13) + 3)))), none, none, none]) d138_26 (by decide) (by rfl)) ?_
      refine Eq.trans (li_aload d138_28 (by rfl)) ?_
      refine Eq.trans (li_alen d138_30 (sf_of (sf_of h0 5 (by decide) (by decide)) 2 (by decide) (by decide)) (by decide) (by rfl)) ?_
      refine Eq.trans (li_istore (ls' := [some (.inr (.inr (some a0))), some (.inl x1), some (.inl (0 : Int32)), some (.inl (0 : Int32)), some (.inl (0 : Int32)), some (.inr (.inr (some ((a0 + 13) + 3)))), some (.inl (20 : Int32)), none, none]) d138_31 (by decide) (by rfl)) ?_
      refine Eq.trans (li_iconst d138_33 ic_0) ?_
      refine Eq.trans (li_istore (ls' := [some (.inr (.inr (some a0))), some (.inl x1), some (.inl (0 : Int32)), some (.inl (0 : Int32)), some (.inl (0 : Int32)), some (.inr (.inr (some ((a0 + 13) + 3)))), some (.inl (20 : Int32)), some (.inl (0 : Int32)), none]) d138_34 (by decide) (by rfl)) ?_
      rfl
    · refine Eq.trans (li_iconst d138_10 ic_n1) ?_
      exact li_iret d138_11 rfl
theorem E138_36 (d : Nat) (a0 : Nat) (x1 : Int32) (x2 : Int32) (x3 : Int32) (x4 : Int32) (x7 : Int32) (o8 : Option ts_V) (h0 : ts_sh a0 = (0, 11)) (m : lt_m) : L138_36 d a0 x1 x2 x3 x4 x7 o8 m = if (20 : Int32) ≤ x7 then (lt_cV (lt_ev d 74 [.inr (.inr (some a0)), .inl x3, .inl x4] m) (fun m1 => (some (some (.inl x2), m1)))) else (lt_gd (0 ≤ x7 ∧ (x7).toNatClampNeg < 20) (lt_cI (lt_ev d 139 [.inr (.inr (some (((a0 + 13) + 3) + 5 + 3 * (x7).toNatClampNeg)))] m) (fun v1 m2 => (if v1 = 0 then (L138_36 d a0 x1 x2 x3 x4 (x7 + (1 : Int32)) (some (.inr (.inr (some (((a0 + 13) + 3) + 5 + 3 * (x7).toNatClampNeg))))) m2) else (lt_cI (lt_ev d 63 [.inr (.inr (some (((a0 + 13) + 3) + 5 + 3 * (x7).toNatClampNeg)))] m2) (fun v2 m3 => (lt_gd (ts_sh (m2.2.2.1) = (0, 5)) (lt_cI (lt_ev d 21 [.inr (.inr (some (m2.2.2.1))), .inl v2] m3) (fun v3 m4 => (if ¬ v3 = x1 then (L138_36 d a0 x1 x2 x3 x4 (x7 + (1 : Int32)) (some (.inr (.inr (some (((a0 + 13) + 3) + 5 + 3 * (x7).toNatClampNeg))))) m4) else (if ¬ (m4.1 (((a0 + 13) + 3) + 5 + 3 * (x7).toNatClampNeg) 7) = (4 : Int32) then (L138_93 d a0 x1 x2 x3 x4 x7 (((a0 + 13) + 3) + 5 + 3 * (x7).toNatClampNeg) (0 : Int32) x2 m4) else (L138_93 d a0 x1 x2 x3 x4 x7 (((a0 + 13) + 3) + 5 + 3 * (x7).toNatClampNeg) (m4.1 (((a0 + 13) + 3) + 5 + 3 * (x7).toNatClampNeg) 10) x2 m4)))))))))))) := by
  show lt_run d Y138 36 [some (.inr (.inr (some a0))), some (.inl x1), some (.inl x2), some (.inl x3), some (.inl x4), some (.inr (.inr (some ((a0 + 13) + 3)))), some (.inl (20 : Int32)), some (.inl x7), o8] [] m = _
  refine Eq.trans (li_iload d138_36 (by rfl)) ?_
  refine Eq.trans (li_iload d138_38 (by rfl)) ?_
  refine Eq.trans (li_icmp_ge (t := 125) d138_40 (by rfl)) ?_
  refine lt_ite (fun c1 => ?_) (fun c1 => ?_)
  · refine Eq.trans (li_aload_n d138_125 (by rfl)) ?_
    refine Eq.trans (li_iload_n d138_126 (by rfl)) ?_
    refine Eq.trans (li_iload d138_127 (by rfl)) ?_
    refine Eq.trans (li_ivV d138_129 ca_11_144 kd_74 kl_74 (by rfl) (by rfl) h0 (Nat.le_of_ble_eq_true rfl) (Nat.le_of_ble_eq_true rfl)) ?_
    refine lt_cV_c (fun m1 => ?_)
    refine Eq.trans (li_iload_n d138_132 (by rfl)) ?_
    exact li_iret d138_133 rfl
  · refine Eq.trans (li_aload d138_43 (by rfl)) ?_
    refine Eq.trans (li_iload d138_45 (by rfl)) ?_
    refine Eq.trans (li_aald4 d138_47 (sf_of (sf_of h0 5 (by decide) (by decide)) 2 (by decide) (by decide))) ?_
    refine lt_gd_c (fun g1 => ?_)
    refine Eq.trans (li_astore (ls' := [some (.inr (.inr (some a0))), some (.inl x1), some (.inl x2), some (.inl x3), some (.inl x4), some (.inr (.inr (some ((a0 + 13) + 3)))), some (.inl (20 : Int32)), some (.inl x7), some (.inr (.inr (some (((a0 + 13) + 3) + 5 + 3 * (x7).toNatClampNeg))))]) d138_48 (by decide) (by rfl)) ?_
    refine Eq.trans (li_aload d138_50 (by rfl)) ?_
    refine Eq.trans (li_ivI d138_52 ca_11_322 kd_139 kl_139 (by rfl) (by rfl) (sm_4 (sf_of (sf_of h0 5 (by decide) (by decide)) 2 (by decide) (by decide)) g1.2) (Nat.le_of_ble_eq_true rfl) (Nat.le_of_ble_eq_true rfl)) ?_
    refine lt_cI_c (fun v1 m2 => ?_)
    refine Eq.trans (li_if_eq (t := 119) d138_55 (by rfl)) ?_
    refine lt_ite (fun c2 => ?_) (fun c2 => ?_)
    · refine Eq.trans (li_iinc (ls' := [some (.inr (.inr (some a0))), some (.inl x1), some (.inl x2), some (.inl x3), some (.inl x4), some (.inr (.inr (some ((a0 + 13) + 3)))), some (.inl (20 : Int32)), some (.inl (x7 + (1 : Int32))), some (.inr (.inr (some (((a0 + 13) + 3) + 5 + 3 * (x7).toNatClampNeg))))]) d138_119 (by rfl) (by decide) ic_1 (by rfl)) ?_
      refine Eq.trans (li_goto (t := 36) d138_122 (by rfl)) ?_
      rfl
    · refine Eq.trans (li_aload_n d138_58 (by rfl)) ?_
      refine Eq.trans (li_getnet d138_59 fa_11_61 h0) ?_
      refine Eq.trans (li_aload d138_62 (by rfl)) ?_
      refine Eq.trans (li_ivI d138_64 ca_11_299 kd_63 kl_63 (by rfl) (by rfl) (sm_4 (sf_of (sf_of h0 5 (by decide) (by decide)) 2 (by decide) (by decide)) g1.2) (Nat.le_of_ble_eq_true rfl) (Nat.le_of_ble_eq_true rfl)) ?_
      refine lt_cI_c (fun v2 m3 => ?_)
      refine Eq.trans (li_ginv d138_67 ca_11_113 kl_21 (by rfl)) ?_
      refine lt_gd_c (fun g2 => ?_)
      refine Eq.trans (li_ivI d138_67 ca_11_113 kd_21 kl_21 (by rfl) (by rfl) g2 (Nat.le_of_ble_eq_true rfl) (Nat.le_of_ble_eq_true rfl)) ?_
      refine lt_cI_c (fun v3 m4 => ?_)
      refine Eq.trans (li_iload_n d138_70 (by rfl)) ?_
      refine Eq.trans (li_icmp_ne (t := 119) d138_71 (by rfl)) ?_
      refine lt_ite (fun c3 => ?_) (fun c3 => ?_)
      · refine Eq.trans (li_iinc (ls' := [some (.inr (.inr (some a0))), some (.inl x1), some (.inl x2), some (.inl x3), some (.inl x4), some (.inr (.inr (some ((a0 + 13) + 3)))), some (.inl (20 : Int32)), some (.inl (x7 + (1 : Int32))), some (.inr (.inr (some (((a0 + 13) + 3) + 5 + 3 * (x7).toNatClampNeg))))]) d138_119 (by rfl) (by decide) ic_1 (by rfl)) ?_
        refine Eq.trans (li_goto (t := 36) d138_122 (by rfl)) ?_
        rfl
      · refine Eq.trans (li_iload_n d138_74 (by rfl)) ?_
        refine Eq.trans (li_aload d138_75 (by rfl)) ?_
        refine Eq.trans (li_geti d138_77 fa_11_269 (sm_4 (sf_of (sf_of h0 5 (by decide) (by decide)) 2 (by decide) (by decide)) g1.2) rfl) ?_
        refine Eq.trans (li_iconst d138_80 ic_4) ?_
        refine Eq.trans (li_icmp_ne (t := 92) d138_81 (by rfl)) ?_
        refine lt_ite (fun c4 => ?_) (fun c4 => ?_)
        · refine Eq.trans (li_iconst d138_92 ic_0) ?_
          rfl
        · refine Eq.trans (li_aload d138_84 (by rfl)) ?_
          refine Eq.trans (li_geti d138_86 fa_11_278 (sm_4 (sf_of (sf_of h0 5 (by decide) (by decide)) 2 (by decide) (by decide)) g1.2) rfl) ?_
          refine Eq.trans (li_goto (t := 93) d138_89 (by rfl)) ?_
          rfl
theorem E138_93 (d : Nat) (a0 : Nat) (x1 : Int32) (x2 : Int32) (x3 : Int32) (x4 : Int32) (x7 : Int32) (b8 : Nat) (xt0 : Int32) (xt1 : Int32) (hb8 : ts_sh b8 = (0, 4)) (m : lt_m) : L138_93 d a0 x1 x2 x3 x4 x7 b8 xt0 xt1 m = if ¬ (m.1 b8 7) = (5 : Int32) then (L138_36 d a0 x1 (xt1 + xt0) (x3 + (0 : Int32)) (x4 + (1 : Int32)) (x7 + (1 : Int32)) (some (.inr (.inr (some b8)))) m) else (L138_36 d a0 x1 (xt1 + xt0) (x3 + (m.1 b8 10)) (x4 + (1 : Int32)) (x7 + (1 : Int32)) (some (.inr (.inr (some b8)))) m) := by
  show lt_run d Y138 93 [some (.inr (.inr (some a0))), some (.inl x1), some (.inl x2), some (.inl x3), some (.inl x4), some (.inr (.inr (some ((a0 + 13) + 3)))), some (.inl (20 : Int32)), some (.inl x7), some (.inr (.inr (some b8)))] [.inl xt0, .inl xt1] m = _
  refine Eq.trans (li_iadd d138_93) ?_
  refine Eq.trans (li_istore_n (ls' := [some (.inr (.inr (some a0))), some (.inl x1), some (.inl (xt1 + xt0)), some (.inl x3), some (.inl x4), some (.inr (.inr (some ((a0 + 13) + 3)))), some (.inl (20 : Int32)), some (.inl x7), some (.inr (.inr (some b8)))]) d138_94 (by decide) (by rfl)) ?_
  refine Eq.trans (li_iload_n d138_95 (by rfl)) ?_
  refine Eq.trans (li_aload d138_96 (by rfl)) ?_
  refine Eq.trans (li_geti d138_98 fa_11_269 hb8 rfl) ?_
  refine Eq.trans (li_iconst d138_101 ic_5) ?_
  refine Eq.trans (li_icmp_ne (t := 113) d138_102 (by rfl)) ?_
  refine lt_ite (fun c1 => ?_) (fun c1 => ?_)
  · refine Eq.trans (li_iconst d138_113 ic_0) ?_
    refine Eq.trans (li_iadd d138_114) ?_
    refine Eq.trans (li_istore_n (ls' := [some (.inr (.inr (some a0))), some (.inl x1), some (.inl (xt1 + xt0)), some (.inl (x3 + (0 : Int32))), some (.inl x4), some (.inr (.inr (some ((a0 + 13) + 3)))), some (.inl (20 : Int32)), some (.inl x7), some (.inr (.inr (some b8)))]) d138_115 (by decide) (by rfl)) ?_
    refine Eq.trans (li_iinc (ls' := [some (.inr (.inr (some a0))), some (.inl x1), some (.inl (xt1 + xt0)), some (.inl (x3 + (0 : Int32))), some (.inl (x4 + (1 : Int32))), some (.inr (.inr (some ((a0 + 13) + 3)))), some (.inl (20 : Int32)), some (.inl x7), some (.inr (.inr (some b8)))]) d138_116 (by rfl) (by decide) ic_1 (by rfl)) ?_
    refine Eq.trans (li_iinc (ls' := [some (.inr (.inr (some a0))), some (.inl x1), some (.inl (xt1 + xt0)), some (.inl (x3 + (0 : Int32))), some (.inl (x4 + (1 : Int32))), some (.inr (.inr (some ((a0 + 13) + 3)))), some (.inl (20 : Int32)), some (.inl (x7 + (1 : Int32))), some (.inr (.inr (some b8)))]) d138_119 (by rfl) (by decide) ic_1 (by rfl)) ?_
    refine Eq.trans (li_goto (t := 36) d138_122 (by rfl)) ?_
    rfl
  · refine Eq.trans (li_aload d138_105 (by rfl)) ?_
    refine Eq.trans (li_geti d138_107 fa_11_278 hb8 rfl) ?_
    refine Eq.trans (li_goto (t := 114) d138_110 (by rfl)) ?_
    refine Eq.trans (li_iadd d138_114) ?_
    refine Eq.trans (li_istore_n (ls' := [some (.inr (.inr (some a0))), some (.inl x1), some (.inl (xt1 + xt0)), some (.inl (x3 + (m.1 b8 10))), some (.inl x4), some (.inr (.inr (some ((a0 + 13) + 3)))), some (.inl (20 : Int32)), some (.inl x7), some (.inr (.inr (some b8)))]) d138_115 (by decide) (by rfl)) ?_
    refine Eq.trans (li_iinc (ls' := [some (.inr (.inr (some a0))), some (.inl x1), some (.inl (xt1 + xt0)), some (.inl (x3 + (m.1 b8 10))), some (.inl (x4 + (1 : Int32))), some (.inr (.inr (some ((a0 + 13) + 3)))), some (.inl (20 : Int32)), some (.inl x7), some (.inr (.inr (some b8)))]) d138_116 (by rfl) (by decide) ic_1 (by rfl)) ?_
    refine Eq.trans (li_iinc (ls' := [some (.inr (.inr (some a0))), some (.inl x1), some (.inl (xt1 + xt0)), some (.inl (x3 + (m.1 b8 10))), some (.inl (x4 + (1 : Int32))), some (.inr (.inr (some ((a0 + 13) + 3)))), some (.inl (20 : Int32)), some (.inl (x7 + (1 : Int32))), some (.inr (.inr (some b8)))]) d138_119 (by rfl) (by decide) ic_1 (by rfl)) ?_
    refine Eq.trans (li_goto (t := 36) d138_122 (by rfl)) ?_
    rfl
/-! TransitSeals$Movement.isIndebted()Z -/
theorem d139_0 : decode Y139.2.1 0 = .ok (.aload_n 0, 1) := by decide +kernel
theorem d139_1 : decode Y139.2.1 1 = .ok (.getfield 9, 3) := by decide +kernel
theorem d139_4 : decode Y139.2.1 4 = .ok (.iconst 4, 1) := by decide +kernel
theorem d139_5 : decode Y139.2.1 5 = .ok (.if_icmp .eq 11, 3) := by decide +kernel
theorem d139_8 : decode Y139.2.1 8 = .ok (.aload_n 0, 1) := by decide +kernel
theorem d139_9 : decode Y139.2.1 9 = .ok (.getfield 9, 3) := by decide +kernel
theorem d139_12 : decode Y139.2.1 12 = .ok (.iconst 5, 1) := by decide +kernel
theorem d139_13 : decode Y139.2.1 13 = .ok (.if_icmp .ne 7, 3) := by decide +kernel
theorem d139_16 : decode Y139.2.1 16 = .ok (.iconst 1, 1) := by decide +kernel
theorem d139_17 : decode Y139.2.1 17 = .ok (.goto 4, 3) := by decide +kernel
theorem d139_20 : decode Y139.2.1 20 = .ok (.iconst 0, 1) := by decide +kernel
theorem d139_21 : decode Y139.2.1 21 = .ok (.ireturn, 1) := by decide +kernel
theorem E139 (d : Nat) (a0 : Nat) (h0 : ts_sh a0 = (0, 4)) (m : lt_m) : lt_ev (d + 1) 139 [.inr (.inr (some a0))] m = if (m.1 a0 7) = (4 : Int32) then (some (some (.inl (1 : Int32)), m)) else (if ¬ (m.1 a0 7) = (5 : Int32) then (some (some (.inl (0 : Int32)), m)) else (some (some (.inl (1 : Int32)), m))) := by
  refine Eq.trans (lt_enter2 (ls := [some (.inr (.inr (some a0)))]) hY139 (Nat.le_of_ble_eq_true rfl) (by rfl)) ?_
  refine Eq.trans (li_aload_n d139_0 (by rfl)) ?_
  refine Eq.trans (li_geti d139_1 fa_4_9 h0 rfl) ?_
  refine Eq.trans (li_iconst d139_4 ic_4) ?_
  refine Eq.trans (li_icmp_eq (t := 16) d139_5 (by rfl)) ?_
  refine lt_ite (fun c1 => ?_) (fun c1 => ?_)
  · refine Eq.trans (li_iconst d139_16 ic_1) ?_
    refine Eq.trans (li_goto (t := 21) d139_17 (by rfl)) ?_
    exact li_zret d139_21 rfl (by decide)
  · refine Eq.trans (li_aload_n d139_8 (by rfl)) ?_
    refine Eq.trans (li_geti d139_9 fa_4_9 h0 rfl) ?_
    refine Eq.trans (li_iconst d139_12 ic_5) ?_
    refine Eq.trans (li_icmp_ne (t := 20) d139_13 (by rfl)) ?_
    refine lt_ite (fun c2 => ?_) (fun c2 => ?_)
    · refine Eq.trans (li_iconst d139_20 ic_0) ?_
      exact li_zret d139_21 rfl (by decide)
    · refine Eq.trans (li_iconst d139_16 ic_1) ?_
      refine Eq.trans (li_goto (t := 21) d139_17 (by rfl)) ?_
      exact li_zret d139_21 rfl (by decide)
/-! TransitSeals.late()I -/
theorem d140_0 : decode Y140.2.1 0 = .ok (.iconst 0, 1) := by decide +kernel
theorem d140_1 : decode Y140.2.1 1 = .ok (.istore_n 1, 1) := by decide +kernel
theorem d140_2 : decode Y140.2.1 2 = .ok (.aload_n 0, 1) := by decide +kernel
theorem d140_3 : decode Y140.2.1 3 = .ok (.getfield 47, 3) := by decide +kernel
theorem d140_6 : decode Y140.2.1 6 = .ok (.getfield 315, 3) := by decide +kernel
theorem d140_9 : decode Y140.2.1 9 = .ok (.astore_n 2, 1) := by decide +kernel
theorem d140_10 : decode Y140.2.1 10 = .ok (.aload_n 2, 1) := by decide +kernel
theorem d140_11 : decode Y140.2.1 11 = .ok (.arraylength, 1) := by decide +kernel
theorem d140_12 : decode Y140.2.1 12 = .ok (.istore_n 3, 1) := by decide +kernel
theorem d140_13 : decode Y140.2.1 13 = .ok (.iconst 0, 1) := by decide +kernel
theorem d140_14 : decode Y140.2.1 14 = .ok (.istore 4, 2) := by decide +kernel
theorem d140_16 : decode Y140.2.1 16 = .ok (.iload 4, 2) := by decide +kernel
theorem d140_18 : decode Y140.2.1 18 = .ok (.iload_n 3, 1) := by decide +kernel
theorem d140_19 : decode Y140.2.1 19 = .ok (.if_icmp .ge 32, 3) := by decide +kernel
theorem d140_22 : decode Y140.2.1 22 = .ok (.aload_n 2, 1) := by decide +kernel
theorem d140_23 : decode Y140.2.1 23 = .ok (.iload 4, 2) := by decide +kernel
theorem d140_25 : decode Y140.2.1 25 = .ok (.aaload, 1) := by decide +kernel
theorem d140_26 : decode Y140.2.1 26 = .ok (.astore 5, 2) := by decide +kernel
theorem d140_28 : decode Y140.2.1 28 = .ok (.aload_n 0, 1) := by decide +kernel
theorem d140_29 : decode Y140.2.1 29 = .ok (.aload 5, 2) := by decide +kernel
theorem d140_31 : decode Y140.2.1 31 = .ok (.invokevirtual 325, 3) := by decide +kernel
theorem d140_34 : decode Y140.2.1 34 = .ok (.ifCond .eq 11, 3) := by decide +kernel
theorem d140_37 : decode Y140.2.1 37 = .ok (.iload_n 1, 1) := by decide +kernel
theorem d140_38 : decode Y140.2.1 38 = .ok (.aload 5, 2) := by decide +kernel
theorem d140_40 : decode Y140.2.1 40 = .ok (.invokevirtual 319, 3) := by decide +kernel
theorem d140_43 : decode Y140.2.1 43 = .ok (.ior, 1) := by decide +kernel
theorem d140_44 : decode Y140.2.1 44 = .ok (.istore_n 1, 1) := by decide +kernel
theorem d140_45 : decode Y140.2.1 45 = .ok (.iinc 4 1, 3) := by decide +kernel
theorem d140_48 : decode Y140.2.1 48 = .ok (.goto (-32), 3) := by decide +kernel
theorem d140_51 : decode Y140.2.1 51 = .ok (.aload_n 0, 1) := by decide +kernel
theorem d140_52 : decode Y140.2.1 52 = .ok (.iload_n 1, 1) := by decide +kernel
theorem d140_53 : decode Y140.2.1 53 = .ok (.invokestatic 152, 3) := by decide +kernel
theorem d140_56 : decode Y140.2.1 56 = .ok (.invokevirtual 157, 3) := by decide +kernel
theorem d140_59 : decode Y140.2.1 59 = .ok (.iload_n 1, 1) := by decide +kernel
theorem d140_60 : decode Y140.2.1 60 = .ok (.ireturn, 1) := by decide +kernel
noncomputable def L140_16 (d : Nat) (a0 : Nat) (x1 : Int32) (x4 : Int32) (o5 : Option ts_V) (m : lt_m) : Option lt_r := lt_run d Y140 16 [some (.inr (.inr (some a0))), some (.inl x1), some (.inr (.inr (some ((a0 + 13) + 3)))), some (.inl (20 : Int32)), some (.inl x4), o5] [] m
theorem E140 (d : Nat) (a0 : Nat) (h0 : ts_sh a0 = (0, 11)) (m : lt_m) : lt_ev (d + 1) 140 [.inr (.inr (some a0))] m = L140_16 d a0 (0 : Int32) (0 : Int32) none m := by
  refine Eq.trans (lt_enter2 (ls := [some (.inr (.inr (some a0))), none, none, none, none, none]) hY140 (Nat.le_of_ble_eq_true rfl) (by rfl)) ?_
  refine Eq.trans (li_iconst d140_0 ic_0) ?_
  refine Eq.trans (li_istore_n (ls' := [some (.inr (.inr (some a0))), some (.inl (0 : Int32)), none, none, none, none]) d140_1 (by decide) (by rfl)) ?_
  refine Eq.trans (li_aload_n d140_2 (by rfl)) ?_
  refine Eq.trans (li_getr d140_3 fa_11_47 h0 rfl rfl rfl (by decide)) ?_
  refine Eq.trans (li_getr d140_6 fa_11_315 (sf_of h0 5 (by decide) (by decide)) rfl rfl rfl (by decide)) ?_
  refine Eq.trans (li_astore_n (ls' := [some (.inr (.inr (some a0))), some (.inl (0 : Int32)), some (.inr (.inr (some ((a0 + 13) + 3)))), none, none, none]) d140_9 (by decide) (by rfl)) ?_
  refine Eq.trans (li_aload_n d140_10 (by rfl)) ?_
  refine Eq.trans (li_alen d140_11 (sf_of (sf_of h0 5 (by decide) (by decide)) 2 (by decide) (by decide)) (by decide) (by rfl)) ?_
  refine Eq.trans (li_istore_n (ls' := [some (.inr (.inr (some a0))), some (.inl (0 : Int32)), some (.inr (.inr (some ((a0 + 13) + 3)))), some (.inl (20 : Int32)), none, none]) d140_12 (by decide) (by rfl)) ?_
  refine Eq.trans (li_iconst d140_13 ic_0) ?_
  refine Eq.trans (li_istore (ls' := [some (.inr (.inr (some a0))), some (.inl (0 : Int32)), some (.inr (.inr (some ((a0 + 13) + 3)))), some (.inl (20 : Int32)), some (.inl (0 : Int32)), none]) d140_14 (by decide) (by rfl)) ?_
  rfl
theorem E140_16 (d : Nat) (a0 : Nat) (x1 : Int32) (x4 : Int32) (o5 : Option ts_V) (h0 : ts_sh a0 = (0, 11)) (m : lt_m) : L140_16 d a0 x1 x4 o5 m = if (20 : Int32) ≤ x4 then (lt_cI (lt_ev d 60 [.inl x1] m) (fun v1 m1 => (lt_cV (lt_ev d 75 [.inr (.inr (some a0)), .inl v1] m1) (fun m2 => (some (some (.inl x1), m2)))))) else (lt_gd (0 ≤ x4 ∧ (x4).toNatClampNeg < 20) (lt_cI (lt_ev d 141 [.inr (.inr (some a0)), .inr (.inr (some (((a0 + 13) + 3) + 5 + 3 * (x4).toNatClampNeg)))] m) (fun v2 m3 => (if v2 = 0 then (L140_16 d a0 x1 (x4 + (1 : Int32)) (some (.inr (.inr (some (((a0 + 13) + 3) + 5 + 3 * (x4).toNatClampNeg))))) m3) else (lt_cI (lt_ev d 65 [.inr (.inr (some (((a0 + 13) + 3) + 5 + 3 * (x4).toNatClampNeg)))] m3) (fun v3 m4 => (L140_16 d a0 (x1 ||| v3) (x4 + (1 : Int32)) (some (.inr (.inr (some (((a0 + 13) + 3) + 5 + 3 * (x4).toNatClampNeg))))) m4))))))) := by
  show lt_run d Y140 16 [some (.inr (.inr (some a0))), some (.inl x1), some (.inr (.inr (some ((a0 + 13) + 3)))), some (.inl (20 : Int32)), some (.inl x4), o5] [] m = _
  refine Eq.trans (li_iload d140_16 (by rfl)) ?_
  refine Eq.trans (li_iload_n d140_18 (by rfl)) ?_
  refine Eq.trans (li_icmp_ge (t := 51) d140_19 (by rfl)) ?_
  refine lt_ite (fun c1 => ?_) (fun c1 => ?_)
  · refine Eq.trans (li_aload_n d140_51 (by rfl)) ?_
    refine Eq.trans (li_iload_n d140_52 (by rfl)) ?_
    refine Eq.trans (li_isI d140_53 bi_11_152 ca_11_152 kd_60 (by rfl) (by rfl) (Nat.le_of_ble_eq_true rfl) (Nat.le_of_ble_eq_true rfl)) ?_
    refine lt_cI_c (fun v1 m1 => ?_)
    refine Eq.trans (li_ivV d140_56 ca_11_157 kd_75 kl_75 (by rfl) (by rfl) h0 (Nat.le_of_ble_eq_true rfl) (Nat.le_of_ble_eq_true rfl)) ?_
    refine lt_cV_c (fun m2 => ?_)
    refine Eq.trans (li_iload_n d140_59 (by rfl)) ?_
    exact li_iret d140_60 rfl
  · refine Eq.trans (li_aload_n d140_22 (by rfl)) ?_
    refine Eq.trans (li_iload d140_23 (by rfl)) ?_
    refine Eq.trans (li_aald4 d140_25 (sf_of (sf_of h0 5 (by decide) (by decide)) 2 (by decide) (by decide))) ?_
    refine lt_gd_c (fun g1 => ?_)
    refine Eq.trans (li_astore (ls' := [some (.inr (.inr (some a0))), some (.inl x1), some (.inr (.inr (some ((a0 + 13) + 3)))), some (.inl (20 : Int32)), some (.inl x4), some (.inr (.inr (some (((a0 + 13) + 3) + 5 + 3 * (x4).toNatClampNeg))))]) d140_26 (by decide) (by rfl)) ?_
    refine Eq.trans (li_aload_n d140_28 (by rfl)) ?_
    refine Eq.trans (li_aload d140_29 (by rfl)) ?_
    refine Eq.trans (li_ivI d140_31 ca_11_325 kd_141 kl_141 (by rfl) (by rfl) h0 (Nat.le_of_ble_eq_true rfl) (Nat.le_of_ble_eq_true rfl)) ?_
    refine lt_cI_c (fun v2 m3 => ?_)
    refine Eq.trans (li_if_eq (t := 45) d140_34 (by rfl)) ?_
    refine lt_ite (fun c2 => ?_) (fun c2 => ?_)
    · refine Eq.trans (li_iinc (ls' := [some (.inr (.inr (some a0))), some (.inl x1), some (.inr (.inr (some ((a0 + 13) + 3)))), some (.inl (20 : Int32)), some (.inl (x4 + (1 : Int32))), some (.inr (.inr (some (((a0 + 13) + 3) + 5 + 3 * (x4).toNatClampNeg))))]) d140_45 (by rfl) (by decide) ic_1 (by rfl)) ?_
      refine Eq.trans (li_goto (t := 16) d140_48 (by rfl)) ?_
      rfl
    · refine Eq.trans (li_iload_n d140_37 (by rfl)) ?_
      refine Eq.trans (li_aload d140_38 (by rfl)) ?_
      refine Eq.trans (li_ivI d140_40 ca_11_319 kd_65 kl_65 (by rfl) (by rfl) (sm_4 (sf_of (sf_of h0 5 (by decide) (by decide)) 2 (by decide) (by decide)) g1.2) (Nat.le_of_ble_eq_true rfl) (Nat.le_of_ble_eq_true rfl)) ?_
      refine lt_cI_c (fun v3 m4 => ?_)
      refine Eq.trans (li_ior d140_43) ?_
      refine Eq.trans (li_istore_n (ls' := [some (.inr (.inr (some a0))), some (.inl (x1 ||| v3)), some (.inr (.inr (some ((a0 + 13) + 3)))), some (.inl (20 : Int32)), some (.inl x4), some (.inr (.inr (some (((a0 + 13) + 3) + 5 + 3 * (x4).toNatClampNeg))))]) d140_44 (by decide) (by rfl)) ?_
      refine Eq.trans (li_iinc (ls' := [some (.inr (.inr (some a0))), some (.inl (x1 ||| v3)), some (.inr (.inr (some ((a0 + 13) + 3)))), some (.inl (20 : Int32)), some (.inl (x4 + (1 : Int32))), some (.inr (.inr (some (((a0 + 13) + 3) + 5 + 3 * (x4).toNatClampNeg))))]) d140_45 (by rfl) (by decide) ic_1 (by rfl)) ?_
      refine Eq.trans (li_goto (t := 16) d140_48 (by rfl)) ?_
      rfl
/-! TransitSeals.isLate(LTransitSeals$Movement;)Z -/
theorem d141_0 : decode Y141.2.1 0 = .ok (.aload_n 1, 1) := by decide +kernel
theorem d141_1 : decode Y141.2.1 1 = .ok (.getfield 269, 3) := by decide +kernel
theorem d141_4 : decode Y141.2.1 4 = .ok (.ifCond .ne 19, 3) := by decide +kernel
theorem d141_7 : decode Y141.2.1 7 = .ok (.aload_n 0, 1) := by decide +kernel
theorem d141_8 : decode Y141.2.1 8 = .ok (.aload_n 1, 1) := by decide +kernel
theorem d141_9 : decode Y141.2.1 9 = .ok (.invokevirtual 417, 3) := by decide +kernel
theorem d141_12 : decode Y141.2.1 12 = .ok (.aload_n 1, 1) := by decide +kernel
theorem d141_13 : decode Y141.2.1 13 = .ok (.getfield 296, 3) := by decide +kernel
theorem d141_16 : decode Y141.2.1 16 = .ok (.if_icmp .le 7, 3) := by decide +kernel
theorem d141_19 : decode Y141.2.1 19 = .ok (.iconst 1, 1) := by decide +kernel
theorem d141_20 : decode Y141.2.1 20 = .ok (.goto 4, 3) := by decide +kernel
theorem d141_23 : decode Y141.2.1 23 = .ok (.iconst 0, 1) := by decide +kernel
theorem d141_24 : decode Y141.2.1 24 = .ok (.ireturn, 1) := by decide +kernel
theorem E141 (d : Nat) (a0 : Nat) (a1 : Nat) (h0 : ts_sh a0 = (0, 11)) (h1 : ts_sh a1 = (0, 4)) (m : lt_m) : lt_ev (d + 1) 141 [.inr (.inr (some a0)), .inr (.inr (some a1))] m = if ¬ (m.1 a1 7) = 0 then (some (some (.inl (0 : Int32)), m)) else (lt_cI (lt_ev d 142 [.inr (.inr (some a0)), .inr (.inr (some a1))] m) (fun v1 m1 => (if v1 ≤ (m1.1 a1 6) then (some (some (.inl (0 : Int32)), m1)) else (some (some (.inl (1 : Int32)), m1))))) := by
  refine Eq.trans (lt_enter2 (ls := [some (.inr (.inr (some a0))), some (.inr (.inr (some a1)))]) hY141 (Nat.le_of_ble_eq_true rfl) (by rfl)) ?_
  refine Eq.trans (li_aload_n d141_0 (by rfl)) ?_
  refine Eq.trans (li_geti d141_1 fa_11_269 h1 rfl) ?_
  refine Eq.trans (li_if_ne (t := 23) d141_4 (by rfl)) ?_
  refine lt_ite (fun c1 => ?_) (fun c1 => ?_)
  · refine Eq.trans (li_iconst d141_23 ic_0) ?_
    exact li_zret d141_24 rfl (by decide)
  · refine Eq.trans (li_aload_n d141_7 (by rfl)) ?_
    refine Eq.trans (li_aload_n d141_8 (by rfl)) ?_
    refine Eq.trans (li_ivI d141_9 ca_11_417 kd_142 kl_142 (by rfl) (by rfl) h0 (Nat.le_of_ble_eq_true rfl) (Nat.le_of_ble_eq_true rfl)) ?_
    refine lt_cI_c (fun v1 m1 => ?_)
    refine Eq.trans (li_aload_n d141_12 (by rfl)) ?_
    refine Eq.trans (li_geti d141_13 fa_11_296 h1 rfl) ?_
    refine Eq.trans (li_icmp_le (t := 23) d141_16 (by rfl)) ?_
    refine lt_ite (fun c2 => ?_) (fun c2 => ?_)
    · refine Eq.trans (li_iconst d141_23 ic_0) ?_
      exact li_zret d141_24 rfl (by decide)
    · refine Eq.trans (li_iconst d141_19 ic_1) ?_
      refine Eq.trans (li_goto (t := 24) d141_20 (by rfl)) ?_
      exact li_zret d141_24 rfl (by decide)
/-! TransitSeals.hourOfArrival(LTransitSeals$Movement;)I -/
theorem d142_0 : decode Y142.2.1 0 = .ok (.aload_n 1, 1) := by decide +kernel
theorem d142_1 : decode Y142.2.1 1 = .ok (.aload_n 1, 1) := by decide +kernel
theorem d142_2 : decode Y142.2.1 2 = .ok (.getfield 256, 3) := by decide +kernel
theorem d142_5 : decode Y142.2.1 5 = .ok (.iconst 1, 1) := by decide +kernel
theorem d142_6 : decode Y142.2.1 6 = .ok (.isub, 1) := by decide +kernel
theorem d142_7 : decode Y142.2.1 7 = .ok (.invokevirtual 305, 3) := by decide +kernel
theorem d142_10 : decode Y142.2.1 10 = .ok (.aload_n 0, 1) := by decide +kernel
theorem d142_11 : decode Y142.2.1 11 = .ok (.aload_n 1, 1) := by decide +kernel
theorem d142_12 : decode Y142.2.1 12 = .ok (.invokevirtual 308, 3) := by decide +kernel
theorem d142_15 : decode Y142.2.1 15 = .ok (.iadd, 1) := by decide +kernel
theorem d142_16 : decode Y142.2.1 16 = .ok (.ireturn, 1) := by decide +kernel
theorem E142 (d : Nat) (a0 : Nat) (a1 : Nat) (h0 : ts_sh a0 = (0, 11)) (h1 : ts_sh a1 = (0, 4)) (m : lt_m) : lt_ev (d + 1) 142 [.inr (.inr (some a0)), .inr (.inr (some a1))] m = lt_cI (lt_ev d 131 [.inr (.inr (some a1)), .inl ((m.1 a1 9) - (1 : Int32))] m) (fun v1 m1 => (lt_cI (lt_ev d 133 [.inr (.inr (some a0)), .inr (.inr (some a1))] m1) (fun v2 m2 => (some (some (.inl (v1 + v2)), m2))))) := by
  refine Eq.trans (lt_enter2 (ls := [some (.inr (.inr (some a0))), some (.inr (.inr (some a1)))]) hY142 (Nat.le_of_ble_eq_true rfl) (by rfl)) ?_
  refine Eq.trans (li_aload_n d142_0 (by rfl)) ?_
  refine Eq.trans (li_aload_n d142_1 (by rfl)) ?_
  refine Eq.trans (li_geti d142_2 fa_11_256 h1 rfl) ?_
  refine Eq.trans (li_iconst d142_5 ic_1) ?_
  refine Eq.trans (li_isub d142_6) ?_
  refine Eq.trans (li_ivI d142_7 ca_11_305 kd_131 kl_131 (by rfl) (by rfl) h1 (Nat.le_of_ble_eq_true rfl) (Nat.le_of_ble_eq_true rfl)) ?_
  refine lt_cI_c (fun v1 m1 => ?_)
  refine Eq.trans (li_aload_n d142_10 (by rfl)) ?_
  refine Eq.trans (li_aload_n d142_11 (by rfl)) ?_
  refine Eq.trans (li_ivI d142_12 ca_11_308 kd_133 kl_133 (by rfl) (by rfl) h0 (Nat.le_of_ble_eq_true rfl) (Nat.le_of_ble_eq_true rfl)) ?_
  refine lt_cI_c (fun v2 m2 => ?_)
  refine Eq.trans (li_iadd d142_15) ?_
  exact li_iret d142_16 rfl
/-! TransitSeals.next(I)I -/
theorem d143_0 : decode Y143.2.1 0 = .ok (.aload_n 0, 1) := by decide +kernel
theorem d143_1 : decode Y143.2.1 1 = .ok (.getfield 61, 3) := by decide +kernel
theorem d143_4 : decode Y143.2.1 4 = .ok (.iload_n 1, 1) := by decide +kernel
theorem d143_5 : decode Y143.2.1 5 = .ok (.invokevirtual 105, 3) := by decide +kernel
theorem d143_8 : decode Y143.2.1 8 = .ok (.ifCond .ne 5, 3) := by decide +kernel
theorem d143_11 : decode Y143.2.1 11 = .ok (.iconst (-1), 1) := by decide +kernel
theorem d143_12 : decode Y143.2.1 12 = .ok (.ireturn, 1) := by decide +kernel
theorem d143_13 : decode Y143.2.1 13 = .ok (.iconst 0, 1) := by decide +kernel
theorem d143_14 : decode Y143.2.1 14 = .ok (.istore_n 2, 1) := by decide +kernel
theorem d143_15 : decode Y143.2.1 15 = .ok (.iconst 0, 1) := by decide +kernel
theorem d143_16 : decode Y143.2.1 16 = .ok (.istore_n 3, 1) := by decide +kernel
theorem d143_17 : decode Y143.2.1 17 = .ok (.aload_n 0, 1) := by decide +kernel
theorem d143_18 : decode Y143.2.1 18 = .ok (.getfield 47, 3) := by decide +kernel
theorem d143_21 : decode Y143.2.1 21 = .ok (.getfield 315, 3) := by decide +kernel
theorem d143_24 : decode Y143.2.1 24 = .ok (.astore 4, 2) := by decide +kernel
theorem d143_26 : decode Y143.2.1 26 = .ok (.aload 4, 2) := by decide +kernel
theorem d143_28 : decode Y143.2.1 28 = .ok (.arraylength, 1) := by decide +kernel
theorem d143_29 : decode Y143.2.1 29 = .ok (.istore 5, 2) := by decide +kernel
theorem d143_31 : decode Y143.2.1 31 = .ok (.iconst 0, 1) := by decide +kernel
theorem d143_32 : decode Y143.2.1 32 = .ok (.istore 6, 2) := by decide +kernel
theorem d143_34 : decode Y143.2.1 34 = .ok (.iload 6, 2) := by decide +kernel
theorem d143_36 : decode Y143.2.1 36 = .ok (.iload 5, 2) := by decide +kernel
theorem d143_38 : decode Y143.2.1 38 = .ok (.if_icmp .ge 49, 3) := by decide +kernel
theorem d143_41 : decode Y143.2.1 41 = .ok (.aload 4, 2) := by decide +kernel
theorem d143_43 : decode Y143.2.1 43 = .ok (.iload 6, 2) := by decide +kernel
theorem d143_45 : decode Y143.2.1 45 = .ok (.aaload, 1) := by decide +kernel
theorem d143_46 : decode Y143.2.1 46 = .ok (.astore 7, 2) := by decide +kernel
theorem d143_48 : decode Y143.2.1 48 = .ok (.aload 7, 2) := by decide +kernel
theorem d143_50 : decode Y143.2.1 50 = .ok (.invokevirtual 244, 3) := by decide +kernel
theorem d143_53 : decode Y143.2.1 53 = .ok (.ifCond .eq 28, 3) := by decide +kernel
theorem d143_56 : decode Y143.2.1 56 = .ok (.aload 7, 2) := by decide +kernel
theorem d143_58 : decode Y143.2.1 58 = .ok (.invokevirtual 247, 3) := by decide +kernel
theorem d143_61 : decode Y143.2.1 61 = .ok (.iload_n 1, 1) := by decide +kernel
theorem d143_62 : decode Y143.2.1 62 = .ok (.if_icmp .ne 19, 3) := by decide +kernel
theorem d143_65 : decode Y143.2.1 65 = .ok (.iload_n 2, 1) := by decide +kernel
theorem d143_66 : decode Y143.2.1 66 = .ok (.aload 7, 2) := by decide +kernel
theorem d143_68 : decode Y143.2.1 68 = .ok (.invokevirtual 319, 3) := by decide +kernel
theorem d143_71 : decode Y143.2.1 71 = .ok (.ior, 1) := by decide +kernel
theorem d143_72 : decode Y143.2.1 72 = .ok (.istore_n 2, 1) := by decide +kernel
theorem d143_73 : decode Y143.2.1 73 = .ok (.iload_n 3, 1) := by decide +kernel
theorem d143_74 : decode Y143.2.1 74 = .ok (.aload 7, 2) := by decide +kernel
theorem d143_76 : decode Y143.2.1 76 = .ok (.getfield 266, 3) := by decide +kernel
theorem d143_79 : decode Y143.2.1 79 = .ok (.iadd, 1) := by decide +kernel
theorem d143_80 : decode Y143.2.1 80 = .ok (.istore_n 3, 1) := by decide +kernel
theorem d143_81 : decode Y143.2.1 81 = .ok (.iinc 6 1, 3) := by decide +kernel
theorem d143_84 : decode Y143.2.1 84 = .ok (.goto (-50), 3) := by decide +kernel
theorem d143_87 : decode Y143.2.1 87 = .ok (.aload_n 0, 1) := by decide +kernel
theorem d143_88 : decode Y143.2.1 88 = .ok (.iload_n 2, 1) := by decide +kernel
theorem d143_89 : decode Y143.2.1 89 = .ok (.invokestatic 152, 3) := by decide +kernel
theorem d143_92 : decode Y143.2.1 92 = .ok (.iload_n 3, 1) := by decide +kernel
theorem d143_93 : decode Y143.2.1 93 = .ok (.invokevirtual 144, 3) := by decide +kernel
theorem d143_96 : decode Y143.2.1 96 = .ok (.iload_n 2, 1) := by decide +kernel
theorem d143_97 : decode Y143.2.1 97 = .ok (.ireturn, 1) := by decide +kernel
noncomputable def L143_34 (d : Nat) (a0 : Nat) (x1 : Int32) (x2 : Int32) (x3 : Int32) (x6 : Int32) (o7 : Option ts_V) (m : lt_m) : Option lt_r := lt_run d Y143 34 [some (.inr (.inr (some a0))), some (.inl x1), some (.inl x2), some (.inl x3), some (.inr (.inr (some ((a0 + 13) + 3)))), some (.inl (20 : Int32)), some (.inl x6), o7] [] m
theorem E143 (d : Nat) (a0 : Nat) (x1 : Int32) (h0 : ts_sh a0 = (0, 11)) (m : lt_m) : lt_ev (d + 1) 143 [.inr (.inr (some a0)), .inl x1] m = lt_gd (ts_sh (m.2.2.1) = (0, 5)) (lt_cI (lt_ev d 14 [.inr (.inr (some (m.2.2.1))), .inl x1] m) (fun v1 m1 => (if ¬ v1 = 0 then (L143_34 d a0 x1 (0 : Int32) (0 : Int32) (0 : Int32) none m1) else (some (some (.inl (-1 : Int32)), m1))))) := by
  refine Eq.trans (lt_enter2 (ls := [some (.inr (.inr (some a0))), some (.inl x1), none, none, none, none, none, none]) hY143 (Nat.le_of_ble_eq_true rfl) (by rfl)) ?_
  refine Eq.trans (li_aload_n d143_0 (by rfl)) ?_
  refine Eq.trans (li_getnet d143_1 fa_11_61 h0) ?_
  refine Eq.trans (li_iload_n d143_4 (by rfl)) ?_
  refine Eq.trans (li_ginv d143_5 ca_11_105 kl_14 (by rfl)) ?_
  refine lt_gd_c (fun g1 => ?_)
  refine Eq.trans (li_ivI d143_5 ca_11_105 kd_14 kl_14 (by rfl) (by rfl) g1 (Nat.le_of_ble_eq_true rfl) (Nat.le_of_ble_eq_true rfl)) ?_
  refine lt_cI_c (fun v1 m1 => ?_)
  refine Eq.trans (li_if_ne (t := 13) d143_8 (by rfl)) ?_
  refine lt_ite (fun c1 => ?_) (fun c1 => ?_)
  · refine Eq.trans (li_iconst d143_13 ic_0) ?_
    refine Eq.trans (li_istore_n (ls' := [some (.inr (.inr (some a0))), some (.inl x1), some (.inl (0 : Int32)), none, none, none, none, none]) d143_14 (by decide) (by rfl)) ?_
    refine Eq.trans (li_iconst d143_15 ic_0) ?_
    refine Eq.trans (li_istore_n (ls' := [some (.inr (.inr (some a0))), some (.inl x1), some (.inl (0 : Int32)), some (.inl (0 : Int32)), none, none, none, none]) d143_16 (by decide) (by rfl)) ?_
    refine Eq.trans (li_aload_n d143_17 (by rfl)) ?_
    refine Eq.trans (li_getr d143_18 fa_11_47 h0 rfl rfl rfl (by decide)) ?_
    refine Eq.trans (li_getr d143_21 fa_11_315 (sf_of h0 5 (by decide) (by decide)) rfl rfl rfl (by decide)) ?_
    refine Eq.trans (li_astore (ls' := [some (.inr (.inr (some a0))), some (.inl x1), some (.inl (0 : Int32)), some (.inl (0 : Int32)), some (.inr (.inr (some ((a0 + 13) + 3)))), none, none, none]) d143_24 (by decide) (by rfl)) ?_
    refine Eq.trans (li_aload d143_26 (by rfl)) ?_
    refine Eq.trans (li_alen d143_28 (sf_of (sf_of h0 5 (by decide) (by decide)) 2 (by decide) (by decide)) (by decide) (by rfl)) ?_
    refine Eq.trans (li_istore (ls' := [some (.inr (.inr (some a0))), some (.inl x1), some (.inl (0 : Int32)), some (.inl (0 : Int32)), some (.inr (.inr (some ((a0 + 13) + 3)))), some (.inl (20 : Int32)), none, none]) d143_29 (by decide) (by rfl)) ?_
    refine Eq.trans (li_iconst d143_31 ic_0) ?_
    refine Eq.trans (li_istore (ls' := [some (.inr (.inr (some a0))), some (.inl x1), some (.inl (0 : Int32)), some (.inl (0 : Int32)), some (.inr (.inr (some ((a0 + 13) + 3)))), some (.inl (20 : Int32)), some (.inl (0 : Int32)), none]) d143_32 (by decide) (by rfl)) ?_
    rfl
  · refine Eq.trans (li_iconst d143_11 ic_n1) ?_
    exact li_iret d143_12 rfl
theorem E143_34 (d : Nat) (a0 : Nat) (x1 : Int32) (x2 : Int32) (x3 : Int32) (x6 : Int32) (o7 : Option ts_V) (h0 : ts_sh a0 = (0, 11)) (m : lt_m) : L143_34 d a0 x1 x2 x3 x6 o7 m = if (20 : Int32) ≤ x6 then (lt_cI (lt_ev d 60 [.inl x2] m) (fun v1 m1 => (lt_cV (lt_ev d 74 [.inr (.inr (some a0)), .inl v1, .inl x3] m1) (fun m2 => (some (some (.inl x2), m2)))))) else (lt_gd (0 ≤ x6 ∧ (x6).toNatClampNeg < 20) (lt_cI (lt_ev d 62 [.inr (.inr (some (((a0 + 13) + 3) + 5 + 3 * (x6).toNatClampNeg)))] m) (fun v2 m3 => (if v2 = 0 then (L143_34 d a0 x1 x2 x3 (x6 + (1 : Int32)) (some (.inr (.inr (some (((a0 + 13) + 3) + 5 + 3 * (x6).toNatClampNeg))))) m3) else (lt_cI (lt_ev d 115 [.inr (.inr (some (((a0 + 13) + 3) + 5 + 3 * (x6).toNatClampNeg)))] m3) (fun v3 m4 => (if ¬ v3 = x1 then (L143_34 d a0 x1 x2 x3 (x6 + (1 : Int32)) (some (.inr (.inr (some (((a0 + 13) + 3) + 5 + 3 * (x6).toNatClampNeg))))) m4) else (lt_cI (lt_ev d 65 [.inr (.inr (some (((a0 + 13) + 3) + 5 + 3 * (x6).toNatClampNeg)))] m4) (fun v4 m5 => (L143_34 d a0 x1 (x2 ||| v4) (x3 + (m5.1 (((a0 + 13) + 3) + 5 + 3 * (x6).toNatClampNeg) 3)) (x6 + (1 : Int32)) (some (.inr (.inr (some (((a0 + 13) + 3) + 5 + 3 * (x6).toNatClampNeg))))) m5)))))))))) := by
  show lt_run d Y143 34 [some (.inr (.inr (some a0))), some (.inl x1), some (.inl x2), some (.inl x3), some (.inr (.inr (some ((a0 + 13) + 3)))), some (.inl (20 : Int32)), some (.inl x6), o7] [] m = _
  refine Eq.trans (li_iload d143_34 (by rfl)) ?_
  refine Eq.trans (li_iload d143_36 (by rfl)) ?_
  refine Eq.trans (li_icmp_ge (t := 87) d143_38 (by rfl)) ?_
  refine lt_ite (fun c1 => ?_) (fun c1 => ?_)
  · refine Eq.trans (li_aload_n d143_87 (by rfl)) ?_
    refine Eq.trans (li_iload_n d143_88 (by rfl)) ?_
    refine Eq.trans (li_isI d143_89 bi_11_152 ca_11_152 kd_60 (by rfl) (by rfl) (Nat.le_of_ble_eq_true rfl) (Nat.le_of_ble_eq_true rfl)) ?_
    refine lt_cI_c (fun v1 m1 => ?_)
    refine Eq.trans (li_iload_n d143_92 (by rfl)) ?_
    refine Eq.trans (li_ivV d143_93 ca_11_144 kd_74 kl_74 (by rfl) (by rfl) h0 (Nat.le_of_ble_eq_true rfl) (Nat.le_of_ble_eq_true rfl)) ?_
    refine lt_cV_c (fun m2 => ?_)
    refine Eq.trans (li_iload_n d143_96 (by rfl)) ?_
    exact li_iret d143_97 rfl
  · refine Eq.trans (li_aload d143_41 (by rfl)) ?_
    refine Eq.trans (li_iload d143_43 (by rfl)) ?_
    refine Eq.trans (li_aald4 d143_45 (sf_of (sf_of h0 5 (by decide) (by decide)) 2 (by decide) (by decide))) ?_
    refine lt_gd_c (fun g1 => ?_)
    refine Eq.trans (li_astore (ls' := [some (.inr (.inr (some a0))), some (.inl x1), some (.inl x2), some (.inl x3), some (.inr (.inr (some ((a0 + 13) + 3)))), some (.inl (20 : Int32)), some (.inl x6), some (.inr (.inr (some (((a0 + 13) + 3) + 5 + 3 * (x6).toNatClampNeg))))]) d143_46 (by decide) (by rfl)) ?_
    refine Eq.trans (li_aload d143_48 (by rfl)) ?_
    refine Eq.trans (li_ivI d143_50 ca_11_244 kd_62 kl_62 (by rfl) (by rfl) (sm_4 (sf_of (sf_of h0 5 (by decide) (by decide)) 2 (by decide) (by decide)) g1.2) (Nat.le_of_ble_eq_true rfl) (Nat.le_of_ble_eq_true rfl)) ?_
    refine lt_cI_c (fun v2 m3 => ?_)
    refine Eq.trans (li_if_eq (t := 81) d143_53 (by rfl)) ?_
    refine lt_ite (fun c2 => ?_) (fun c2 => ?_)
    · refine Eq.trans (li_iinc (ls' := [some (.inr (.inr (some a0))), some (.inl x1), some (.inl x2), some (.inl x3), some (.inr (.inr (some ((a0 + 13) + 3)))), some (.inl (20 : Int32)), some (.inl (x6 + (1 : Int32))), some (.inr (.inr (some (((a0 + 13) + 3) + 5 + 3 * (x6).toNatClampNeg))))]) d143_81 (by rfl) (by decide) ic_1 (by rfl)) ?_
      refine Eq.trans (li_goto (t := 34) d143_84 (by rfl)) ?_
      rfl
    · refine Eq.trans (li_aload d143_56 (by rfl)) ?_
      refine Eq.trans (li_ivI d143_58 ca_11_247 kd_115 kl_115 (by rfl) (by rfl) (sm_4 (sf_of (sf_of h0 5 (by decide) (by decide)) 2 (by decide) (by decide)) g1.2) (Nat.le_of_ble_eq_true rfl) (Nat.le_of_ble_eq_true rfl)) ?_
      refine lt_cI_c (fun v3 m4 => ?_)
      refine Eq.trans (li_iload_n d143_61 (by rfl)) ?_
      refine Eq.trans (li_icmp_ne (t := 81) d143_62 (by rfl)) ?_
      refine lt_ite (fun c3 => ?_) (fun c3 => ?_)
      · refine Eq.trans (li_iinc (ls' := [some (.inr (.inr (some a0))), some (.inl x1), some (.inl x2), some (.inl x3), some (.inr (.inr (some ((a0 + 13) + 3)))), some (.inl (20 : Int32)), some (.inl (x6 + (1 : Int32))), some (.inr (.inr (some (((a0 + 13) + 3) + 5 + 3 * (x6).toNatClampNeg))))]) d143_81 (by rfl) (by decide) ic_1 (by rfl)) ?_
        refine Eq.trans (li_goto (t := 34) d143_84 (by rfl)) ?_
        rfl
      · refine Eq.trans (li_iload_n d143_65 (by rfl)) ?_
        refine Eq.trans (li_aload d143_66 (by rfl)) ?_
        refine Eq.trans (li_ivI d143_68 ca_11_319 kd_65 kl_65 (by rfl) (by rfl) (sm_4 (sf_of (sf_of h0 5 (by decide) (by decide)) 2 (by decide) (by decide)) g1.2) (Nat.le_of_ble_eq_true rfl) (Nat.le_of_ble_eq_true rfl)) ?_
        refine lt_cI_c (fun v4 m5 => ?_)
        refine Eq.trans (li_ior d143_71) ?_
        refine Eq.trans (li_istore_n (ls' := [some (.inr (.inr (some a0))), some (.inl x1), some (.inl (x2 ||| v4)), some (.inl x3), some (.inr (.inr (some ((a0 + 13) + 3)))), some (.inl (20 : Int32)), some (.inl x6), some (.inr (.inr (some (((a0 + 13) + 3) + 5 + 3 * (x6).toNatClampNeg))))]) d143_72 (by decide) (by rfl)) ?_
        refine Eq.trans (li_iload_n d143_73 (by rfl)) ?_
        refine Eq.trans (li_aload d143_74 (by rfl)) ?_
        refine Eq.trans (li_geti d143_76 fa_11_266 (sm_4 (sf_of (sf_of h0 5 (by decide) (by decide)) 2 (by decide) (by decide)) g1.2) rfl) ?_
        refine Eq.trans (li_iadd d143_79) ?_
        refine Eq.trans (li_istore_n (ls' := [some (.inr (.inr (some a0))), some (.inl x1), some (.inl (x2 ||| v4)), some (.inl (x3 + (m5.1 (((a0 + 13) + 3) + 5 + 3 * (x6).toNatClampNeg) 3))), some (.inr (.inr (some ((a0 + 13) + 3)))), some (.inl (20 : Int32)), some (.inl x6), some (.inr (.inr (some (((a0 + 13) + 3) + 5 + 3 * (x6).toNatClampNeg))))]) d143_80 (by decide) (by rfl)) ?_
        refine Eq.trans (li_iinc (ls' := [some (.inr (.inr (some a0))), some (.inl x1), some (.inl (x2 ||| v4)), some (.inl (x3 + (m5.1 (((a0 + 13) + 3) + 5 + 3 * (x6).toNatClampNeg) 3))), some (.inr (.inr (some ((a0 + 13) + 3)))), some (.inl (20 : Int32)), some (.inl (x6 + (1 : Int32))), some (.inr (.inr (some (((a0 + 13) + 3) + 5 + 3 * (x6).toNatClampNeg))))]) d143_81 (by rfl) (by decide) ic_1 (by rfl)) ?_
        refine Eq.trans (li_goto (t := 34) d143_84 (by rfl)) ?_
        rfl
/-! TransitSeals.worth(I)I -/
theorem d144_0 : decode Y144.2.1 0 = .ok (.aload_n 0, 1) := by decide +kernel
theorem d144_1 : decode Y144.2.1 1 = .ok (.getfield 47, 3) := by decide +kernel
theorem d144_4 : decode Y144.2.1 4 = .ok (.iload_n 1, 1) := by decide +kernel
theorem d144_5 : decode Y144.2.1 5 = .ok (.invokevirtual 175, 3) := by decide +kernel
theorem d144_8 : decode Y144.2.1 8 = .ok (.ifCond .ne 5, 3) := by decide +kernel
theorem d144_11 : decode Y144.2.1 11 = .ok (.iconst (-1), 1) := by decide +kernel
theorem d144_12 : decode Y144.2.1 12 = .ok (.ireturn, 1) := by decide +kernel
theorem d144_13 : decode Y144.2.1 13 = .ok (.iconst 0, 1) := by decide +kernel
theorem d144_14 : decode Y144.2.1 14 = .ok (.istore_n 2, 1) := by decide +kernel
theorem d144_15 : decode Y144.2.1 15 = .ok (.iconst 0, 1) := by decide +kernel
theorem d144_16 : decode Y144.2.1 16 = .ok (.istore_n 3, 1) := by decide +kernel
theorem d144_17 : decode Y144.2.1 17 = .ok (.aload_n 0, 1) := by decide +kernel
theorem d144_18 : decode Y144.2.1 18 = .ok (.getfield 47, 3) := by decide +kernel
theorem d144_21 : decode Y144.2.1 21 = .ok (.getfield 315, 3) := by decide +kernel
theorem d144_24 : decode Y144.2.1 24 = .ok (.astore 4, 2) := by decide +kernel
theorem d144_26 : decode Y144.2.1 26 = .ok (.aload 4, 2) := by decide +kernel
theorem d144_28 : decode Y144.2.1 28 = .ok (.arraylength, 1) := by decide +kernel
theorem d144_29 : decode Y144.2.1 29 = .ok (.istore 5, 2) := by decide +kernel
theorem d144_31 : decode Y144.2.1 31 = .ok (.iconst 0, 1) := by decide +kernel
theorem d144_32 : decode Y144.2.1 32 = .ok (.istore 6, 2) := by decide +kernel
theorem d144_34 : decode Y144.2.1 34 = .ok (.iload 6, 2) := by decide +kernel
theorem d144_36 : decode Y144.2.1 36 = .ok (.iload 5, 2) := by decide +kernel
theorem d144_38 : decode Y144.2.1 38 = .ok (.if_icmp .ge 59, 3) := by decide +kernel
theorem d144_41 : decode Y144.2.1 41 = .ok (.aload 4, 2) := by decide +kernel
theorem d144_43 : decode Y144.2.1 43 = .ok (.iload 6, 2) := by decide +kernel
theorem d144_45 : decode Y144.2.1 45 = .ok (.aaload, 1) := by decide +kernel
theorem d144_46 : decode Y144.2.1 46 = .ok (.astore 7, 2) := by decide +kernel
theorem d144_48 : decode Y144.2.1 48 = .ok (.aload 7, 2) := by decide +kernel
theorem d144_50 : decode Y144.2.1 50 = .ok (.iload_n 1, 1) := by decide +kernel
theorem d144_51 : decode Y144.2.1 51 = .ok (.invokevirtual 329, 3) := by decide +kernel
theorem d144_54 : decode Y144.2.1 54 = .ok (.ifCond .eq 37, 3) := by decide +kernel
theorem d144_57 : decode Y144.2.1 57 = .ok (.iload_n 2, 1) := by decide +kernel
theorem d144_58 : decode Y144.2.1 58 = .ok (.aload 7, 2) := by decide +kernel
theorem d144_60 : decode Y144.2.1 60 = .ok (.getfield 291, 3) := by decide +kernel
theorem d144_63 : decode Y144.2.1 63 = .ok (.iadd, 1) := by decide +kernel
theorem d144_64 : decode Y144.2.1 64 = .ok (.istore_n 2, 1) := by decide +kernel
theorem d144_65 : decode Y144.2.1 65 = .ok (.iload_n 3, 1) := by decide +kernel
theorem d144_66 : decode Y144.2.1 66 = .ok (.aload 7, 2) := by decide +kernel
theorem d144_68 : decode Y144.2.1 68 = .ok (.getfield 269, 3) := by decide +kernel
theorem d144_71 : decode Y144.2.1 71 = .ok (.iconst 3, 1) := by decide +kernel
theorem d144_72 : decode Y144.2.1 72 = .ok (.if_icmp .eq 12, 3) := by decide +kernel
theorem d144_75 : decode Y144.2.1 75 = .ok (.aload 7, 2) := by decide +kernel
theorem d144_77 : decode Y144.2.1 77 = .ok (.getfield 269, 3) := by decide +kernel
theorem d144_80 : decode Y144.2.1 80 = .ok (.iconst 4, 1) := by decide +kernel
theorem d144_81 : decode Y144.2.1 81 = .ok (.if_icmp .ne 7, 3) := by decide +kernel
theorem d144_84 : decode Y144.2.1 84 = .ok (.iconst 1, 1) := by decide +kernel
theorem d144_85 : decode Y144.2.1 85 = .ok (.goto 4, 3) := by decide +kernel
theorem d144_88 : decode Y144.2.1 88 = .ok (.iconst 0, 1) := by decide +kernel
theorem d144_89 : decode Y144.2.1 89 = .ok (.iadd, 1) := by decide +kernel
theorem d144_90 : decode Y144.2.1 90 = .ok (.istore_n 3, 1) := by decide +kernel
theorem d144_91 : decode Y144.2.1 91 = .ok (.iinc 6 1, 3) := by decide +kernel
theorem d144_94 : decode Y144.2.1 94 = .ok (.goto (-60), 3) := by decide +kernel
theorem d144_97 : decode Y144.2.1 97 = .ok (.aload_n 0, 1) := by decide +kernel
theorem d144_98 : decode Y144.2.1 98 = .ok (.iload_n 2, 1) := by decide +kernel
theorem d144_99 : decode Y144.2.1 99 = .ok (.aload_n 0, 1) := by decide +kernel
theorem d144_100 : decode Y144.2.1 100 = .ok (.getfield 47, 3) := by decide +kernel
theorem d144_103 : decode Y144.2.1 103 = .ok (.iload_n 1, 1) := by decide +kernel
theorem d144_104 : decode Y144.2.1 104 = .ok (.invokevirtual 178, 3) := by decide +kernel
theorem d144_107 : decode Y144.2.1 107 = .ok (.isub, 1) := by decide +kernel
theorem d144_108 : decode Y144.2.1 108 = .ok (.iload_n 3, 1) := by decide +kernel
theorem d144_109 : decode Y144.2.1 109 = .ok (.invokevirtual 144, 3) := by decide +kernel
theorem d144_112 : decode Y144.2.1 112 = .ok (.iload_n 2, 1) := by decide +kernel
theorem d144_113 : decode Y144.2.1 113 = .ok (.ireturn, 1) := by decide +kernel
noncomputable def L144_34 (d : Nat) (a0 : Nat) (x1 : Int32) (x2 : Int32) (x3 : Int32) (x6 : Int32) (o7 : Option ts_V) (m : lt_m) : Option lt_r := lt_run d Y144 34 [some (.inr (.inr (some a0))), some (.inl x1), some (.inl x2), some (.inl x3), some (.inr (.inr (some ((a0 + 13) + 3)))), some (.inl (20 : Int32)), some (.inl x6), o7] [] m
theorem E144 (d : Nat) (a0 : Nat) (x1 : Int32) (h0 : ts_sh a0 = (0, 11)) (m : lt_m) : lt_ev (d + 1) 144 [.inr (.inr (some a0)), .inl x1] m = lt_cI (lt_ev d 90 [.inr (.inr (some (a0 + 13))), .inl x1] m) (fun v1 m1 => (if ¬ v1 = 0 then (L144_34 d a0 x1 (0 : Int32) (0 : Int32) (0 : Int32) none m1) else (some (some (.inl (-1 : Int32)), m1)))) := by
  refine Eq.trans (lt_enter2 (ls := [some (.inr (.inr (some a0))), some (.inl x1), none, none, none, none, none, none]) hY144 (Nat.le_of_ble_eq_true rfl) (by rfl)) ?_
  refine Eq.trans (li_aload_n d144_0 (by rfl)) ?_
  refine Eq.trans (li_getr d144_1 fa_11_47 h0 rfl rfl rfl (by decide)) ?_
  refine Eq.trans (li_iload_n d144_4 (by rfl)) ?_
  refine Eq.trans (li_ivI d144_5 ca_11_175 kd_90 kl_90 (by rfl) (by rfl) (sf_of h0 5 (by decide) (by decide)) (Nat.le_of_ble_eq_true rfl) (Nat.le_of_ble_eq_true rfl)) ?_
  refine lt_cI_c (fun v1 m1 => ?_)
  refine Eq.trans (li_if_ne (t := 13) d144_8 (by rfl)) ?_
  refine lt_ite (fun c1 => ?_) (fun c1 => ?_)
  · refine Eq.trans (li_iconst d144_13 ic_0) ?_
    refine Eq.trans (li_istore_n (ls' := [some (.inr (.inr (some a0))), some (.inl x1), some (.inl (0 : Int32)), none, none, none, none, none]) d144_14 (by decide) (by rfl)) ?_
    refine Eq.trans (li_iconst d144_15 ic_0) ?_
    refine Eq.trans (li_istore_n (ls' := [some (.inr (.inr (some a0))), some (.inl x1), some (.inl (0 : Int32)), some (.inl (0 : Int32)), none, none, none, none]) d144_16 (by decide) (by rfl)) ?_
    refine Eq.trans (li_aload_n d144_17 (by rfl)) ?_
    refine Eq.trans (li_getr d144_18 fa_11_47 h0 rfl rfl rfl (by decide)) ?_
    refine Eq.trans (li_getr d144_21 fa_11_315 (sf_of h0 5 (by decide) (by decide)) rfl rfl rfl (by decide)) ?_
    refine Eq.trans (li_astore (ls' := [some (.inr (.inr (some a0))), some (.inl x1), some (.inl (0 : Int32)), some (.inl (0 : Int32)), some (.inr (.inr (some ((a0 + 13) + 3)))), none, none, none]) d144_24 (by decide) (by rfl)) ?_
    refine Eq.trans (li_aload d144_26 (by rfl)) ?_
    refine Eq.trans (li_alen d144_28 (sf_of (sf_of h0 5 (by decide) (by decide)) 2 (by decide) (by decide)) (by decide) (by rfl)) ?_
    refine Eq.trans (li_istore (ls' := [some (.inr (.inr (some a0))), some (.inl x1), some (.inl (0 : Int32)), some (.inl (0 : Int32)), some (.inr (.inr (some ((a0 + 13) + 3)))), some (.inl (20 : Int32)), none, none]) d144_29 (by decide) (by rfl)) ?_
    refine Eq.trans (li_iconst d144_31 ic_0) ?_
    refine Eq.trans (li_istore (ls' := [some (.inr (.inr (some a0))), some (.inl x1), some (.inl (0 : Int32)), some (.inl (0 : Int32)), some (.inr (.inr (some ((a0 + 13) + 3)))), some (.inl (20 : Int32)), some (.inl (0 : Int32)), none]) d144_32 (by decide) (by rfl)) ?_
    rfl
  · refine Eq.trans (li_iconst d144_11 ic_n1) ?_
    exact li_iret d144_12 rfl
theorem E144_34 (d : Nat) (a0 : Nat) (x1 : Int32) (x2 : Int32) (x3 : Int32) (x6 : Int32) (o7 : Option ts_V) (h0 : ts_sh a0 = (0, 11)) (m : lt_m) : L144_34 d a0 x1 x2 x3 x6 o7 m = if (20 : Int32) ≤ x6 then (lt_cI (lt_ev d 91 [.inr (.inr (some (a0 + 13))), .inl x1] m) (fun v1 m1 => (lt_cV (lt_ev d 74 [.inr (.inr (some a0)), .inl (x2 - v1), .inl x3] m1) (fun m2 => (some (some (.inl x2), m2)))))) else (lt_gd (0 ≤ x6 ∧ (x6).toNatClampNeg < 20) (lt_cI (lt_ev d 92 [.inr (.inr (some (((a0 + 13) + 3) + 5 + 3 * (x6).toNatClampNeg))), .inl x1] m) (fun v2 m3 => (if v2 = 0 then (L144_34 d a0 x1 x2 x3 (x6 + (1 : Int32)) (some (.inr (.inr (some (((a0 + 13) + 3) + 5 + 3 * (x6).toNatClampNeg))))) m3) else (if (m3.1 (((a0 + 13) + 3) + 5 + 3 * (x6).toNatClampNeg) 7) = (3 : Int32) then (L144_34 d a0 x1 (x2 + (m3.1 (((a0 + 13) + 3) + 5 + 3 * (x6).toNatClampNeg) 4)) (x3 + (1 : Int32)) (x6 + (1 : Int32)) (some (.inr (.inr (some (((a0 + 13) + 3) + 5 + 3 * (x6).toNatClampNeg))))) m3) else (if ¬ (m3.1 (((a0 + 13) + 3) + 5 + 3 * (x6).toNatClampNeg) 7) = (4 : Int32) then (L144_34 d a0 x1 (x2 + (m3.1 (((a0 + 13) + 3) + 5 + 3 * (x6).toNatClampNeg) 4)) (x3 + (0 : Int32)) (x6 + (1 : Int32)) (some (.inr (.inr (some (((a0 + 13) + 3) + 5 + 3 * (x6).toNatClampNeg))))) m3) else (L144_34 d a0 x1 (x2 + (m3.1 (((a0 + 13) + 3) + 5 + 3 * (x6).toNatClampNeg) 4)) (x3 + (1 : Int32)) (x6 + (1 : Int32)) (some (.inr (.inr (some (((a0 + 13) + 3) + 5 + 3 * (x6).toNatClampNeg))))) m3))))))) := by
  show lt_run d Y144 34 [some (.inr (.inr (some a0))), some (.inl x1), some (.inl x2), some (.inl x3), some (.inr (.inr (some ((a0 + 13) + 3)))), some (.inl (20 : Int32)), some (.inl x6), o7] [] m = _
  refine Eq.trans (li_iload d144_34 (by rfl)) ?_
  refine Eq.trans (li_iload d144_36 (by rfl)) ?_
  refine Eq.trans (li_icmp_ge (t := 97) d144_38 (by rfl)) ?_
  refine lt_ite (fun c1 => ?_) (fun c1 => ?_)
  · refine Eq.trans (li_aload_n d144_97 (by rfl)) ?_
    refine Eq.trans (li_iload_n d144_98 (by rfl)) ?_
    refine Eq.trans (li_aload_n d144_99 (by rfl)) ?_
    refine Eq.trans (li_getr d144_100 fa_11_47 h0 rfl rfl rfl (by decide)) ?_
    refine Eq.trans (li_iload_n d144_103 (by rfl)) ?_
    refine Eq.trans (li_ivI d144_104 ca_11_178 kd_91 kl_91 (by rfl) (by rfl) (sf_of h0 5 (by decide) (by decide)) (Nat.le_of_ble_eq_true rfl) (Nat.le_of_ble_eq_true rfl)) ?_
    refine lt_cI_c (fun v1 m1 => ?_)
    refine Eq.trans (li_isub d144_107) ?_
    refine Eq.trans (li_iload_n d144_108 (by rfl)) ?_
    refine Eq.trans (li_ivV d144_109 ca_11_144 kd_74 kl_74 (by rfl) (by rfl) h0 (Nat.le_of_ble_eq_true rfl) (Nat.le_of_ble_eq_true rfl)) ?_
    refine lt_cV_c (fun m2 => ?_)
    refine Eq.trans (li_iload_n d144_112 (by rfl)) ?_
    exact li_iret d144_113 rfl
  · refine Eq.trans (li_aload d144_41 (by rfl)) ?_
    refine Eq.trans (li_iload d144_43 (by rfl)) ?_
    refine Eq.trans (li_aald4 d144_45 (sf_of (sf_of h0 5 (by decide) (by decide)) 2 (by decide) (by decide))) ?_
    refine lt_gd_c (fun g1 => ?_)
    refine Eq.trans (li_astore (ls' := [some (.inr (.inr (some a0))), some (.inl x1), some (.inl x2), some (.inl x3), some (.inr (.inr (some ((a0 + 13) + 3)))), some (.inl (20 : Int32)), some (.inl x6), some (.inr (.inr (some (((a0 + 13) + 3) + 5 + 3 * (x6).toNatClampNeg))))]) d144_46 (by decide) (by rfl)) ?_
    refine Eq.trans (li_aload d144_48 (by rfl)) ?_
    refine Eq.trans (li_iload_n d144_50 (by rfl)) ?_
    refine Eq.trans (li_ivI d144_51 ca_11_329 kd_92 kl_92 (by rfl) (by rfl) (sm_4 (sf_of (sf_of h0 5 (by decide) (by decide)) 2 (by decide) (by decide)) g1.2) (Nat.le_of_ble_eq_true rfl) (Nat.le_of_ble_eq_true rfl)) ?_
    refine lt_cI_c (fun v2 m3 => ?_)
    refine Eq.trans (li_if_eq (t := 91) d144_54 (by rfl)) ?_
    refine lt_ite (fun c2 => ?_) (fun c2 => ?_)
    · refine Eq.trans (li_iinc (ls' := [some (.inr (.inr (some a0))), some (.inl x1), some (.inl x2), some (.inl x3), some (.inr (.inr (some ((a0 + 13) + 3)))), some (.inl (20 : Int32)), some (.inl (x6 + (1 : Int32))), some (.inr (.inr (some (((a0 + 13) + 3) + 5 + 3 * (x6).toNatClampNeg))))]) d144_91 (by rfl) (by decide) ic_1 (by rfl)) ?_
      refine Eq.trans (li_goto (t := 34) d144_94 (by rfl)) ?_
      rfl
    · refine Eq.trans (li_iload_n d144_57 (by rfl)) ?_
      refine Eq.trans (li_aload d144_58 (by rfl)) ?_
      refine Eq.trans (li_geti d144_60 fa_11_291 (sm_4 (sf_of (sf_of h0 5 (by decide) (by decide)) 2 (by decide) (by decide)) g1.2) rfl) ?_
      refine Eq.trans (li_iadd d144_63) ?_
      refine Eq.trans (li_istore_n (ls' := [some (.inr (.inr (some a0))), some (.inl x1), some (.inl (x2 + (m3.1 (((a0 + 13) + 3) + 5 + 3 * (x6).toNatClampNeg) 4))), some (.inl x3), some (.inr (.inr (some ((a0 + 13) + 3)))), some (.inl (20 : Int32)), some (.inl x6), some (.inr (.inr (some (((a0 + 13) + 3) + 5 + 3 * (x6).toNatClampNeg))))]) d144_64 (by decide) (by rfl)) ?_
      refine Eq.trans (li_iload_n d144_65 (by rfl)) ?_
      refine Eq.trans (li_aload d144_66 (by rfl)) ?_
      refine Eq.trans (li_geti d144_68 fa_11_269 (sm_4 (sf_of (sf_of h0 5 (by decide) (by decide)) 2 (by decide) (by decide)) g1.2) rfl) ?_
      refine Eq.trans (li_iconst d144_71 ic_3) ?_
      refine Eq.trans (li_icmp_eq (t := 84) d144_72 (by rfl)) ?_
      refine lt_ite (fun c3 => ?_) (fun c3 => ?_)
      · refine Eq.trans (li_iconst d144_84 ic_1) ?_
        refine Eq.trans (li_goto (t := 89) d144_85 (by rfl)) ?_
        refine Eq.trans (li_iadd d144_89) ?_
        refine Eq.trans (li_istore_n (ls' := [some (.inr (.inr (some a0))), some (.inl x1), some (.inl (x2 + (m3.1 (((a0 + 13) + 3) + 5 + 3 * (x6).toNatClampNeg) 4))), some (.inl (x3 + (1 : Int32))), some (.inr (.inr (some ((a0 + 13) + 3)))), some (.inl (20 : Int32)), some (.inl x6), some (.inr (.inr (some (((a0 + 13) + 3) + 5 + 3 * (x6).toNatClampNeg))))]) d144_90 (by decide) (by rfl)) ?_
        refine Eq.trans (li_iinc (ls' := [some (.inr (.inr (some a0))), some (.inl x1), some (.inl (x2 + (m3.1 (((a0 + 13) + 3) + 5 + 3 * (x6).toNatClampNeg) 4))), some (.inl (x3 + (1 : Int32))), some (.inr (.inr (some ((a0 + 13) + 3)))), some (.inl (20 : Int32)), some (.inl (x6 + (1 : Int32))), some (.inr (.inr (some (((a0 + 13) + 3) + 5 + 3 * (x6).toNatClampNeg))))]) d144_91 (by rfl) (by decide) ic_1 (by rfl)) ?_
        refine Eq.trans (li_goto (t := 34) d144_94 (by rfl)) ?_
        rfl
      · refine Eq.trans (li_aload d144_75 (by rfl)) ?_
        refine Eq.trans (li_geti d144_77 fa_11_269 (sm_4 (sf_of (sf_of h0 5 (by decide) (by decide)) 2 (by decide) (by decide)) g1.2) rfl) ?_
        refine Eq.trans (li_iconst d144_80 ic_4) ?_
        refine Eq.trans (li_icmp_ne (t := 88) d144_81 (by rfl)) ?_
        refine lt_ite (fun c4 => ?_) (fun c4 => ?_)
        · refine Eq.trans (li_iconst d144_88 ic_0) ?_
          refine Eq.trans (li_iadd d144_89) ?_
          refine Eq.trans (li_istore_n (ls' := [some (.inr (.inr (some a0))), some (.inl x1), some (.inl (x2 + (m3.1 (((a0 + 13) + 3) + 5 + 3 * (x6).toNatClampNeg) 4))), some (.inl (x3 + (0 : Int32))), some (.inr (.inr (some ((a0 + 13) + 3)))), some (.inl (20 : Int32)), some (.inl x6), some (.inr (.inr (some (((a0 + 13) + 3) + 5 + 3 * (x6).toNatClampNeg))))]) d144_90 (by decide) (by rfl)) ?_
          refine Eq.trans (li_iinc (ls' := [some (.inr (.inr (some a0))), some (.inl x1), some (.inl (x2 + (m3.1 (((a0 + 13) + 3) + 5 + 3 * (x6).toNatClampNeg) 4))), some (.inl (x3 + (0 : Int32))), some (.inr (.inr (some ((a0 + 13) + 3)))), some (.inl (20 : Int32)), some (.inl (x6 + (1 : Int32))), some (.inr (.inr (some (((a0 + 13) + 3) + 5 + 3 * (x6).toNatClampNeg))))]) d144_91 (by rfl) (by decide) ic_1 (by rfl)) ?_
          refine Eq.trans (li_goto (t := 34) d144_94 (by rfl)) ?_
          rfl
        · refine Eq.trans (li_iconst d144_84 ic_1) ?_
          refine Eq.trans (li_goto (t := 89) d144_85 (by rfl)) ?_
          refine Eq.trans (li_iadd d144_89) ?_
          refine Eq.trans (li_istore_n (ls' := [some (.inr (.inr (some a0))), some (.inl x1), some (.inl (x2 + (m3.1 (((a0 + 13) + 3) + 5 + 3 * (x6).toNatClampNeg) 4))), some (.inl (x3 + (1 : Int32))), some (.inr (.inr (some ((a0 + 13) + 3)))), some (.inl (20 : Int32)), some (.inl x6), some (.inr (.inr (some (((a0 + 13) + 3) + 5 + 3 * (x6).toNatClampNeg))))]) d144_90 (by decide) (by rfl)) ?_
          refine Eq.trans (li_iinc (ls' := [some (.inr (.inr (some a0))), some (.inl x1), some (.inl (x2 + (m3.1 (((a0 + 13) + 3) + 5 + 3 * (x6).toNatClampNeg) 4))), some (.inl (x3 + (1 : Int32))), some (.inr (.inr (some ((a0 + 13) + 3)))), some (.inl (20 : Int32)), some (.inl (x6 + (1 : Int32))), some (.inr (.inr (some (((a0 + 13) + 3) + 5 + 3 * (x6).toNatClampNeg))))]) d144_91 (by rfl) (by decide) ic_1 (by rfl)) ?_
          refine Eq.trans (li_goto (t := 34) d144_94 (by rfl)) ?_
          rfl
/-! TransitSeals.busiest()I -/
theorem d145_0 : decode Y145.2.1 0 = .ok (.iconst (-1), 1) := by decide +kernel
theorem d145_1 : decode Y145.2.1 1 = .ok (.istore_n 1, 1) := by decide +kernel
theorem d145_2 : decode Y145.2.1 2 = .ok (.iconst 0, 1) := by decide +kernel
theorem d145_3 : decode Y145.2.1 3 = .ok (.istore_n 2, 1) := by decide +kernel
theorem d145_4 : decode Y145.2.1 4 = .ok (.iconst 0, 1) := by decide +kernel
theorem d145_5 : decode Y145.2.1 5 = .ok (.istore_n 3, 1) := by decide +kernel
theorem d145_6 : decode Y145.2.1 6 = .ok (.iload_n 3, 1) := by decide +kernel
theorem d145_7 : decode Y145.2.1 7 = .ok (.aload_n 0, 1) := by decide +kernel
theorem d145_8 : decode Y145.2.1 8 = .ok (.getfield 61, 3) := by decide +kernel
theorem d145_11 : decode Y145.2.1 11 = .ok (.getfield 101, 3) := by decide +kernel
theorem d145_14 : decode Y145.2.1 14 = .ok (.if_icmp .ge 36, 3) := by decide +kernel
theorem d145_17 : decode Y145.2.1 17 = .ok (.aload_n 0, 1) := by decide +kernel
theorem d145_18 : decode Y145.2.1 18 = .ok (.getfield 47, 3) := by decide +kernel
theorem d145_21 : decode Y145.2.1 21 = .ok (.iload_n 3, 1) := by decide +kernel
theorem d145_22 : decode Y145.2.1 22 = .ok (.invokevirtual 332, 3) := by decide +kernel
theorem d145_25 : decode Y145.2.1 25 = .ok (.istore 4, 2) := by decide +kernel
theorem d145_27 : decode Y145.2.1 27 = .ok (.iload 4, 2) := by decide +kernel
theorem d145_29 : decode Y145.2.1 29 = .ok (.invokestatic 152, 3) := by decide +kernel
theorem d145_32 : decode Y145.2.1 32 = .ok (.iload_n 2, 1) := by decide +kernel
theorem d145_33 : decode Y145.2.1 33 = .ok (.invokestatic 152, 3) := by decide +kernel
theorem d145_36 : decode Y145.2.1 36 = .ok (.if_icmp .le 8, 3) := by decide +kernel
theorem d145_39 : decode Y145.2.1 39 = .ok (.iload_n 3, 1) := by decide +kernel
theorem d145_40 : decode Y145.2.1 40 = .ok (.istore_n 1, 1) := by decide +kernel
theorem d145_41 : decode Y145.2.1 41 = .ok (.iload 4, 2) := by decide +kernel
theorem d145_43 : decode Y145.2.1 43 = .ok (.istore_n 2, 1) := by decide +kernel
theorem d145_44 : decode Y145.2.1 44 = .ok (.iinc 3 1, 3) := by decide +kernel
theorem d145_47 : decode Y145.2.1 47 = .ok (.goto (-41), 3) := by decide +kernel
theorem d145_50 : decode Y145.2.1 50 = .ok (.iload_n 1, 1) := by decide +kernel
theorem d145_51 : decode Y145.2.1 51 = .ok (.iconst (-1), 1) := by decide +kernel
theorem d145_52 : decode Y145.2.1 52 = .ok (.if_icmp .ne 6, 3) := by decide +kernel
theorem d145_55 : decode Y145.2.1 55 = .ok (.bipush (-2), 2) := by decide +kernel
theorem d145_57 : decode Y145.2.1 57 = .ok (.ireturn, 1) := by decide +kernel
theorem d145_58 : decode Y145.2.1 58 = .ok (.aload_n 0, 1) := by decide +kernel
theorem d145_59 : decode Y145.2.1 59 = .ok (.iload_n 2, 1) := by decide +kernel
theorem d145_60 : decode Y145.2.1 60 = .ok (.invokevirtual 157, 3) := by decide +kernel
theorem d145_63 : decode Y145.2.1 63 = .ok (.iload_n 1, 1) := by decide +kernel
theorem d145_64 : decode Y145.2.1 64 = .ok (.ireturn, 1) := by decide +kernel
noncomputable def L145_6 (d : Nat) (a0 : Nat) (x1 : Int32) (x2 : Int32) (x3 : Int32) (o4 : Option ts_V) (m : lt_m) : Option lt_r := lt_run d Y145 6 [some (.inr (.inr (some a0))), some (.inl x1), some (.inl x2), some (.inl x3), o4] [] m
theorem E145 (d : Nat) (a0 : Nat) (h0 : ts_sh a0 = (0, 11)) (m : lt_m) : lt_ev (d + 1) 145 [.inr (.inr (some a0))] m = L145_6 d a0 (-1 : Int32) (0 : Int32) (0 : Int32) none m := by
  refine Eq.trans (lt_enter2 (ls := [some (.inr (.inr (some a0))), none, none, none, none]) hY145 (Nat.le_of_ble_eq_true rfl) (by rfl)) ?_
  refine Eq.trans (li_iconst d145_0 ic_n1) ?_
  refine Eq.trans (li_istore_n (ls' := [some (.inr (.inr (some a0))), some (.inl (-1 : Int32)), none, none, none]) d145_1 (by decide) (by rfl)) ?_
  refine Eq.trans (li_iconst d145_2 ic_0) ?_
  refine Eq.trans (li_istore_n (ls' := [some (.inr (.inr (some a0))), some (.inl (-1 : Int32)), some (.inl (0 : Int32)), none, none]) d145_3 (by decide) (by rfl)) ?_
  refine Eq.trans (li_iconst d145_4 ic_0) ?_
  refine Eq.trans (li_istore_n (ls' := [some (.inr (.inr (some a0))), some (.inl (-1 : Int32)), some (.inl (0 : Int32)), some (.inl (0 : Int32)), none]) d145_5 (by decide) (by rfl)) ?_
  rfl
theorem E145_6 (d : Nat) (a0 : Nat) (x1 : Int32) (x2 : Int32) (x3 : Int32) (o4 : Option ts_V) (h0 : ts_sh a0 = (0, 11)) (m : lt_m) : L145_6 d a0 x1 x2 x3 o4 m = lt_gd (ts_sh (m.2.2.1) = (0, 5)) (if (m.1 (m.2.2.1) 6) ≤ x3 then (if ¬ x1 = (-1 : Int32) then (lt_cV (lt_ev d 75 [.inr (.inr (some a0)), .inl x2] m) (fun m1 => (some (some (.inl x1), m1)))) else (some (some (.inl (-2 : Int32)), m))) else (lt_cI (lt_ev d 146 [.inr (.inr (some (a0 + 13))), .inl x3] m) (fun v1 m2 => (lt_cI (lt_ev d 60 [.inl v1] m2) (fun v2 m3 => (lt_cI (lt_ev d 60 [.inl x2] m3) (fun v3 m4 => (if v2 ≤ v3 then (L145_6 d a0 x1 x2 (x3 + (1 : Int32)) (some (.inl v1)) m4) else (L145_6 d a0 x3 v1 (x3 + (1 : Int32)) (some (.inl v1)) m4))))))))) := by
  show lt_run d Y145 6 [some (.inr (.inr (some a0))), some (.inl x1), some (.inl x2), some (.inl x3), o4] [] m = _
  refine Eq.trans (li_iload_n d145_6 (by rfl)) ?_
  refine Eq.trans (li_aload_n d145_7 (by rfl)) ?_
  refine Eq.trans (li_getnet d145_8 fa_11_61 h0) ?_
  refine Eq.trans (li_gget d145_11 fa_11_101) ?_
  refine lt_gd_c (fun g1 => ?_)
  refine Eq.trans (li_geti d145_11 fa_11_101 g1 rfl) ?_
  refine Eq.trans (li_icmp_ge (t := 50) d145_14 (by rfl)) ?_
  refine lt_ite (fun c1 => ?_) (fun c1 => ?_)
  · refine Eq.trans (li_iload_n d145_50 (by rfl)) ?_
    refine Eq.trans (li_iconst d145_51 ic_n1) ?_
    refine Eq.trans (li_icmp_ne (t := 58) d145_52 (by rfl)) ?_
    refine lt_ite (fun c2 => ?_) (fun c2 => ?_)
    · refine Eq.trans (li_aload_n d145_58 (by rfl)) ?_
      refine Eq.trans (li_iload_n d145_59 (by rfl)) ?_
      refine Eq.trans (li_ivV d145_60 ca_11_157 kd_75 kl_75 (by rfl) (by rfl) h0 (Nat.le_of_ble_eq_true rfl) (Nat.le_of_ble_eq_true rfl)) ?_
      refine lt_cV_c (fun m1 => ?_)
      refine Eq.trans (li_iload_n d145_63 (by rfl)) ?_
      exact li_iret d145_64 rfl
    · refine Eq.trans (li_bipush d145_55 bi_n2) ?_
      exact li_iret d145_57 rfl
  · refine Eq.trans (li_aload_n d145_17 (by rfl)) ?_
    refine Eq.trans (li_getr d145_18 fa_11_47 h0 rfl rfl rfl (by decide)) ?_
    refine Eq.trans (li_iload_n d145_21 (by rfl)) ?_
    refine Eq.trans (li_ivI d145_22 ca_11_332 kd_146 kl_146 (by rfl) (by rfl) (sf_of h0 5 (by decide) (by decide)) (Nat.le_of_ble_eq_true rfl) (Nat.le_of_ble_eq_true rfl)) ?_
    refine lt_cI_c (fun v1 m2 => ?_)
    refine Eq.trans (li_istore (ls' := [some (.inr (.inr (some a0))), some (.inl x1), some (.inl x2), some (.inl x3), some (.inl v1)]) d145_25 (by decide) (by rfl)) ?_
    refine Eq.trans (li_iload d145_27 (by rfl)) ?_
    refine Eq.trans (li_isI d145_29 bi_11_152 ca_11_152 kd_60 (by rfl) (by rfl) (Nat.le_of_ble_eq_true rfl) (Nat.le_of_ble_eq_true rfl)) ?_
    refine lt_cI_c (fun v2 m3 => ?_)
    refine Eq.trans (li_iload_n d145_32 (by rfl)) ?_
    refine Eq.trans (li_isI d145_33 bi_11_152 ca_11_152 kd_60 (by rfl) (by rfl) (Nat.le_of_ble_eq_true rfl) (Nat.le_of_ble_eq_true rfl)) ?_
    refine lt_cI_c (fun v3 m4 => ?_)
    refine Eq.trans (li_icmp_le (t := 44) d145_36 (by rfl)) ?_
    refine lt_ite (fun c3 => ?_) (fun c3 => ?_)
    · refine Eq.trans (li_iinc (ls' := [some (.inr (.inr (some a0))), some (.inl x1), some (.inl x2), some (.inl (x3 + (1 : Int32))), some (.inl v1)]) d145_44 (by rfl) (by decide) ic_1 (by rfl)) ?_
      refine Eq.trans (li_goto (t := 6) d145_47 (by rfl)) ?_
      rfl
    · refine Eq.trans (li_iload_n d145_39 (by rfl)) ?_
      refine Eq.trans (li_istore_n (ls' := [some (.inr (.inr (some a0))), some (.inl x3), some (.inl x2), some (.inl x3), some (.inl v1)]) d145_40 (by decide) (by rfl)) ?_
      refine Eq.trans (li_iload d145_41 (by rfl)) ?_
      refine Eq.trans (li_istore_n (ls' := [some (.inr (.inr (some a0))), some (.inl x3), some (.inl v1), some (.inl x3), some (.inl v1)]) d145_43 (by decide) (by rfl)) ?_
      refine Eq.trans (li_iinc (ls' := [some (.inr (.inr (some a0))), some (.inl x3), some (.inl v1), some (.inl (x3 + (1 : Int32))), some (.inl v1)]) d145_44 (by rfl) (by decide) ic_1 (by rfl)) ?_
      refine Eq.trans (li_goto (t := 6) d145_47 (by rfl)) ?_
      rfl
/-! TransitSeals$Ledger.stillToCome(I)I -/
theorem d146_0 : decode Y146.2.1 0 = .ok (.iconst 0, 1) := by decide +kernel
theorem d146_1 : decode Y146.2.1 1 = .ok (.istore_n 2, 1) := by decide +kernel
theorem d146_2 : decode Y146.2.1 2 = .ok (.aload_n 0, 1) := by decide +kernel
theorem d146_3 : decode Y146.2.1 3 = .ok (.getfield 20, 3) := by decide +kernel
theorem d146_6 : decode Y146.2.1 6 = .ok (.astore_n 3, 1) := by decide +kernel
theorem d146_7 : decode Y146.2.1 7 = .ok (.aload_n 3, 1) := by decide +kernel
theorem d146_8 : decode Y146.2.1 8 = .ok (.arraylength, 1) := by decide +kernel
theorem d146_9 : decode Y146.2.1 9 = .ok (.istore 4, 2) := by decide +kernel
theorem d146_11 : decode Y146.2.1 11 = .ok (.iconst 0, 1) := by decide +kernel
theorem d146_12 : decode Y146.2.1 12 = .ok (.istore 5, 2) := by decide +kernel
theorem d146_14 : decode Y146.2.1 14 = .ok (.iload 5, 2) := by decide +kernel
theorem d146_16 : decode Y146.2.1 16 = .ok (.iload 4, 2) := by decide +kernel
theorem d146_18 : decode Y146.2.1 18 = .ok (.if_icmp .ge 48, 3) := by decide +kernel
theorem d146_21 : decode Y146.2.1 21 = .ok (.aload_n 3, 1) := by decide +kernel
theorem d146_22 : decode Y146.2.1 22 = .ok (.iload 5, 2) := by decide +kernel
theorem d146_24 : decode Y146.2.1 24 = .ok (.aaload, 1) := by decide +kernel
theorem d146_25 : decode Y146.2.1 25 = .ok (.astore 6, 2) := by decide +kernel
theorem d146_27 : decode Y146.2.1 27 = .ok (.aload 6, 2) := by decide +kernel
theorem d146_29 : decode Y146.2.1 29 = .ok (.invokevirtual 101, 3) := by decide +kernel
theorem d146_32 : decode Y146.2.1 32 = .ok (.ifCond .eq 28, 3) := by decide +kernel
theorem d146_35 : decode Y146.2.1 35 = .ok (.aload 6, 2) := by decide +kernel
theorem d146_37 : decode Y146.2.1 37 = .ok (.aload 6, 2) := by decide +kernel
theorem d146_39 : decode Y146.2.1 39 = .ok (.getfield 108, 3) := by decide +kernel
theorem d146_42 : decode Y146.2.1 42 = .ok (.invokevirtual 111, 3) := by decide +kernel
theorem d146_45 : decode Y146.2.1 45 = .ok (.iload_n 1, 1) := by decide +kernel
theorem d146_46 : decode Y146.2.1 46 = .ok (.ishr, 1) := by decide +kernel
theorem d146_47 : decode Y146.2.1 47 = .ok (.iconst 1, 1) := by decide +kernel
theorem d146_48 : decode Y146.2.1 48 = .ok (.iand, 1) := by decide +kernel
theorem d146_49 : decode Y146.2.1 49 = .ok (.ifCond .eq 11, 3) := by decide +kernel
theorem d146_52 : decode Y146.2.1 52 = .ok (.iload_n 2, 1) := by decide +kernel
theorem d146_53 : decode Y146.2.1 53 = .ok (.aload 6, 2) := by decide +kernel
theorem d146_55 : decode Y146.2.1 55 = .ok (.invokevirtual 87, 3) := by decide +kernel
theorem d146_58 : decode Y146.2.1 58 = .ok (.ior, 1) := by decide +kernel
theorem d146_59 : decode Y146.2.1 59 = .ok (.istore_n 2, 1) := by decide +kernel
theorem d146_60 : decode Y146.2.1 60 = .ok (.iinc 5 1, 3) := by decide +kernel
theorem d146_63 : decode Y146.2.1 63 = .ok (.goto (-49), 3) := by decide +kernel
theorem d146_66 : decode Y146.2.1 66 = .ok (.iload_n 2, 1) := by decide +kernel
theorem d146_67 : decode Y146.2.1 67 = .ok (.ireturn, 1) := by decide +kernel
noncomputable def L146_14 (d : Nat) (a0 : Nat) (x1 : Int32) (x2 : Int32) (x5 : Int32) (o6 : Option ts_V) (m : lt_m) : Option lt_r := lt_run d Y146 14 [some (.inr (.inr (some a0))), some (.inl x1), some (.inl x2), some (.inr (.inr (some (a0 + 3)))), some (.inl (20 : Int32)), some (.inl x5), o6] [] m
theorem E146 (d : Nat) (a0 : Nat) (x1 : Int32) (h0 : ts_sh a0 = (0, 2)) (m : lt_m) : lt_ev (d + 1) 146 [.inr (.inr (some a0)), .inl x1] m = L146_14 d a0 x1 (0 : Int32) (0 : Int32) none m := by
  refine Eq.trans (lt_enter2 (ls := [some (.inr (.inr (some a0))), some (.inl x1), none, none, none, none, none]) hY146 (Nat.le_of_ble_eq_true rfl) (by rfl)) ?_
  refine Eq.trans (li_iconst d146_0 ic_0) ?_
  refine Eq.trans (li_istore_n (ls' := [some (.inr (.inr (some a0))), some (.inl x1), some (.inl (0 : Int32)), none, none, none, none]) d146_1 (by decide) (by rfl)) ?_
  refine Eq.trans (li_aload_n d146_2 (by rfl)) ?_
  refine Eq.trans (li_getr d146_3 fa_2_20 h0 rfl rfl rfl (by decide)) ?_
  refine Eq.trans (li_astore_n (ls' := [some (.inr (.inr (some a0))), some (.inl x1), some (.inl (0 : Int32)), some (.inr (.inr (some (a0 + 3)))), none, none, none]) d146_6 (by decide) (by rfl)) ?_
  refine Eq.trans (li_aload_n d146_7 (by rfl)) ?_
  refine Eq.trans (li_alen d146_8 (sf_of h0 2 (by decide) (by decide)) (by decide) (by rfl)) ?_
  refine Eq.trans (li_istore (ls' := [some (.inr (.inr (some a0))), some (.inl x1), some (.inl (0 : Int32)), some (.inr (.inr (some (a0 + 3)))), some (.inl (20 : Int32)), none, none]) d146_9 (by decide) (by rfl)) ?_
  refine Eq.trans (li_iconst d146_11 ic_0) ?_
  refine Eq.trans (li_istore (ls' := [some (.inr (.inr (some a0))), some (.inl x1), some (.inl (0 : Int32)), some (.inr (.inr (some (a0 + 3)))), some (.inl (20 : Int32)), some (.inl (0 : Int32)), none]) d146_12 (by decide) (by rfl)) ?_
  rfl
theorem E146_14 (d : Nat) (a0 : Nat) (x1 : Int32) (x2 : Int32) (x5 : Int32) (o6 : Option ts_V) (h0 : ts_sh a0 = (0, 2)) (m : lt_m) : L146_14 d a0 x1 x2 x5 o6 m = if (20 : Int32) ≤ x5 then (some (some (.inl x2), m)) else (lt_gd (0 ≤ x5 ∧ (x5).toNatClampNeg < 20) (lt_cI (lt_ev d 62 [.inr (.inr (some ((a0 + 3) + 5 + 3 * (x5).toNatClampNeg)))] m) (fun v1 m1 => (if v1 = 0 then (L146_14 d a0 x1 x2 (x5 + (1 : Int32)) (some (.inr (.inr (some ((a0 + 3) + 5 + 3 * (x5).toNatClampNeg))))) m1) else (lt_cI (lt_ev d 136 [.inr (.inr (some ((a0 + 3) + 5 + 3 * (x5).toNatClampNeg))), .inl (m1.1 ((a0 + 3) + 5 + 3 * (x5).toNatClampNeg) 9)] m1) (fun v2 m2 => (if ((v2 >>> (x1 &&& 31)) &&& (1 : Int32)) = 0 then (L146_14 d a0 x1 x2 (x5 + (1 : Int32)) (some (.inr (.inr (some ((a0 + 3) + 5 + 3 * (x5).toNatClampNeg))))) m2) else (lt_cI (lt_ev d 65 [.inr (.inr (some ((a0 + 3) + 5 + 3 * (x5).toNatClampNeg)))] m2) (fun v3 m3 => (L146_14 d a0 x1 (x2 ||| v3) (x5 + (1 : Int32)) (some (.inr (.inr (some ((a0 + 3) + 5 + 3 * (x5).toNatClampNeg))))) m3)))))))))) := by
  show lt_run d Y146 14 [some (.inr (.inr (some a0))), some (.inl x1), some (.inl x2), some (.inr (.inr (some (a0 + 3)))), some (.inl (20 : Int32)), some (.inl x5), o6] [] m = _
  refine Eq.trans (li_iload d146_14 (by rfl)) ?_
  refine Eq.trans (li_iload d146_16 (by rfl)) ?_
  refine Eq.trans (li_icmp_ge (t := 66) d146_18 (by rfl)) ?_
  refine lt_ite (fun c1 => ?_) (fun c1 => ?_)
  · refine Eq.trans (li_iload_n d146_66 (by rfl)) ?_
    exact li_iret d146_67 rfl
  · refine Eq.trans (li_aload_n d146_21 (by rfl)) ?_
    refine Eq.trans (li_iload d146_22 (by rfl)) ?_
    refine Eq.trans (li_aald4 d146_24 (sf_of h0 2 (by decide) (by decide))) ?_
    refine lt_gd_c (fun g1 => ?_)
    refine Eq.trans (li_astore (ls' := [some (.inr (.inr (some a0))), some (.inl x1), some (.inl x2), some (.inr (.inr (some (a0 + 3)))), some (.inl (20 : Int32)), some (.inl x5), some (.inr (.inr (some ((a0 + 3) + 5 + 3 * (x5).toNatClampNeg))))]) d146_25 (by decide) (by rfl)) ?_
    refine Eq.trans (li_aload d146_27 (by rfl)) ?_
    refine Eq.trans (li_ivI d146_29 ca_2_101 kd_62 kl_62 (by rfl) (by rfl) (sm_4 (sf_of h0 2 (by decide) (by decide)) g1.2) (Nat.le_of_ble_eq_true rfl) (Nat.le_of_ble_eq_true rfl)) ?_
    refine lt_cI_c (fun v1 m1 => ?_)
    refine Eq.trans (li_if_eq (t := 60) d146_32 (by rfl)) ?_
    refine lt_ite (fun c2 => ?_) (fun c2 => ?_)
    · refine Eq.trans (li_iinc (ls' := [some (.inr (.inr (some a0))), some (.inl x1), some (.inl x2), some (.inr (.inr (some (a0 + 3)))), some (.inl (20 : Int32)), some (.inl (x5 + (1 : Int32))), some (.inr (.inr (some ((a0 + 3) + 5 + 3 * (x5).toNatClampNeg))))]) d146_60 (by rfl) (by decide) ic_1 (by rfl)) ?_
      refine Eq.trans (li_goto (t := 14) d146_63 (by rfl)) ?_
      rfl
    · refine Eq.trans (li_aload d146_35 (by rfl)) ?_
      refine Eq.trans (li_aload d146_37 (by rfl)) ?_
      refine Eq.trans (li_geti d146_39 fa_2_108 (sm_4 (sf_of h0 2 (by decide) (by decide)) g1.2) rfl) ?_
      refine Eq.trans (li_ivI d146_42 ca_2_111 kd_136 kl_136 (by rfl) (by rfl) (sm_4 (sf_of h0 2 (by decide) (by decide)) g1.2) (Nat.le_of_ble_eq_true rfl) (Nat.le_of_ble_eq_true rfl)) ?_
      refine lt_cI_c (fun v2 m2 => ?_)
      refine Eq.trans (li_iload_n d146_45 (by rfl)) ?_
      refine Eq.trans (li_ishr d146_46) ?_
      refine Eq.trans (li_iconst d146_47 ic_1) ?_
      refine Eq.trans (li_iand d146_48) ?_
      refine Eq.trans (li_if_eq (t := 60) d146_49 (by rfl)) ?_
      refine lt_ite (fun c3 => ?_) (fun c3 => ?_)
      · refine Eq.trans (li_iinc (ls' := [some (.inr (.inr (some a0))), some (.inl x1), some (.inl x2), some (.inr (.inr (some (a0 + 3)))), some (.inl (20 : Int32)), some (.inl (x5 + (1 : Int32))), some (.inr (.inr (some ((a0 + 3) + 5 + 3 * (x5).toNatClampNeg))))]) d146_60 (by rfl) (by decide) ic_1 (by rfl)) ?_
        refine Eq.trans (li_goto (t := 14) d146_63 (by rfl)) ?_
        rfl
      · refine Eq.trans (li_iload_n d146_52 (by rfl)) ?_
        refine Eq.trans (li_aload d146_53 (by rfl)) ?_
        refine Eq.trans (li_ivI d146_55 ca_2_87 kd_65 kl_65 (by rfl) (by rfl) (sm_4 (sf_of h0 2 (by decide) (by decide)) g1.2) (Nat.le_of_ble_eq_true rfl) (Nat.le_of_ble_eq_true rfl)) ?_
        refine lt_cI_c (fun v3 m3 => ?_)
        refine Eq.trans (li_ior d146_58) ?_
        refine Eq.trans (li_istore_n (ls' := [some (.inr (.inr (some a0))), some (.inl x1), some (.inl (x2 ||| v3)), some (.inr (.inr (some (a0 + 3)))), some (.inl (20 : Int32)), some (.inl x5), some (.inr (.inr (some ((a0 + 3) + 5 + 3 * (x5).toNatClampNeg))))]) d146_59 (by decide) (by rfl)) ?_
        refine Eq.trans (li_iinc (ls' := [some (.inr (.inr (some a0))), some (.inl x1), some (.inl (x2 ||| v3)), some (.inr (.inr (some (a0 + 3)))), some (.inl (20 : Int32)), some (.inl (x5 + (1 : Int32))), some (.inr (.inr (some ((a0 + 3) + 5 + 3 * (x5).toNatClampNeg))))]) d146_60 (by rfl) (by decide) ic_1 (by rfl)) ?_
        refine Eq.trans (li_goto (t := 14) d146_63 (by rfl)) ?_
        rfl
/-! TransitSeals.can(II)I -/
theorem d147_0 : decode Y147.2.1 0 = .ok (.aload_n 0, 1) := by decide +kernel
theorem d147_1 : decode Y147.2.1 1 = .ok (.getfield 47, 3) := by decide +kernel
theorem d147_4 : decode Y147.2.1 4 = .ok (.iload_n 1, 1) := by decide +kernel
theorem d147_5 : decode Y147.2.1 5 = .ok (.invokevirtual 175, 3) := by decide +kernel
theorem d147_8 : decode Y147.2.1 8 = .ok (.ifCond .eq 14, 3) := by decide +kernel
theorem d147_11 : decode Y147.2.1 11 = .ok (.aload_n 0, 1) := by decide +kernel
theorem d147_12 : decode Y147.2.1 12 = .ok (.getfield 61, 3) := by decide +kernel
theorem d147_15 : decode Y147.2.1 15 = .ok (.iload_n 2, 1) := by decide +kernel
theorem d147_16 : decode Y147.2.1 16 = .ok (.invokevirtual 204, 3) := by decide +kernel
theorem d147_19 : decode Y147.2.1 19 = .ok (.ifCond .ne 5, 3) := by decide +kernel
theorem d147_22 : decode Y147.2.1 22 = .ok (.iconst (-1), 1) := by decide +kernel
theorem d147_23 : decode Y147.2.1 23 = .ok (.ireturn, 1) := by decide +kernel
theorem d147_24 : decode Y147.2.1 24 = .ok (.aload_n 0, 1) := by decide +kernel
theorem d147_25 : decode Y147.2.1 25 = .ok (.getfield 61, 3) := by decide +kernel
theorem d147_28 : decode Y147.2.1 28 = .ok (.iload_n 2, 1) := by decide +kernel
theorem d147_29 : decode Y147.2.1 29 = .ok (.invokevirtual 211, 3) := by decide +kernel
theorem d147_32 : decode Y147.2.1 32 = .ok (.istore_n 3, 1) := by decide +kernel
theorem d147_33 : decode Y147.2.1 33 = .ok (.aload_n 0, 1) := by decide +kernel
theorem d147_34 : decode Y147.2.1 34 = .ok (.getfield 47, 3) := by decide +kernel
theorem d147_37 : decode Y147.2.1 37 = .ok (.iload_n 1, 1) := by decide +kernel
theorem d147_38 : decode Y147.2.1 38 = .ok (.invokevirtual 188, 3) := by decide +kernel
theorem d147_41 : decode Y147.2.1 41 = .ok (.istore 4, 2) := by decide +kernel
theorem d147_43 : decode Y147.2.1 43 = .ok (.sipush 999, 3) := by decide +kernel
theorem d147_46 : decode Y147.2.1 46 = .ok (.istore 5, 2) := by decide +kernel
theorem d147_48 : decode Y147.2.1 48 = .ok (.iload 4, 2) := by decide +kernel
theorem d147_50 : decode Y147.2.1 50 = .ok (.iconst 3, 1) := by decide +kernel
theorem d147_51 : decode Y147.2.1 51 = .ok (.if_icmp .eq 31, 3) := by decide +kernel
theorem d147_54 : decode Y147.2.1 54 = .ok (.iload_n 3, 1) := by decide +kernel
theorem d147_55 : decode Y147.2.1 55 = .ok (.ifCond .le 27, 3) := by decide +kernel
theorem d147_58 : decode Y147.2.1 58 = .ok (.sipush 999, 3) := by decide +kernel
theorem d147_61 : decode Y147.2.1 61 = .ok (.iload 4, 2) := by decide +kernel
theorem d147_63 : decode Y147.2.1 63 = .ok (.invokestatic 335, 3) := by decide +kernel
theorem d147_66 : decode Y147.2.1 66 = .ok (.aload_n 0, 1) := by decide +kernel
theorem d147_67 : decode Y147.2.1 67 = .ok (.getfield 47, 3) := by decide +kernel
theorem d147_70 : decode Y147.2.1 70 = .ok (.iload_n 1, 1) := by decide +kernel
theorem d147_71 : decode Y147.2.1 71 = .ok (.invokevirtual 191, 3) := by decide +kernel
theorem d147_74 : decode Y147.2.1 74 = .ok (.imul, 1) := by decide +kernel
theorem d147_75 : decode Y147.2.1 75 = .ok (.iload_n 3, 1) := by decide +kernel
theorem d147_76 : decode Y147.2.1 76 = .ok (.idiv, 1) := by decide +kernel
theorem d147_77 : decode Y147.2.1 77 = .ok (.invokestatic 338, 3) := by decide +kernel
theorem d147_80 : decode Y147.2.1 80 = .ok (.istore 5, 2) := by decide +kernel
theorem d147_82 : decode Y147.2.1 82 = .ok (.aload_n 0, 1) := by decide +kernel
theorem d147_83 : decode Y147.2.1 83 = .ok (.iload 5, 2) := by decide +kernel
theorem d147_85 : decode Y147.2.1 85 = .ok (.iload_n 3, 1) := by decide +kernel
theorem d147_86 : decode Y147.2.1 86 = .ok (.imul, 1) := by decide +kernel
theorem d147_87 : decode Y147.2.1 87 = .ok (.iload 4, 2) := by decide +kernel
theorem d147_89 : decode Y147.2.1 89 = .ok (.invokestatic 214, 3) := by decide +kernel
theorem d147_92 : decode Y147.2.1 92 = .ok (.invokevirtual 157, 3) := by decide +kernel
theorem d147_95 : decode Y147.2.1 95 = .ok (.iload 5, 2) := by decide +kernel
theorem d147_97 : decode Y147.2.1 97 = .ok (.ireturn, 1) := by decide +kernel
theorem E147 (d : Nat) (a0 : Nat) (x1 : Int32) (x2 : Int32) (h0 : ts_sh a0 = (0, 11)) (m : lt_m) : lt_ev (d + 1) 147 [.inr (.inr (some a0)), .inl x1, .inl x2] m = lt_cI (lt_ev d 90 [.inr (.inr (some (a0 + 13))), .inl x1] m) (fun v1 m1 => (if v1 = 0 then (some (some (.inl (-1 : Int32)), m1)) else (lt_gd (ts_sh (m1.2.2.1) = (0, 5)) (lt_cI (lt_ev d 103 [.inr (.inr (some (m1.2.2.1))), .inl x2] m1) (fun v2 m2 => (if ¬ v2 = 0 then (lt_gd (ts_sh (m2.2.2.1) = (0, 5)) (lt_cI (lt_ev d 25 [.inr (.inr (some (m2.2.2.1))), .inl x2] m2) (fun v3 m3 => (lt_cI (lt_ev d 95 [.inr (.inr (some (a0 + 13))), .inl x1] m3) (fun v4 m4 => (if v4 = (3 : Int32) then (lt_cI (lt_ev d 106 [.inl ((999 : Int32) * v3), .inl v4] m4) (fun v5 m5 => (lt_cV (lt_ev d 75 [.inr (.inr (some a0)), .inl v5] m5) (fun m6 => (some (some (.inl (999 : Int32)), m6)))))) else (if v3 ≤ 0 then (lt_cI (lt_ev d 106 [.inl ((999 : Int32) * v3), .inl v4] m4) (fun v6 m7 => (lt_cV (lt_ev d 75 [.inr (.inr (some a0)), .inl v6] m7) (fun m8 => (some (some (.inl (999 : Int32)), m8)))))) else (lt_cI (lt_ev d 107 [.inl v4] m4) (fun v7 m9 => (lt_cI (lt_ev d 96 [.inr (.inr (some (a0 + 13))), .inl x1] m9) (fun v8 m10 => (lt_gd (¬ v3 = 0) (lt_cI (lt_ev d 106 [.inl ((lm_min (999 : Int32) ((v7 * v8) / v3)) * v3), .inl v4] m10) (fun v9 m11 => (lt_cV (lt_ev d 75 [.inr (.inr (some a0)), .inl v9] m11) (fun m12 => (some (some (.inl (lm_min (999 : Int32) ((v7 * v8) / v3))), m12)))))))))))))))))) else (some (some (.inl (-1 : Int32)), m2)))))))) := by
  refine Eq.trans (lt_enter2 (ls := [some (.inr (.inr (some a0))), some (.inl x1), some (.inl x2), none, none, none]) hY147 (Nat.le_of_ble_eq_true rfl) (by rfl)) ?_
  refine Eq.trans (li_aload_n d147_0 (by rfl)) ?_
  refine Eq.trans (li_getr d147_1 fa_11_47 h0 rfl rfl rfl (by decide)) ?_
  refine Eq.trans (li_iload_n d147_4 (by rfl)) ?_
  refine Eq.trans (li_ivI d147_5 ca_11_175 kd_90 kl_90 (by rfl) (by rfl) (sf_of h0 5 (by decide) (by decide)) (Nat.le_of_ble_eq_true rfl) (Nat.le_of_ble_eq_true rfl)) ?_
  refine lt_cI_c (fun v1 m1 => ?_)
  refine Eq.trans (li_if_eq (t := 22) d147_8 (by rfl)) ?_
  refine lt_ite (fun c1 => ?_) (fun c1 => ?_)
  · refine Eq.trans (li_iconst d147_22 ic_n1) ?_
    exact li_iret d147_23 rfl
  · refine Eq.trans (li_aload_n d147_11 (by rfl)) ?_
    refine Eq.trans (li_getnet d147_12 fa_11_61 h0) ?_
    refine Eq.trans (li_iload_n d147_15 (by rfl)) ?_
    refine Eq.trans (li_ginv d147_16 ca_11_204 kl_103 (by rfl)) ?_
    refine lt_gd_c (fun g1 => ?_)
    refine Eq.trans (li_ivI d147_16 ca_11_204 kd_103 kl_103 (by rfl) (by rfl) g1 (Nat.le_of_ble_eq_true rfl) (Nat.le_of_ble_eq_true rfl)) ?_
    refine lt_cI_c (fun v2 m2 => ?_)
    refine Eq.trans (li_if_ne (t := 24) d147_19 (by rfl)) ?_
    refine lt_ite (fun c2 => ?_) (fun c2 => ?_)
    · refine Eq.trans (li_aload_n d147_24 (by rfl)) ?_
      refine Eq.trans (li_getnet d147_25 fa_11_61 h0) ?_
      refine Eq.trans (li_iload_n d147_28 (by rfl)) ?_
      refine Eq.trans (li_ginv d147_29 ca_11_211 kl_25 (by rfl)) ?_
      refine lt_gd_c (fun g2 => ?_)
      refine Eq.trans (li_ivI d147_29 ca_11_211 kd_25 kl_25 (by rfl) (by rfl) g2 (Nat.le_of_ble_eq_true rfl) (Nat.le_of_ble_eq_true rfl)) ?_
      refine lt_cI_c (fun v3 m3 => ?_)
      refine Eq.trans (li_istore_n (ls' := [some (.inr (.inr (some a0))), some (.inl x1), some (.inl x2), some (.inl v3), none, none]) d147_32 (by decide) (by rfl)) ?_
      refine Eq.trans (li_aload_n d147_33 (by rfl)) ?_
      refine Eq.trans (li_getr d147_34 fa_11_47 h0 rfl rfl rfl (by decide)) ?_
      refine Eq.trans (li_iload_n d147_37 (by rfl)) ?_
      refine Eq.trans (li_ivI d147_38 ca_11_188 kd_95 kl_95 (by rfl) (by rfl) (sf_of h0 5 (by decide) (by decide)) (Nat.le_of_ble_eq_true rfl) (Nat.le_of_ble_eq_true rfl)) ?_
      refine lt_cI_c (fun v4 m4 => ?_)
      refine Eq.trans (li_istore (ls' := [some (.inr (.inr (some a0))), some (.inl x1), some (.inl x2), some (.inl v3), some (.inl v4), none]) d147_41 (by decide) (by rfl)) ?_
      refine Eq.trans (li_sipush d147_43 si_999) ?_
      refine Eq.trans (li_istore (ls' := [some (.inr (.inr (some a0))), some (.inl x1), some (.inl x2), some (.inl v3), some (.inl v4), some (.inl (999 : Int32))]) d147_46 (by decide) (by rfl)) ?_
      refine Eq.trans (li_iload d147_48 (by rfl)) ?_
      refine Eq.trans (li_iconst d147_50 ic_3) ?_
      refine Eq.trans (li_icmp_eq (t := 82) d147_51 (by rfl)) ?_
      refine lt_ite (fun c3 => ?_) (fun c3 => ?_)
      · refine Eq.trans (li_aload_n d147_82 (by rfl)) ?_
        refine Eq.trans (li_iload d147_83 (by rfl)) ?_
        refine Eq.trans (li_iload_n d147_85 (by rfl)) ?_
        refine Eq.trans (li_imul d147_86) ?_
        refine Eq.trans (li_iload d147_87 (by rfl)) ?_
        refine Eq.trans (li_isI d147_89 bi_11_214 ca_11_214 kd_106 (by rfl) (by rfl) (Nat.le_of_ble_eq_true rfl) (Nat.le_of_ble_eq_true rfl)) ?_
        refine lt_cI_c (fun v5 m5 => ?_)
        refine Eq.trans (li_ivV d147_92 ca_11_157 kd_75 kl_75 (by rfl) (by rfl) h0 (Nat.le_of_ble_eq_true rfl) (Nat.le_of_ble_eq_true rfl)) ?_
        refine lt_cV_c (fun m6 => ?_)
        refine Eq.trans (li_iload d147_95 (by rfl)) ?_
        exact li_iret d147_97 rfl
      · refine Eq.trans (li_iload_n d147_54 (by rfl)) ?_
        refine Eq.trans (li_if_le (t := 82) d147_55 (by rfl)) ?_
        refine lt_ite (fun c4 => ?_) (fun c4 => ?_)
        · refine Eq.trans (li_aload_n d147_82 (by rfl)) ?_
          refine Eq.trans (li_iload d147_83 (by rfl)) ?_
          refine Eq.trans (li_iload_n d147_85 (by rfl)) ?_
          refine Eq.trans (li_imul d147_86) ?_
          refine Eq.trans (li_iload d147_87 (by rfl)) ?_
          refine Eq.trans (li_isI d147_89 bi_11_214 ca_11_214 kd_106 (by rfl) (by rfl) (Nat.le_of_ble_eq_true rfl) (Nat.le_of_ble_eq_true rfl)) ?_
          refine lt_cI_c (fun v6 m7 => ?_)
          refine Eq.trans (li_ivV d147_92 ca_11_157 kd_75 kl_75 (by rfl) (by rfl) h0 (Nat.le_of_ble_eq_true rfl) (Nat.le_of_ble_eq_true rfl)) ?_
          refine lt_cV_c (fun m8 => ?_)
          refine Eq.trans (li_iload d147_95 (by rfl)) ?_
          exact li_iret d147_97 rfl
        · refine Eq.trans (li_sipush d147_58 si_999) ?_
          refine Eq.trans (li_iload d147_61 (by rfl)) ?_
          refine Eq.trans (li_isI d147_63 bi_11_335 ca_11_335 kd_107 (by rfl) (by rfl) (Nat.le_of_ble_eq_true rfl) (Nat.le_of_ble_eq_true rfl)) ?_
          refine lt_cI_c (fun v7 m9 => ?_)
          refine Eq.trans (li_aload_n d147_66 (by rfl)) ?_
          refine Eq.trans (li_getr d147_67 fa_11_47 h0 rfl rfl rfl (by decide)) ?_
          refine Eq.trans (li_iload_n d147_70 (by rfl)) ?_
          refine Eq.trans (li_ivI d147_71 ca_11_191 kd_96 kl_96 (by rfl) (by rfl) (sf_of h0 5 (by decide) (by decide)) (Nat.le_of_ble_eq_true rfl) (Nat.le_of_ble_eq_true rfl)) ?_
          refine lt_cI_c (fun v8 m10 => ?_)
          refine Eq.trans (li_imul d147_74) ?_
          refine Eq.trans (li_iload_n d147_75 (by rfl)) ?_
          refine Eq.trans (li_idiv d147_76) ?_
          refine lt_gd_c (fun g3 => ?_)
          refine Eq.trans (li_min d147_77 bi_11_338 (Nat.le_of_ble_eq_true rfl)) ?_
          refine Eq.trans (li_istore (ls' := [some (.inr (.inr (some a0))), some (.inl x1), some (.inl x2), some (.inl v3), some (.inl v4), some (.inl (lm_min (999 : Int32) ((v7 * v8) / v3)))]) d147_80 (by decide) (by rfl)) ?_
          refine Eq.trans (li_aload_n d147_82 (by rfl)) ?_
          refine Eq.trans (li_iload d147_83 (by rfl)) ?_
          refine Eq.trans (li_iload_n d147_85 (by rfl)) ?_
          refine Eq.trans (li_imul d147_86) ?_
          refine Eq.trans (li_iload d147_87 (by rfl)) ?_
          refine Eq.trans (li_isI d147_89 bi_11_214 ca_11_214 kd_106 (by rfl) (by rfl) (Nat.le_of_ble_eq_true rfl) (Nat.le_of_ble_eq_true rfl)) ?_
          refine lt_cI_c (fun v9 m11 => ?_)
          refine Eq.trans (li_ivV d147_92 ca_11_157 kd_75 kl_75 (by rfl) (by rfl) h0 (Nat.le_of_ble_eq_true rfl) (Nat.le_of_ble_eq_true rfl)) ?_
          refine lt_cV_c (fun m12 => ?_)
          refine Eq.trans (li_iload d147_95 (by rfl)) ?_
          exact li_iret d147_97 rfl
    · refine Eq.trans (li_iconst d147_22 ic_n1) ?_
      exact li_iret d147_23 rfl
/-! TransitSeals.frees(II)I -/
theorem d148_0 : decode Y148.2.1 0 = .ok (.aload_n 0, 1) := by decide +kernel
theorem d148_1 : decode Y148.2.1 1 = .ok (.getfield 47, 3) := by decide +kernel
theorem d148_4 : decode Y148.2.1 4 = .ok (.iload_n 1, 1) := by decide +kernel
theorem d148_5 : decode Y148.2.1 5 = .ok (.invokevirtual 175, 3) := by decide +kernel
theorem d148_8 : decode Y148.2.1 8 = .ok (.ifCond .eq 10, 3) := by decide +kernel
theorem d148_11 : decode Y148.2.1 11 = .ok (.iload_n 2, 1) := by decide +kernel
theorem d148_12 : decode Y148.2.1 12 = .ok (.invokestatic 159, 3) := by decide +kernel
theorem d148_15 : decode Y148.2.1 15 = .ok (.ifCond .ne 5, 3) := by decide +kernel
theorem d148_18 : decode Y148.2.1 18 = .ok (.iconst (-1), 1) := by decide +kernel
theorem d148_19 : decode Y148.2.1 19 = .ok (.ireturn, 1) := by decide +kernel
theorem d148_20 : decode Y148.2.1 20 = .ok (.iload_n 2, 1) := by decide +kernel
theorem d148_21 : decode Y148.2.1 21 = .ok (.aload_n 0, 1) := by decide +kernel
theorem d148_22 : decode Y148.2.1 22 = .ok (.getfield 47, 3) := by decide +kernel
theorem d148_25 : decode Y148.2.1 25 = .ok (.iload_n 1, 1) := by decide +kernel
theorem d148_26 : decode Y148.2.1 26 = .ok (.invokevirtual 191, 3) := by decide +kernel
theorem d148_29 : decode Y148.2.1 29 = .ok (.isub, 1) := by decide +kernel
theorem d148_30 : decode Y148.2.1 30 = .ok (.istore_n 3, 1) := by decide +kernel
theorem d148_31 : decode Y148.2.1 31 = .ok (.aload_n 0, 1) := by decide +kernel
theorem d148_32 : decode Y148.2.1 32 = .ok (.getfield 47, 3) := by decide +kernel
theorem d148_35 : decode Y148.2.1 35 = .ok (.iload_n 1, 1) := by decide +kernel
theorem d148_36 : decode Y148.2.1 36 = .ok (.invokevirtual 195, 3) := by decide +kernel
theorem d148_39 : decode Y148.2.1 39 = .ok (.istore 4, 2) := by decide +kernel
theorem d148_41 : decode Y148.2.1 41 = .ok (.aload_n 0, 1) := by decide +kernel
theorem d148_42 : decode Y148.2.1 42 = .ok (.iload 4, 2) := by decide +kernel
theorem d148_44 : decode Y148.2.1 44 = .ok (.iload_n 3, 1) := by decide +kernel
theorem d148_45 : decode Y148.2.1 45 = .ok (.invokevirtual 343, 3) := by decide +kernel
theorem d148_48 : decode Y148.2.1 48 = .ok (.istore 5, 2) := by decide +kernel
theorem d148_50 : decode Y148.2.1 50 = .ok (.iload 5, 2) := by decide +kernel
theorem d148_52 : decode Y148.2.1 52 = .ok (.iconst (-1), 1) := by decide +kernel
theorem d148_53 : decode Y148.2.1 53 = .ok (.if_icmp .ne 6, 3) := by decide +kernel
theorem d148_56 : decode Y148.2.1 56 = .ok (.bipush (-2), 2) := by decide +kernel
theorem d148_58 : decode Y148.2.1 58 = .ok (.ireturn, 1) := by decide +kernel
theorem d148_59 : decode Y148.2.1 59 = .ok (.aload_n 0, 1) := by decide +kernel
theorem d148_60 : decode Y148.2.1 60 = .ok (.aload_n 0, 1) := by decide +kernel
theorem d148_61 : decode Y148.2.1 61 = .ok (.iload 4, 2) := by decide +kernel
theorem d148_63 : decode Y148.2.1 63 = .ok (.iload_n 3, 1) := by decide +kernel
theorem d148_64 : decode Y148.2.1 64 = .ok (.iload 5, 2) := by decide +kernel
theorem d148_66 : decode Y148.2.1 66 = .ok (.invokevirtual 346, 3) := by decide +kernel
theorem d148_69 : decode Y148.2.1 69 = .ok (.invokevirtual 157, 3) := by decide +kernel
theorem d148_72 : decode Y148.2.1 72 = .ok (.iload 5, 2) := by decide +kernel
theorem d148_74 : decode Y148.2.1 74 = .ok (.ireturn, 1) := by decide +kernel
theorem E148 (d : Nat) (a0 : Nat) (x1 : Int32) (x2 : Int32) (h0 : ts_sh a0 = (0, 11)) (m : lt_m) : lt_ev (d + 1) 148 [.inr (.inr (some a0)), .inl x1, .inl x2] m = lt_cI (lt_ev d 90 [.inr (.inr (some (a0 + 13))), .inl x1] m) (fun v1 m1 => (if v1 = 0 then (some (some (.inl (-1 : Int32)), m1)) else (lt_cI (lt_ev d 79 [.inl x2] m1) (fun v2 m2 => (if ¬ v2 = 0 then (lt_cI (lt_ev d 96 [.inr (.inr (some (a0 + 13))), .inl x1] m2) (fun v3 m3 => (lt_cI (lt_ev d 97 [.inr (.inr (some (a0 + 13))), .inl x1] m3) (fun v4 m4 => (lt_cI (lt_ev d 149 [.inr (.inr (some a0)), .inl v4, .inl (x2 - v3)] m4) (fun v5 m5 => (if ¬ v5 = (-1 : Int32) then (lt_cI (lt_ev d 151 [.inr (.inr (some a0)), .inl v4, .inl (x2 - v3), .inl v5] m5) (fun v6 m6 => (lt_cV (lt_ev d 75 [.inr (.inr (some a0)), .inl v6] m6) (fun m7 => (some (some (.inl v5), m7)))))) else (some (some (.inl (-2 : Int32)), m5))))))))) else (some (some (.inl (-1 : Int32)), m2))))))) := by
  refine Eq.trans (lt_enter2 (ls := [some (.inr (.inr (some a0))), some (.inl x1), some (.inl x2), none, none, none]) hY148 (Nat.le_of_ble_eq_true rfl) (by rfl)) ?_
  refine Eq.trans (li_aload_n d148_0 (by rfl)) ?_
  refine Eq.trans (li_getr d148_1 fa_11_47 h0 rfl rfl rfl (by decide)) ?_
  refine Eq.trans (li_iload_n d148_4 (by rfl)) ?_
  refine Eq.trans (li_ivI d148_5 ca_11_175 kd_90 kl_90 (by rfl) (by rfl) (sf_of h0 5 (by decide) (by decide)) (Nat.le_of_ble_eq_true rfl) (Nat.le_of_ble_eq_true rfl)) ?_
  refine lt_cI_c (fun v1 m1 => ?_)
  refine Eq.trans (li_if_eq (t := 18) d148_8 (by rfl)) ?_
  refine lt_ite (fun c1 => ?_) (fun c1 => ?_)
  · refine Eq.trans (li_iconst d148_18 ic_n1) ?_
    exact li_iret d148_19 rfl
  · refine Eq.trans (li_iload_n d148_11 (by rfl)) ?_
    refine Eq.trans (li_isI d148_12 bi_11_159 ca_11_159 kd_79 (by rfl) (by rfl) (Nat.le_of_ble_eq_true rfl) (Nat.le_of_ble_eq_true rfl)) ?_
    refine lt_cI_c (fun v2 m2 => ?_)
    refine Eq.trans (li_if_ne (t := 20) d148_15 (by rfl)) ?_
    refine lt_ite (fun c2 => ?_) (fun c2 => ?_)
    · refine Eq.trans (li_iload_n d148_20 (by rfl)) ?_
      refine Eq.trans (li_aload_n d148_21 (by rfl)) ?_
      refine Eq.trans (li_getr d148_22 fa_11_47 h0 rfl rfl rfl (by decide)) ?_
      refine Eq.trans (li_iload_n d148_25 (by rfl)) ?_
      refine Eq.trans (li_ivI d148_26 ca_11_191 kd_96 kl_96 (by rfl) (by rfl) (sf_of h0 5 (by decide) (by decide)) (Nat.le_of_ble_eq_true rfl) (Nat.le_of_ble_eq_true rfl)) ?_
      refine lt_cI_c (fun v3 m3 => ?_)
      refine Eq.trans (li_isub d148_29) ?_
      refine Eq.trans (li_istore_n (ls' := [some (.inr (.inr (some a0))), some (.inl x1), some (.inl x2), some (.inl (x2 - v3)), none, none]) d148_30 (by decide) (by rfl)) ?_
      refine Eq.trans (li_aload_n d148_31 (by rfl)) ?_
      refine Eq.trans (li_getr d148_32 fa_11_47 h0 rfl rfl rfl (by decide)) ?_
      refine Eq.trans (li_iload_n d148_35 (by rfl)) ?_
      refine Eq.trans (li_ivI d148_36 ca_11_195 kd_97 kl_97 (by rfl) (by rfl) (sf_of h0 5 (by decide) (by decide)) (Nat.le_of_ble_eq_true rfl) (Nat.le_of_ble_eq_true rfl)) ?_
      refine lt_cI_c (fun v4 m4 => ?_)
      refine Eq.trans (li_istore (ls' := [some (.inr (.inr (some a0))), some (.inl x1), some (.inl x2), some (.inl (x2 - v3)), some (.inl v4), none]) d148_39 (by decide) (by rfl)) ?_
      refine Eq.trans (li_aload_n d148_41 (by rfl)) ?_
      refine Eq.trans (li_iload d148_42 (by rfl)) ?_
      refine Eq.trans (li_iload_n d148_44 (by rfl)) ?_
      refine Eq.trans (li_ivI d148_45 ca_11_343 kd_149 kl_149 (by rfl) (by rfl) h0 (Nat.le_of_ble_eq_true rfl) (Nat.le_of_ble_eq_true rfl)) ?_
      refine lt_cI_c (fun v5 m5 => ?_)
      refine Eq.trans (li_istore (ls' := [some (.inr (.inr (some a0))), some (.inl x1), some (.inl x2), some (.inl (x2 - v3)), some (.inl v4), some (.inl v5)]) d148_48 (by decide) (by rfl)) ?_
      refine Eq.trans (li_iload d148_50 (by rfl)) ?_
      refine Eq.trans (li_iconst d148_52 ic_n1) ?_
      refine Eq.trans (li_icmp_ne (t := 59) d148_53 (by rfl)) ?_
      refine lt_ite (fun c3 => ?_) (fun c3 => ?_)
      · refine Eq.trans (li_aload_n d148_59 (by rfl)) ?_
        refine Eq.trans (li_aload_n d148_60 (by rfl)) ?_
        refine Eq.trans (li_iload d148_61 (by rfl)) ?_
        refine Eq.trans (li_iload_n d148_63 (by rfl)) ?_
        refine Eq.trans (li_iload d148_64 (by rfl)) ?_
        refine Eq.trans (li_ivI d148_66 ca_11_346 kd_151 kl_151 (by rfl) (by rfl) h0 (Nat.le_of_ble_eq_true rfl) (Nat.le_of_ble_eq_true rfl)) ?_
        refine lt_cI_c (fun v6 m6 => ?_)
        refine Eq.trans (li_ivV d148_69 ca_11_157 kd_75 kl_75 (by rfl) (by rfl) h0 (Nat.le_of_ble_eq_true rfl) (Nat.le_of_ble_eq_true rfl)) ?_
        refine lt_cV_c (fun m7 => ?_)
        refine Eq.trans (li_iload d148_72 (by rfl)) ?_
        exact li_iret d148_74 rfl
      · refine Eq.trans (li_bipush d148_56 bi_n2) ?_
        exact li_iret d148_58 rfl
    · refine Eq.trans (li_iconst d148_18 ic_n1) ?_
      exact li_iret d148_19 rfl
/-! TransitSeals.fewestFreeing(II)I -/
theorem d149_0 : decode Y149.2.1 0 = .ok (.iconst 0, 1) := by decide +kernel
theorem d149_1 : decode Y149.2.1 1 = .ok (.istore_n 3, 1) := by decide +kernel
theorem d149_2 : decode Y149.2.1 2 = .ok (.iload_n 3, 1) := by decide +kernel
theorem d149_3 : decode Y149.2.1 3 = .ok (.bipush 20, 2) := by decide +kernel
theorem d149_5 : decode Y149.2.1 5 = .ok (.if_icmp .gt 24, 3) := by decide +kernel
theorem d149_8 : decode Y149.2.1 8 = .ok (.aload_n 0, 1) := by decide +kernel
theorem d149_9 : decode Y149.2.1 9 = .ok (.getfield 47, 3) := by decide +kernel
theorem d149_12 : decode Y149.2.1 12 = .ok (.iload_n 1, 1) := by decide +kernel
theorem d149_13 : decode Y149.2.1 13 = .ok (.iload_n 3, 1) := by decide +kernel
theorem d149_14 : decode Y149.2.1 14 = .ok (.invokevirtual 423, 3) := by decide +kernel
theorem d149_17 : decode Y149.2.1 17 = .ok (.iload_n 2, 1) := by decide +kernel
theorem d149_18 : decode Y149.2.1 18 = .ok (.if_icmp .lt 5, 3) := by decide +kernel
theorem d149_21 : decode Y149.2.1 21 = .ok (.iload_n 3, 1) := by decide +kernel
theorem d149_22 : decode Y149.2.1 22 = .ok (.ireturn, 1) := by decide +kernel
theorem d149_23 : decode Y149.2.1 23 = .ok (.iinc 3 1, 3) := by decide +kernel
theorem d149_26 : decode Y149.2.1 26 = .ok (.goto (-24), 3) := by decide +kernel
theorem d149_29 : decode Y149.2.1 29 = .ok (.iconst (-1), 1) := by decide +kernel
theorem d149_30 : decode Y149.2.1 30 = .ok (.ireturn, 1) := by decide +kernel
noncomputable def L149_2 (d : Nat) (a0 : Nat) (x1 : Int32) (x2 : Int32) (x3 : Int32) (m : lt_m) : Option lt_r := lt_run d Y149 2 [some (.inr (.inr (some a0))), some (.inl x1), some (.inl x2), some (.inl x3)] [] m
theorem E149 (d : Nat) (a0 : Nat) (x1 : Int32) (x2 : Int32) (h0 : ts_sh a0 = (0, 11)) (m : lt_m) : lt_ev (d + 1) 149 [.inr (.inr (some a0)), .inl x1, .inl x2] m = L149_2 d a0 x1 x2 (0 : Int32) m := by
  refine Eq.trans (lt_enter2 (ls := [some (.inr (.inr (some a0))), some (.inl x1), some (.inl x2), none]) hY149 (Nat.le_of_ble_eq_true rfl) (by rfl)) ?_
  refine Eq.trans (li_iconst d149_0 ic_0) ?_
  refine Eq.trans (li_istore_n (ls' := [some (.inr (.inr (some a0))), some (.inl x1), some (.inl x2), some (.inl (0 : Int32))]) d149_1 (by decide) (by rfl)) ?_
  rfl
theorem E149_2 (d : Nat) (a0 : Nat) (x1 : Int32) (x2 : Int32) (x3 : Int32) (h0 : ts_sh a0 = (0, 11)) (m : lt_m) : L149_2 d a0 x1 x2 x3 m = if (20 : Int32) < x3 then (some (some (.inl (-1 : Int32)), m)) else (lt_cI (lt_ev d 150 [.inr (.inr (some (a0 + 13))), .inl x1, .inl x3] m) (fun v1 m1 => (if v1 < x2 then (L149_2 d a0 x1 x2 (x3 + (1 : Int32)) m1) else (some (some (.inl x3), m1))))) := by
  show lt_run d Y149 2 [some (.inr (.inr (some a0))), some (.inl x1), some (.inl x2), some (.inl x3)] [] m = _
  refine Eq.trans (li_iload_n d149_2 (by rfl)) ?_
  refine Eq.trans (li_bipush d149_3 bi_20) ?_
  refine Eq.trans (li_icmp_gt (t := 29) d149_5 (by rfl)) ?_
  refine lt_ite (fun c1 => ?_) (fun c1 => ?_)
  · refine Eq.trans (li_iconst d149_29 ic_n1) ?_
    exact li_iret d149_30 rfl
  · refine Eq.trans (li_aload_n d149_8 (by rfl)) ?_
    refine Eq.trans (li_getr d149_9 fa_11_47 h0 rfl rfl rfl (by decide)) ?_
    refine Eq.trans (li_iload_n d149_12 (by rfl)) ?_
    refine Eq.trans (li_iload_n d149_13 (by rfl)) ?_
    refine Eq.trans (li_ivI d149_14 ca_11_423 kd_150 kl_150 (by rfl) (by rfl) (sf_of h0 5 (by decide) (by decide)) (Nat.le_of_ble_eq_true rfl) (Nat.le_of_ble_eq_true rfl)) ?_
    refine lt_cI_c (fun v1 m1 => ?_)
    refine Eq.trans (li_iload_n d149_17 (by rfl)) ?_
    refine Eq.trans (li_icmp_lt (t := 23) d149_18 (by rfl)) ?_
    refine lt_ite (fun c2 => ?_) (fun c2 => ?_)
    · refine Eq.trans (li_iinc (ls' := [some (.inr (.inr (some a0))), some (.inl x1), some (.inl x2), some (.inl (x3 + (1 : Int32)))]) d149_23 (by rfl) (by decide) ic_1 (by rfl)) ?_
      refine Eq.trans (li_goto (t := 2) d149_26 (by rfl)) ?_
      rfl
    · refine Eq.trans (li_iload_n d149_21 (by rfl)) ?_
      exact li_iret d149_22 rfl
/-! TransitSeals$Ledger.greatestShares(II)I -/
theorem d150_0 : decode Y150.2.1 0 = .ok (.iload_n 1, 1) := by decide +kernel
theorem d150_1 : decode Y150.2.1 1 = .ok (.istore_n 3, 1) := by decide +kernel
theorem d150_2 : decode Y150.2.1 2 = .ok (.iconst 0, 1) := by decide +kernel
theorem d150_3 : decode Y150.2.1 3 = .ok (.istore 4, 2) := by decide +kernel
theorem d150_5 : decode Y150.2.1 5 = .ok (.iconst 0, 1) := by decide +kernel
theorem d150_6 : decode Y150.2.1 6 = .ok (.istore 5, 2) := by decide +kernel
theorem d150_8 : decode Y150.2.1 8 = .ok (.iload 5, 2) := by decide +kernel
theorem d150_10 : decode Y150.2.1 10 = .ok (.iload_n 2, 1) := by decide +kernel
theorem d150_11 : decode Y150.2.1 11 = .ok (.if_icmp .ge 107, 3) := by decide +kernel
theorem d150_14 : decode Y150.2.1 14 = .ok (.iload_n 3, 1) := by decide +kernel
theorem d150_15 : decode Y150.2.1 15 = .ok (.ifCond .eq 103, 3) := by decide +kernel
theorem d150_18 : decode Y150.2.1 18 = .ok (.aconst_null, 1) := by decide +kernel
theorem d150_19 : decode Y150.2.1 19 = .ok (.astore 6, 2) := by decide +kernel
theorem d150_21 : decode Y150.2.1 21 = .ok (.aload_n 0, 1) := by decide +kernel
theorem d150_22 : decode Y150.2.1 22 = .ok (.getfield 20, 3) := by decide +kernel
theorem d150_25 : decode Y150.2.1 25 = .ok (.astore 7, 2) := by decide +kernel
theorem d150_27 : decode Y150.2.1 27 = .ok (.aload 7, 2) := by decide +kernel
theorem d150_29 : decode Y150.2.1 29 = .ok (.arraylength, 1) := by decide +kernel
theorem d150_30 : decode Y150.2.1 30 = .ok (.istore 8, 2) := by decide +kernel
theorem d150_32 : decode Y150.2.1 32 = .ok (.iconst 0, 1) := by decide +kernel
theorem d150_33 : decode Y150.2.1 33 = .ok (.istore 9, 2) := by decide +kernel
theorem d150_35 : decode Y150.2.1 35 = .ok (.iload 9, 2) := by decide +kernel
theorem d150_37 : decode Y150.2.1 37 = .ok (.iload 8, 2) := by decide +kernel
theorem d150_39 : decode Y150.2.1 39 = .ok (.if_icmp .ge 48, 3) := by decide +kernel
theorem d150_42 : decode Y150.2.1 42 = .ok (.aload 7, 2) := by decide +kernel
theorem d150_44 : decode Y150.2.1 44 = .ok (.iload 9, 2) := by decide +kernel
theorem d150_46 : decode Y150.2.1 46 = .ok (.aaload, 1) := by decide +kernel
theorem d150_47 : decode Y150.2.1 47 = .ok (.astore 10, 2) := by decide +kernel
theorem d150_49 : decode Y150.2.1 49 = .ok (.iload_n 3, 1) := by decide +kernel
theorem d150_50 : decode Y150.2.1 50 = .ok (.aload 10, 2) := by decide +kernel
theorem d150_52 : decode Y150.2.1 52 = .ok (.invokevirtual 87, 3) := by decide +kernel
theorem d150_55 : decode Y150.2.1 55 = .ok (.iand, 1) := by decide +kernel
theorem d150_56 : decode Y150.2.1 56 = .ok (.ifCond .eq 25, 3) := by decide +kernel
theorem d150_59 : decode Y150.2.1 59 = .ok (.aload 6, 2) := by decide +kernel
theorem d150_61 : decode Y150.2.1 61 = .ok (.ifnull 16, 3) := by decide +kernel
theorem d150_64 : decode Y150.2.1 64 = .ok (.aload 10, 2) := by decide +kernel
theorem d150_66 : decode Y150.2.1 66 = .ok (.getfield 84, 3) := by decide +kernel
theorem d150_69 : decode Y150.2.1 69 = .ok (.aload 6, 2) := by decide +kernel
theorem d150_71 : decode Y150.2.1 71 = .ok (.getfield 84, 3) := by decide +kernel
theorem d150_74 : decode Y150.2.1 74 = .ok (.if_icmp .le 7, 3) := by decide +kernel
theorem d150_77 : decode Y150.2.1 77 = .ok (.aload 10, 2) := by decide +kernel
theorem d150_79 : decode Y150.2.1 79 = .ok (.astore 6, 2) := by decide +kernel
theorem d150_81 : decode Y150.2.1 81 = .ok (.iinc 9 1, 3) := by decide +kernel
theorem d150_84 : decode Y150.2.1 84 = .ok (.goto (-49), 3) := by decide +kernel
theorem d150_87 : decode Y150.2.1 87 = .ok (.aload 6, 2) := by decide +kernel
theorem d150_89 : decode Y150.2.1 89 = .ok (.ifnull 23, 3) := by decide +kernel
theorem d150_92 : decode Y150.2.1 92 = .ok (.iload_n 3, 1) := by decide +kernel
theorem d150_93 : decode Y150.2.1 93 = .ok (.aload 6, 2) := by decide +kernel
theorem d150_95 : decode Y150.2.1 95 = .ok (.invokevirtual 87, 3) := by decide +kernel
theorem d150_98 : decode Y150.2.1 98 = .ok (.iconst (-1), 1) := by decide +kernel
theorem d150_99 : decode Y150.2.1 99 = .ok (.ixor, 1) := by decide +kernel
theorem d150_100 : decode Y150.2.1 100 = .ok (.iand, 1) := by decide +kernel
theorem d150_101 : decode Y150.2.1 101 = .ok (.istore_n 3, 1) := by decide +kernel
theorem d150_102 : decode Y150.2.1 102 = .ok (.iload 4, 2) := by decide +kernel
theorem d150_104 : decode Y150.2.1 104 = .ok (.aload 6, 2) := by decide +kernel
theorem d150_106 : decode Y150.2.1 106 = .ok (.getfield 84, 3) := by decide +kernel
theorem d150_109 : decode Y150.2.1 109 = .ok (.iadd, 1) := by decide +kernel
theorem d150_110 : decode Y150.2.1 110 = .ok (.istore 4, 2) := by decide +kernel
theorem d150_112 : decode Y150.2.1 112 = .ok (.iinc 5 1, 3) := by decide +kernel
theorem d150_115 : decode Y150.2.1 115 = .ok (.goto (-107), 3) := by decide +kernel
theorem d150_118 : decode Y150.2.1 118 = .ok (.iload 4, 2) := by decide +kernel
theorem d150_120 : decode Y150.2.1 120 = .ok (.ireturn, 1) := by decide +kernel
noncomputable def L150_8 (d : Nat) (a0 : Nat) (x1 : Int32) (x2 : Int32) (x3 : Int32) (x4 : Int32) (x5 : Int32) (o6 : Option ts_V) (o7 : Option ts_V) (o8 : Option ts_V) (o9 : Option ts_V) (o10 : Option ts_V) (m : lt_m) : Option lt_r := lt_run d Y150 8 [some (.inr (.inr (some a0))), some (.inl x1), some (.inl x2), some (.inl x3), some (.inl x4), some (.inl x5), o6, o7, o8, o9, o10] [] m
noncomputable def L150_35 (d : Nat) (a0 : Nat) (x1 : Int32) (x2 : Int32) (x3 : Int32) (x4 : Int32) (x5 : Int32) (q6 : Option Nat) (x9 : Int32) (o10 : Option ts_V) (m : lt_m) : Option lt_r := lt_run d Y150 35 [some (.inr (.inr (some a0))), some (.inl x1), some (.inl x2), some (.inl x3), some (.inl x4), some (.inl x5), some (.inr (.inr q6)), some (.inr (.inr (some (a0 + 3)))), some (.inl (20 : Int32)), some (.inl x9), o10] [] m
theorem E150 (d : Nat) (a0 : Nat) (x1 : Int32) (x2 : Int32) (h0 : ts_sh a0 = (0, 2)) (m : lt_m) : lt_ev (d + 1) 150 [.inr (.inr (some a0)), .inl x1, .inl x2] m = L150_8 d a0 x1 x2 x1 (0 : Int32) (0 : Int32) none none none none none m := by
  refine Eq.trans (lt_enter2 (ls := [some (.inr (.inr (some a0))), some (.inl x1), some (.inl x2), none, none, none, none, none, none, none, none]) hY150 (Nat.le_of_ble_eq_true rfl) (by rfl)) ?_
  refine Eq.trans (li_iload_n d150_0 (by rfl)) ?_
  refine Eq.trans (li_istore_n (ls' := [some (.inr (.inr (some a0))), some (.inl x1), some (.inl x2), some (.inl x1), none, none, none, none, none, none, none]) d150_1 (by decide) (by rfl)) ?_
  refine Eq.trans (li_iconst d150_2 ic_0) ?_
  refine Eq.trans (li_istore (ls' := [some (.inr (.inr (some a0))), some (.inl x1), some (.inl x2), some (.inl x1), some (.inl (0 : Int32)), none, none, none, none, none, none]) d150_3 (by decide) (by rfl)) ?_
  refine Eq.trans (li_iconst d150_5 ic_0) ?_
  refine Eq.trans (li_istore (ls' := [some (.inr (.inr (some a0))), some (.inl x1), some (.inl x2), some (.inl x1), some (.inl (0 : Int32)), some (.inl (0 : Int32)), none, none, none, none, none]) d150_6 (by decide) (by rfl)) ?_
  rfl
theorem E150_8 (d : Nat) (a0 : Nat) (x1 : Int32) (x2 : Int32) (x3 : Int32) (x4 : Int32) (x5 : Int32) (o6 : Option ts_V) (o7 : Option ts_V) (o8 : Option ts_V) (o9 : Option ts_V) (o10 : Option ts_V) (h0 : ts_sh a0 = (0, 2)) (m : lt_m) : L150_8 d a0 x1 x2 x3 x4 x5 o6 o7 o8 o9 o10 m = if x2 ≤ x5 then (some (some (.inl x4), m)) else (if x3 = 0 then (some (some (.inl x4), m)) else (L150_35 d a0 x1 x2 x3 x4 x5 none (0 : Int32) (o10) m)) := by
  show lt_run d Y150 8 [some (.inr (.inr (some a0))), some (.inl x1), some (.inl x2), some (.inl x3), some (.inl x4), some (.inl x5), o6, o7, o8, o9, o10] [] m = _
  refine Eq.trans (li_iload d150_8 (by rfl)) ?_
  refine Eq.trans (li_iload_n d150_10 (by rfl)) ?_
  refine Eq.trans (li_icmp_ge (t := 118) d150_11 (by rfl)) ?_
  refine lt_ite (fun c1 => ?_) (fun c1 => ?_)
  · refine Eq.trans (li_iload d150_118 (by rfl)) ?_
    exact li_iret d150_120 rfl
  · refine Eq.trans (li_iload_n d150_14 (by rfl)) ?_
    refine Eq.trans (li_if_eq (t := 118) d150_15 (by rfl)) ?_
    refine lt_ite (fun c2 => ?_) (fun c2 => ?_)
    · refine Eq.trans (li_iload d150_118 (by rfl)) ?_
      exact li_iret d150_120 rfl
    · refine Eq.trans (li_null d150_18) ?_
      refine Eq.trans (li_astore (ls' := [some (.inr (.inr (some a0))), some (.inl x1), some (.inl x2), some (.inl x3), some (.inl x4), some (.inl x5), some (.inr (.inr none)), o7, o8, o9, o10]) d150_19 (by decide) (by rfl)) ?_
      refine Eq.trans (li_aload_n d150_21 (by rfl)) ?_
      refine Eq.trans (li_getr d150_22 fa_2_20 h0 rfl rfl rfl (by decide)) ?_
      refine Eq.trans (li_astore (ls' := [some (.inr (.inr (some a0))), some (.inl x1), some (.inl x2), some (.inl x3), some (.inl x4), some (.inl x5), some (.inr (.inr none)), some (.inr (.inr (some (a0 + 3)))), o8, o9, o10]) d150_25 (by decide) (by rfl)) ?_
      refine Eq.trans (li_aload d150_27 (by rfl)) ?_
      refine Eq.trans (li_alen d150_29 (sf_of h0 2 (by decide) (by decide)) (by decide) (by rfl)) ?_
      refine Eq.trans (li_istore (ls' := [some (.inr (.inr (some a0))), some (.inl x1), some (.inl x2), some (.inl x3), some (.inl x4), some (.inl x5), some (.inr (.inr none)), some (.inr (.inr (some (a0 + 3)))), some (.inl (20 : Int32)), o9, o10]) d150_30 (by decide) (by rfl)) ?_
      refine Eq.trans (li_iconst d150_32 ic_0) ?_
      refine Eq.trans (li_istore (ls' := [some (.inr (.inr (some a0))), some (.inl x1), some (.inl x2), some (.inl x3), some (.inl x4), some (.inl x5), some (.inr (.inr none)), some (.inr (.inr (some (a0 + 3)))), some (.inl (20 : Int32)), some (.inl (0 : Int32)), o10]) d150_33 (by decide) (by rfl)) ?_
      rfl
theorem E150_35 (d : Nat) (a0 : Nat) (x1 : Int32) (x2 : Int32) (x3 : Int32) (x4 : Int32) (x5 : Int32) (q6 : Option Nat) (x9 : Int32) (o10 : Option ts_V) (h0 : ts_sh a0 = (0, 2)) (m : lt_m) : L150_35 d a0 x1 x2 x3 x4 x5 q6 x9 o10 m = if (20 : Int32) ≤ x9 then (lt_nl q6 (L150_8 d a0 x1 x2 x3 x4 (x5 + (1 : Int32)) (some (.inr (.inr none))) (some (.inr (.inr (some (a0 + 3))))) (some (.inl (20 : Int32))) (some (.inl x9)) (o10) m) (fun q1 => (lt_gd (ts_sh q1 = (0, 4)) (lt_cI (lt_ev d 65 [.inr (.inr (some q1))] m) (fun v1 m1 => (L150_8 d a0 x1 x2 (x3 &&& (v1 ^^^ (-1 : Int32))) (x4 + (m1.1 q1 5)) (x5 + (1 : Int32)) (some (.inr (.inr (some q1)))) (some (.inr (.inr (some (a0 + 3))))) (some (.inl (20 : Int32))) (some (.inl x9)) (o10) m1)))))) else (lt_gd (0 ≤ x9 ∧ (x9).toNatClampNeg < 20) (lt_cI (lt_ev d 65 [.inr (.inr (some ((a0 + 3) + 5 + 3 * (x9).toNatClampNeg)))] m) (fun v2 m2 => (if (x3 &&& v2) = 0 then (L150_35 d a0 x1 x2 x3 x4 x5 q6 (x9 + (1 : Int32)) (some (.inr (.inr (some ((a0 + 3) + 5 + 3 * (x9).toNatClampNeg))))) m2) else (lt_nl q6 (L150_35 d a0 x1 x2 x3 x4 x5 (some ((a0 + 3) + 5 + 3 * (x9).toNatClampNeg)) (x9 + (1 : Int32)) (some (.inr (.inr (some ((a0 + 3) + 5 + 3 * (x9).toNatClampNeg))))) m2) (fun q2 => (lt_gd (ts_sh q2 = (0, 4)) (if (m2.1 ((a0 + 3) + 5 + 3 * (x9).toNatClampNeg) 5) ≤ (m2.1 q2 5) then (L150_35 d a0 x1 x2 x3 x4 x5 (some q2) (x9 + (1 : Int32)) (some (.inr (.inr (some ((a0 + 3) + 5 + 3 * (x9).toNatClampNeg))))) m2) else (L150_35 d a0 x1 x2 x3 x4 x5 (some ((a0 + 3) + 5 + 3 * (x9).toNatClampNeg)) (x9 + (1 : Int32)) (some (.inr (.inr (some ((a0 + 3) + 5 + 3 * (x9).toNatClampNeg))))) m2))))))))) := by
  show lt_run d Y150 35 [some (.inr (.inr (some a0))), some (.inl x1), some (.inl x2), some (.inl x3), some (.inl x4), some (.inl x5), some (.inr (.inr q6)), some (.inr (.inr (some (a0 + 3)))), some (.inl (20 : Int32)), some (.inl x9), o10] [] m = _
  refine Eq.trans (li_iload d150_35 (by rfl)) ?_
  refine Eq.trans (li_iload d150_37 (by rfl)) ?_
  refine Eq.trans (li_icmp_ge (t := 87) d150_39 (by rfl)) ?_
  refine lt_ite (fun c1 => ?_) (fun c1 => ?_)
  · refine Eq.trans (li_aload d150_87 (by rfl)) ?_
    refine lt_nl_x (F := fun oz => lt_run d Y150 89 [some (.inr (.inr (some a0))), some (.inl x1), some (.inl x2), some (.inl x3), some (.inl x4), some (.inl x5), some (.inr (.inr oz)), some (.inr (.inr (some (a0 + 3)))), some (.inl (20 : Int32)), some (.inl x9), o10] [.inr (.inr oz)] m) ?_ (fun q1 => ?_)
    · refine Eq.trans (li_ifnull_n (t := 112) d150_89 (by rfl)) ?_
      refine Eq.trans (li_iinc (ls' := [some (.inr (.inr (some a0))), some (.inl x1), some (.inl x2), some (.inl x3), some (.inl x4), some (.inl (x5 + (1 : Int32))), some (.inr (.inr none)), some (.inr (.inr (some (a0 + 3)))), some (.inl (20 : Int32)), some (.inl x9), o10]) d150_112 (by rfl) (by decide) ic_1 (by rfl)) ?_
      refine Eq.trans (li_goto (t := 8) d150_115 (by rfl)) ?_
      rfl
    · refine Eq.trans (li_ifnull_s d150_89) ?_
      refine Eq.trans (li_iload_n d150_92 (by rfl)) ?_
      refine Eq.trans (li_aload d150_93 (by rfl)) ?_
      refine Eq.trans (li_ginv d150_95 ca_2_87 kl_65 (by rfl)) ?_
      refine lt_gd_c (fun g1 => ?_)
      refine Eq.trans (li_ivI d150_95 ca_2_87 kd_65 kl_65 (by rfl) (by rfl) g1 (Nat.le_of_ble_eq_true rfl) (Nat.le_of_ble_eq_true rfl)) ?_
      refine lt_cI_c (fun v1 m1 => ?_)
      refine Eq.trans (li_iconst d150_98 ic_n1) ?_
      refine Eq.trans (li_ixor d150_99) ?_
      refine Eq.trans (li_iand d150_100) ?_
      refine Eq.trans (li_istore_n (ls' := [some (.inr (.inr (some a0))), some (.inl x1), some (.inl x2), some (.inl (x3 &&& (v1 ^^^ (-1 : Int32)))), some (.inl x4), some (.inl x5), some (.inr (.inr (some q1))), some (.inr (.inr (some (a0 + 3)))), some (.inl (20 : Int32)), some (.inl x9), o10]) d150_101 (by decide) (by rfl)) ?_
      refine Eq.trans (li_iload d150_102 (by rfl)) ?_
      refine Eq.trans (li_aload d150_104 (by rfl)) ?_
      refine Eq.trans (li_geti d150_106 fa_2_84 g1 rfl) ?_
      refine Eq.trans (li_iadd d150_109) ?_
      refine Eq.trans (li_istore (ls' := [some (.inr (.inr (some a0))), some (.inl x1), some (.inl x2), some (.inl (x3 &&& (v1 ^^^ (-1 : Int32)))), some (.inl (x4 + (m1.1 q1 5))), some (.inl x5), some (.inr (.inr (some q1))), some (.inr (.inr (some (a0 + 3)))), some (.inl (20 : Int32)), some (.inl x9), o10]) d150_110 (by decide) (by rfl)) ?_
      refine Eq.trans (li_iinc (ls' := [some (.inr (.inr (some a0))), some (.inl x1), some (.inl x2), some (.inl (x3 &&& (v1 ^^^ (-1 : Int32)))), some (.inl (x4 + (m1.1 q1 5))), some (.inl (x5 + (1 : Int32))), some (.inr (.inr (some q1))), some (.inr (.inr (some (a0 + 3)))), some (.inl (20 : Int32)), some (.inl x9), o10]) d150_112 (by rfl) (by decide) ic_1 (by rfl)) ?_
      refine Eq.trans (li_goto (t := 8) d150_115 (by rfl)) ?_
      rfl
  · refine Eq.trans (li_aload d150_42 (by rfl)) ?_
    refine Eq.trans (li_iload d150_44 (by rfl)) ?_
    refine Eq.trans (li_aald4 d150_46 (sf_of h0 2 (by decide) (by decide))) ?_
    refine lt_gd_c (fun g2 => ?_)
    refine Eq.trans (li_astore (ls' := [some (.inr (.inr (some a0))), some (.inl x1), some (.inl x2), some (.inl x3), some (.inl x4), some (.inl x5), some (.inr (.inr q6)), some (.inr (.inr (some (a0 + 3)))), some (.inl (20 : Int32)), some (.inl x9), some (.inr (.inr (some ((a0 + 3) + 5 + 3 * (x9).toNatClampNeg))))]) d150_47 (by decide) (by rfl)) ?_
    refine Eq.trans (li_iload_n d150_49 (by rfl)) ?_
    refine Eq.trans (li_aload d150_50 (by rfl)) ?_
    refine Eq.trans (li_ivI d150_52 ca_2_87 kd_65 kl_65 (by rfl) (by rfl) (sm_4 (sf_of h0 2 (by decide) (by decide)) g2.2) (Nat.le_of_ble_eq_true rfl) (Nat.le_of_ble_eq_true rfl)) ?_
    refine lt_cI_c (fun v2 m2 => ?_)
    refine Eq.trans (li_iand d150_55) ?_
    refine Eq.trans (li_if_eq (t := 81) d150_56 (by rfl)) ?_
    refine lt_ite (fun c2 => ?_) (fun c2 => ?_)
    · refine Eq.trans (li_iinc (ls' := [some (.inr (.inr (some a0))), some (.inl x1), some (.inl x2), some (.inl x3), some (.inl x4), some (.inl x5), some (.inr (.inr q6)), some (.inr (.inr (some (a0 + 3)))), some (.inl (20 : Int32)), some (.inl (x9 + (1 : Int32))), some (.inr (.inr (some ((a0 + 3) + 5 + 3 * (x9).toNatClampNeg))))]) d150_81 (by rfl) (by decide) ic_1 (by rfl)) ?_
      refine Eq.trans (li_goto (t := 35) d150_84 (by rfl)) ?_
      rfl
    · refine Eq.trans (li_aload d150_59 (by rfl)) ?_
      refine lt_nl_x (F := fun oz => lt_run d Y150 61 [some (.inr (.inr (some a0))), some (.inl x1), some (.inl x2), some (.inl x3), some (.inl x4), some (.inl x5), some (.inr (.inr oz)), some (.inr (.inr (some (a0 + 3)))), some (.inl (20 : Int32)), some (.inl x9), some (.inr (.inr (some ((a0 + 3) + 5 + 3 * (x9).toNatClampNeg))))] [.inr (.inr oz)] m2) ?_ (fun q2 => ?_)
      · refine Eq.trans (li_ifnull_n (t := 77) d150_61 (by rfl)) ?_
        refine Eq.trans (li_aload d150_77 (by rfl)) ?_
        refine Eq.trans (li_astore (ls' := [some (.inr (.inr (some a0))), some (.inl x1), some (.inl x2), some (.inl x3), some (.inl x4), some (.inl x5), some (.inr (.inr (some ((a0 + 3) + 5 + 3 * (x9).toNatClampNeg)))), some (.inr (.inr (some (a0 + 3)))), some (.inl (20 : Int32)), some (.inl x9), some (.inr (.inr (some ((a0 + 3) + 5 + 3 * (x9).toNatClampNeg))))]) d150_79 (by decide) (by rfl)) ?_
        refine Eq.trans (li_iinc (ls' := [some (.inr (.inr (some a0))), some (.inl x1), some (.inl x2), some (.inl x3), some (.inl x4), some (.inl x5), some (.inr (.inr (some ((a0 + 3) + 5 + 3 * (x9).toNatClampNeg)))), some (.inr (.inr (some (a0 + 3)))), some (.inl (20 : Int32)), some (.inl (x9 + (1 : Int32))), some (.inr (.inr (some ((a0 + 3) + 5 + 3 * (x9).toNatClampNeg))))]) d150_81 (by rfl) (by decide) ic_1 (by rfl)) ?_
        refine Eq.trans (li_goto (t := 35) d150_84 (by rfl)) ?_
        rfl
      · refine Eq.trans (li_ifnull_s d150_61) ?_
        refine Eq.trans (li_aload d150_64 (by rfl)) ?_
        refine Eq.trans (li_geti d150_66 fa_2_84 (sm_4 (sf_of h0 2 (by decide) (by decide)) g2.2) rfl) ?_
        refine Eq.trans (li_aload d150_69 (by rfl)) ?_
        refine Eq.trans (li_gget d150_71 fa_2_84) ?_
        refine lt_gd_c (fun g3 => ?_)
        refine Eq.trans (li_geti d150_71 fa_2_84 g3 rfl) ?_
        refine Eq.trans (li_icmp_le (t := 81) d150_74 (by rfl)) ?_
        refine lt_ite (fun c3 => ?_) (fun c3 => ?_)
        · refine Eq.trans (li_iinc (ls' := [some (.inr (.inr (some a0))), some (.inl x1), some (.inl x2), some (.inl x3), some (.inl x4), some (.inl x5), some (.inr (.inr (some q2))), some (.inr (.inr (some (a0 + 3)))), some (.inl (20 : Int32)), some (.inl (x9 + (1 : Int32))), some (.inr (.inr (some ((a0 + 3) + 5 + 3 * (x9).toNatClampNeg))))]) d150_81 (by rfl) (by decide) ic_1 (by rfl)) ?_
          refine Eq.trans (li_goto (t := 35) d150_84 (by rfl)) ?_
          rfl
        · refine Eq.trans (li_aload d150_77 (by rfl)) ?_
          refine Eq.trans (li_astore (ls' := [some (.inr (.inr (some a0))), some (.inl x1), some (.inl x2), some (.inl x3), some (.inl x4), some (.inl x5), some (.inr (.inr (some ((a0 + 3) + 5 + 3 * (x9).toNatClampNeg)))), some (.inr (.inr (some (a0 + 3)))), some (.inl (20 : Int32)), some (.inl x9), some (.inr (.inr (some ((a0 + 3) + 5 + 3 * (x9).toNatClampNeg))))]) d150_79 (by decide) (by rfl)) ?_
          refine Eq.trans (li_iinc (ls' := [some (.inr (.inr (some a0))), some (.inl x1), some (.inl x2), some (.inl x3), some (.inl x4), some (.inl x5), some (.inr (.inr (some ((a0 + 3) + 5 + 3 * (x9).toNatClampNeg)))), some (.inr (.inr (some (a0 + 3)))), some (.inl (20 : Int32)), some (.inl (x9 + (1 : Int32))), some (.inr (.inr (some ((a0 + 3) + 5 + 3 * (x9).toNatClampNeg))))]) d150_81 (by rfl) (by decide) ic_1 (by rfl)) ?_
          refine Eq.trans (li_goto (t := 35) d150_84 (by rfl)) ?_
          rfl
/-! TransitSeals.leastBitsFreeing(III)I -/
theorem d151_0 : decode Y151.2.1 0 = .ok (.iconst 0, 1) := by decide +kernel
theorem d151_1 : decode Y151.2.1 1 = .ok (.istore 4, 2) := by decide +kernel
theorem d151_3 : decode Y151.2.1 3 = .ok (.iload_n 2, 1) := by decide +kernel
theorem d151_4 : decode Y151.2.1 4 = .ok (.istore 5, 2) := by decide +kernel
theorem d151_6 : decode Y151.2.1 6 = .ok (.iload_n 3, 1) := by decide +kernel
theorem d151_7 : decode Y151.2.1 7 = .ok (.istore 6, 2) := by decide +kernel
theorem d151_9 : decode Y151.2.1 9 = .ok (.bipush 19, 2) := by decide +kernel
theorem d151_11 : decode Y151.2.1 11 = .ok (.istore 7, 2) := by decide +kernel
theorem d151_13 : decode Y151.2.1 13 = .ok (.iload 7, 2) := by decide +kernel
theorem d151_15 : decode Y151.2.1 15 = .ok (.ifCond .lt 93, 3) := by decide +kernel
theorem d151_18 : decode Y151.2.1 18 = .ok (.iload 6, 2) := by decide +kernel
theorem d151_20 : decode Y151.2.1 20 = .ok (.ifCond .le 88, 3) := by decide +kernel
theorem d151_23 : decode Y151.2.1 23 = .ok (.aload_n 0, 1) := by decide +kernel
theorem d151_24 : decode Y151.2.1 24 = .ok (.getfield 47, 3) := by decide +kernel
theorem d151_27 : decode Y151.2.1 27 = .ok (.iload 7, 2) := by decide +kernel
theorem d151_29 : decode Y151.2.1 29 = .ok (.invokevirtual 240, 3) := by decide +kernel
theorem d151_32 : decode Y151.2.1 32 = .ok (.astore 8, 2) := by decide +kernel
theorem d151_34 : decode Y151.2.1 34 = .ok (.aload 8, 2) := by decide +kernel
theorem d151_36 : decode Y151.2.1 36 = .ok (.ifnull 66, 3) := by decide +kernel
theorem d151_39 : decode Y151.2.1 39 = .ok (.iload_n 1, 1) := by decide +kernel
theorem d151_40 : decode Y151.2.1 40 = .ok (.aload 8, 2) := by decide +kernel
theorem d151_42 : decode Y151.2.1 42 = .ok (.invokevirtual 319, 3) := by decide +kernel
theorem d151_45 : decode Y151.2.1 45 = .ok (.iand, 1) := by decide +kernel
theorem d151_46 : decode Y151.2.1 46 = .ok (.ifCond .ne 6, 3) := by decide +kernel
theorem d151_49 : decode Y151.2.1 49 = .ok (.goto 53, 3) := by decide +kernel
theorem d151_52 : decode Y151.2.1 52 = .ok (.iload_n 1, 1) := by decide +kernel
theorem d151_53 : decode Y151.2.1 53 = .ok (.aload 8, 2) := by decide +kernel
theorem d151_55 : decode Y151.2.1 55 = .ok (.invokevirtual 319, 3) := by decide +kernel
theorem d151_58 : decode Y151.2.1 58 = .ok (.iconst 1, 1) := by decide +kernel
theorem d151_59 : decode Y151.2.1 59 = .ok (.isub, 1) := by decide +kernel
theorem d151_60 : decode Y151.2.1 60 = .ok (.iand, 1) := by decide +kernel
theorem d151_61 : decode Y151.2.1 61 = .ok (.istore 9, 2) := by decide +kernel
theorem d151_63 : decode Y151.2.1 63 = .ok (.aload_n 0, 1) := by decide +kernel
theorem d151_64 : decode Y151.2.1 64 = .ok (.getfield 47, 3) := by decide +kernel
theorem d151_67 : decode Y151.2.1 67 = .ok (.iload 9, 2) := by decide +kernel
theorem d151_69 : decode Y151.2.1 69 = .ok (.iload 6, 2) := by decide +kernel
theorem d151_71 : decode Y151.2.1 71 = .ok (.invokevirtual 423, 3) := by decide +kernel
theorem d151_74 : decode Y151.2.1 74 = .ok (.iload 5, 2) := by decide +kernel
theorem d151_76 : decode Y151.2.1 76 = .ok (.if_icmp .ge 26, 3) := by decide +kernel
theorem d151_79 : decode Y151.2.1 79 = .ok (.iload 4, 2) := by decide +kernel
theorem d151_81 : decode Y151.2.1 81 = .ok (.aload 8, 2) := by decide +kernel
theorem d151_83 : decode Y151.2.1 83 = .ok (.invokevirtual 319, 3) := by decide +kernel
theorem d151_86 : decode Y151.2.1 86 = .ok (.ior, 1) := by decide +kernel
theorem d151_87 : decode Y151.2.1 87 = .ok (.istore 4, 2) := by decide +kernel
theorem d151_89 : decode Y151.2.1 89 = .ok (.iload 5, 2) := by decide +kernel
theorem d151_91 : decode Y151.2.1 91 = .ok (.aload 8, 2) := by decide +kernel
theorem d151_93 : decode Y151.2.1 93 = .ok (.getfield 294, 3) := by decide +kernel
theorem d151_96 : decode Y151.2.1 96 = .ok (.isub, 1) := by decide +kernel
theorem d151_97 : decode Y151.2.1 97 = .ok (.istore 5, 2) := by decide +kernel
theorem d151_99 : decode Y151.2.1 99 = .ok (.iinc 6 (-1), 3) := by decide +kernel
theorem d151_102 : decode Y151.2.1 102 = .ok (.iinc 7 (-1), 3) := by decide +kernel
theorem d151_105 : decode Y151.2.1 105 = .ok (.goto (-92), 3) := by decide +kernel
theorem d151_108 : decode Y151.2.1 108 = .ok (.iload 4, 2) := by decide +kernel
theorem d151_110 : decode Y151.2.1 110 = .ok (.ireturn, 1) := by decide +kernel
noncomputable def L151_13 (d : Nat) (a0 : Nat) (x1 : Int32) (x2 : Int32) (x3 : Int32) (x4 : Int32) (x5 : Int32) (x6 : Int32) (x7 : Int32) (o8 : Option ts_V) (o9 : Option ts_V) (m : lt_m) : Option lt_r := lt_run d Y151 13 [some (.inr (.inr (some a0))), some (.inl x1), some (.inl x2), some (.inl x3), some (.inl x4), some (.inl x5), some (.inl x6), some (.inl x7), o8, o9] [] m
theorem E151 (d : Nat) (a0 : Nat) (x1 : Int32) (x2 : Int32) (x3 : Int32) (h0 : ts_sh a0 = (0, 11)) (m : lt_m) : lt_ev (d + 1) 151 [.inr (.inr (some a0)), .inl x1, .inl x2, .inl x3] m = L151_13 d a0 x1 x2 x3 (0 : Int32) x2 x3 (19 : Int32) none none m := by
  refine Eq.trans (lt_enter2 (ls := [some (.inr (.inr (some a0))), some (.inl x1), some (.inl x2), some (.inl x3), none, none, none, none, none, none]) hY151 (Nat.le_of_ble_eq_true rfl) (by rfl)) ?_
  refine Eq.trans (li_iconst d151_0 ic_0) ?_
  refine Eq.trans (li_istore (ls' := [some (.inr (.inr (some a0))), some (.inl x1), some (.inl x2), some (.inl x3), some (.inl (0 : Int32)), none, none, none, none, none]) d151_1 (by decide) (by rfl)) ?_
  refine Eq.trans (li_iload_n d151_3 (by rfl)) ?_
  refine Eq.trans (li_istore (ls' := [some (.inr (.inr (some a0))), some (.inl x1), some (.inl x2), some (.inl x3), some (.inl (0 : Int32)), some (.inl x2), none, none, none, none]) d151_4 (by decide) (by rfl)) ?_
  refine Eq.trans (li_iload_n d151_6 (by rfl)) ?_
  refine Eq.trans (li_istore (ls' := [some (.inr (.inr (some a0))), some (.inl x1), some (.inl x2), some (.inl x3), some (.inl (0 : Int32)), some (.inl x2), some (.inl x3), none, none, none]) d151_7 (by decide) (by rfl)) ?_
  refine Eq.trans (li_bipush d151_9 bi_19) ?_
  refine Eq.trans (li_istore (ls' := [some (.inr (.inr (some a0))), some (.inl x1), some (.inl x2), some (.inl x3), some (.inl (0 : Int32)), some (.inl x2), some (.inl x3), some (.inl (19 : Int32)), none, none]) d151_11 (by decide) (by rfl)) ?_
  rfl
theorem E151_13 (d : Nat) (a0 : Nat) (x1 : Int32) (x2 : Int32) (x3 : Int32) (x4 : Int32) (x5 : Int32) (x6 : Int32) (x7 : Int32) (o8 : Option ts_V) (o9 : Option ts_V) (h0 : ts_sh a0 = (0, 11)) (m : lt_m) : L151_13 d a0 x1 x2 x3 x4 x5 x6 x7 o8 o9 m = if x7 < 0 then (some (some (.inl x4), m)) else (if x6 ≤ 0 then (some (some (.inl x4), m)) else (lt_cR (lt_ev d 114 [.inr (.inr (some (a0 + 13))), .inl x7] m) (fun v1 m1 => (lt_nl v1 (L151_13 d a0 x1 x2 x3 x4 x5 x6 (x7 + (-1 : Int32)) (some (.inr (.inr none))) (o9) m1) (fun q1 => (lt_gd (ts_sh q1 = (0, 4)) (lt_cI (lt_ev d 65 [.inr (.inr (some q1))] m1) (fun v2 m2 => (if ¬ (x1 &&& v2) = 0 then (lt_cI (lt_ev d 65 [.inr (.inr (some q1))] m2) (fun v3 m3 => (lt_cI (lt_ev d 150 [.inr (.inr (some (a0 + 13))), .inl (x1 &&& (v3 - (1 : Int32))), .inl x6] m3) (fun v4 m4 => (if x5 ≤ v4 then (L151_13 d a0 x1 x2 x3 x4 x5 x6 (x7 + (-1 : Int32)) (some (.inr (.inr (some q1)))) (some (.inl (x1 &&& (v3 - (1 : Int32))))) m4) else (lt_cI (lt_ev d 65 [.inr (.inr (some q1))] m4) (fun v5 m5 => (L151_13 d a0 x1 x2 x3 (x4 ||| v5) (x5 - (m5.1 q1 5)) (x6 + (-1 : Int32)) (x7 + (-1 : Int32)) (some (.inr (.inr (some q1)))) (some (.inl (x1 &&& (v3 - (1 : Int32))))) m5)))))))) else (L151_13 d a0 x1 x2 x3 x4 x5 x6 (x7 + (-1 : Int32)) (some (.inr (.inr (some q1)))) (o9) m2)))))))))) := by
  show lt_run d Y151 13 [some (.inr (.inr (some a0))), some (.inl x1), some (.inl x2), some (.inl x3), some (.inl x4), some (.inl x5), some (.inl x6), some (.inl x7), o8, o9] [] m = _
  refine Eq.trans (li_iload d151_13 (by rfl)) ?_
  refine Eq.trans (li_if_lt (t := 108) d151_15 (by rfl)) ?_
  refine lt_ite (fun c1 => ?_) (fun c1 => ?_)
  · refine Eq.trans (li_iload d151_108 (by rfl)) ?_
    exact li_iret d151_110 rfl
  · refine Eq.trans (li_iload d151_18 (by rfl)) ?_
    refine Eq.trans (li_if_le (t := 108) d151_20 (by rfl)) ?_
    refine lt_ite (fun c2 => ?_) (fun c2 => ?_)
    · refine Eq.trans (li_iload d151_108 (by rfl)) ?_
      exact li_iret d151_110 rfl
    · refine Eq.trans (li_aload_n d151_23 (by rfl)) ?_
      refine Eq.trans (li_getr d151_24 fa_11_47 h0 rfl rfl rfl (by decide)) ?_
      refine Eq.trans (li_iload d151_27 (by rfl)) ?_
      refine Eq.trans (li_ivR d151_29 ca_11_240 kd_114 kl_114 (by rfl) (by rfl) (sf_of h0 5 (by decide) (by decide)) (Nat.le_of_ble_eq_true rfl) (Nat.le_of_ble_eq_true rfl)) ?_
      refine lt_cR_c (fun v1 m1 => ?_)
      refine Eq.trans (li_astore (ls' := [some (.inr (.inr (some a0))), some (.inl x1), some (.inl x2), some (.inl x3), some (.inl x4), some (.inl x5), some (.inl x6), some (.inl x7), some (.inr (.inr v1)), o9]) d151_32 (by decide) (by rfl)) ?_
      refine Eq.trans (li_aload d151_34 (by rfl)) ?_
      refine lt_nl_x (F := fun oz => lt_run d Y151 36 [some (.inr (.inr (some a0))), some (.inl x1), some (.inl x2), some (.inl x3), some (.inl x4), some (.inl x5), some (.inl x6), some (.inl x7), some (.inr (.inr oz)), o9] [.inr (.inr oz)] m1) ?_ (fun q1 => ?_)
      · refine Eq.trans (li_ifnull_n (t := 102) d151_36 (by rfl)) ?_
        refine Eq.trans (li_iinc (ls' := [some (.inr (.inr (some a0))), some (.inl x1), some (.inl x2), some (.inl x3), some (.inl x4), some (.inl x5), some (.inl x6), some (.inl (x7 + (-1 : Int32))), some (.inr (.inr none)), o9]) d151_102 (by rfl) (by decide) ic_n1 (by rfl)) ?_
        refine Eq.trans (li_goto (t := 13) d151_105 (by rfl)) ?_
        rfl
      · refine Eq.trans (li_ifnull_s d151_36) ?_
        refine Eq.trans (li_iload_n d151_39 (by rfl)) ?_
        refine Eq.trans (li_aload d151_40 (by rfl)) ?_
        refine Eq.trans (li_ginv d151_42 ca_11_319 kl_65 (by rfl)) ?_
        refine lt_gd_c (fun g1 => ?_)
        refine Eq.trans (li_ivI d151_42 ca_11_319 kd_65 kl_65 (by rfl) (by rfl) g1 (Nat.le_of_ble_eq_true rfl) (Nat.le_of_ble_eq_true rfl)) ?_
        refine lt_cI_c (fun v2 m2 => ?_)
        refine Eq.trans (li_iand d151_45) ?_
        refine Eq.trans (li_if_ne (t := 52) d151_46 (by rfl)) ?_
        refine lt_ite (fun c3 => ?_) (fun c3 => ?_)
        · refine Eq.trans (li_iload_n d151_52 (by rfl)) ?_
          refine Eq.trans (li_aload d151_53 (by rfl)) ?_
          refine Eq.trans (li_ivI d151_55 ca_11_319 kd_65 kl_65 (by rfl) (by rfl) g1 (Nat.le_of_ble_eq_true rfl) (Nat.le_of_ble_eq_true rfl)) ?_
          refine lt_cI_c (fun v3 m3 => ?_)
          refine Eq.trans (li_iconst d151_58 ic_1) ?_
          refine Eq.trans (li_isub d151_59) ?_
          refine Eq.trans (li_iand d151_60) ?_
          refine Eq.trans (li_istore (ls' := [some (.inr (.inr (some a0))), some (.inl x1), some (.inl x2), some (.inl x3), some (.inl x4), some (.inl x5), some (.inl x6), some (.inl x7), some (.inr (.inr (some q1))), some (.inl (x1 &&& (v3 - (1 : Int32))))]) d151_61 (by decide) (by rfl)) ?_
          refine Eq.trans (li_aload_n d151_63 (by rfl)) ?_
          refine Eq.trans (li_getr d151_64 fa_11_47 h0 rfl rfl rfl (by decide)) ?_
          refine Eq.trans (li_iload d151_67 (by rfl)) ?_
          refine Eq.trans (li_iload d151_69 (by rfl)) ?_
          refine Eq.trans (li_ivI d151_71 ca_11_423 kd_150 kl_150 (by rfl) (by rfl) (sf_of h0 5 (by decide) (by decide)) (Nat.le_of_ble_eq_true rfl) (Nat.le_of_ble_eq_true rfl)) ?_
          refine lt_cI_c (fun v4 m4 => ?_)
          refine Eq.trans (li_iload d151_74 (by rfl)) ?_
          refine Eq.trans (li_icmp_ge (t := 102) d151_76 (by rfl)) ?_
          refine lt_ite (fun c4 => ?_) (fun c4 => ?_)
          · refine Eq.trans (li_iinc (ls' := [some (.inr (.inr (some a0))), some (.inl x1), some (.inl x2), some (.inl x3), some (.inl x4), some (.inl x5), some (.inl x6), some (.inl (x7 + (-1 : Int32))), some (.inr (.inr (some q1))), some (.inl (x1 &&& (v3 - (1 : Int32))))]) d151_102 (by rfl) (by decide) ic_n1 (by rfl)) ?_
            refine Eq.trans (li_goto (t := 13) d151_105 (by rfl)) ?_
            rfl
          · refine Eq.trans (li_iload d151_79 (by rfl)) ?_
            refine Eq.trans (li_aload d151_81 (by rfl)) ?_
            refine Eq.trans (li_ivI d151_83 ca_11_319 kd_65 kl_65 (by rfl) (by rfl) g1 (Nat.le_of_ble_eq_true rfl) (Nat.le_of_ble_eq_true rfl)) ?_
            refine lt_cI_c (fun v5 m5 => ?_)
            refine Eq.trans (li_ior d151_86) ?_
            refine Eq.trans (li_istore (ls' := [some (.inr (.inr (some a0))), some (.inl x1), some (.inl x2), some (.inl x3), some (.inl (x4 ||| v5)), some (.inl x5), some (.inl x6), some (.inl x7), some (.inr (.inr (some q1))), some (.inl (x1 &&& (v3 - (1 : Int32))))]) d151_87 (by decide) (by rfl)) ?_
            refine Eq.trans (li_iload d151_89 (by rfl)) ?_
            refine Eq.trans (li_aload d151_91 (by rfl)) ?_
            refine Eq.trans (li_geti d151_93 fa_11_294 g1 rfl) ?_
            refine Eq.trans (li_isub d151_96) ?_
            refine Eq.trans (li_istore (ls' := [some (.inr (.inr (some a0))), some (.inl x1), some (.inl x2), some (.inl x3), some (.inl (x4 ||| v5)), some (.inl (x5 - (m5.1 q1 5))), some (.inl x6), some (.inl x7), some (.inr (.inr (some q1))), some (.inl (x1 &&& (v3 - (1 : Int32))))]) d151_97 (by decide) (by rfl)) ?_
            refine Eq.trans (li_iinc (ls' := [some (.inr (.inr (some a0))), some (.inl x1), some (.inl x2), some (.inl x3), some (.inl (x4 ||| v5)), some (.inl (x5 - (m5.1 q1 5))), some (.inl (x6 + (-1 : Int32))), some (.inl x7), some (.inr (.inr (some q1))), some (.inl (x1 &&& (v3 - (1 : Int32))))]) d151_99 (by rfl) (by decide) ic_n1 (by rfl)) ?_
            refine Eq.trans (li_iinc (ls' := [some (.inr (.inr (some a0))), some (.inl x1), some (.inl x2), some (.inl x3), some (.inl (x4 ||| v5)), some (.inl (x5 - (m5.1 q1 5))), some (.inl (x6 + (-1 : Int32))), some (.inl (x7 + (-1 : Int32))), some (.inr (.inr (some q1))), some (.inl (x1 &&& (v3 - (1 : Int32))))]) d151_102 (by rfl) (by decide) ic_n1 (by rfl)) ?_
            refine Eq.trans (li_goto (t := 13) d151_105 (by rfl)) ?_
            rfl
        · refine Eq.trans (li_goto (t := 102) d151_49 (by rfl)) ?_
          refine Eq.trans (li_iinc (ls' := [some (.inr (.inr (some a0))), some (.inl x1), some (.inl x2), some (.inl x3), some (.inl x4), some (.inl x5), some (.inl x6), some (.inl (x7 + (-1 : Int32))), some (.inr (.inr (some q1))), o9]) d151_102 (by rfl) (by decide) ic_n1 (by rfl)) ?_
          refine Eq.trans (li_goto (t := 13) d151_105 (by rfl)) ?_
          rfl
/-! TransitSeals.when(II)I -/
theorem d152_0 : decode Y152.2.1 0 = .ok (.aload_n 0, 1) := by decide +kernel
theorem d152_1 : decode Y152.2.1 1 = .ok (.getfield 47, 3) := by decide +kernel
theorem d152_4 : decode Y152.2.1 4 = .ok (.iload_n 1, 1) := by decide +kernel
theorem d152_5 : decode Y152.2.1 5 = .ok (.invokevirtual 175, 3) := by decide +kernel
theorem d152_8 : decode Y152.2.1 8 = .ok (.ifCond .eq 10, 3) := by decide +kernel
theorem d152_11 : decode Y152.2.1 11 = .ok (.iload_n 2, 1) := by decide +kernel
theorem d152_12 : decode Y152.2.1 12 = .ok (.invokestatic 159, 3) := by decide +kernel
theorem d152_15 : decode Y152.2.1 15 = .ok (.ifCond .ne 5, 3) := by decide +kernel
theorem d152_18 : decode Y152.2.1 18 = .ok (.iconst (-1), 1) := by decide +kernel
theorem d152_19 : decode Y152.2.1 19 = .ok (.ireturn, 1) := by decide +kernel
theorem d152_20 : decode Y152.2.1 20 = .ok (.iload_n 2, 1) := by decide +kernel
theorem d152_21 : decode Y152.2.1 21 = .ok (.aload_n 0, 1) := by decide +kernel
theorem d152_22 : decode Y152.2.1 22 = .ok (.getfield 47, 3) := by decide +kernel
theorem d152_25 : decode Y152.2.1 25 = .ok (.iload_n 1, 1) := by decide +kernel
theorem d152_26 : decode Y152.2.1 26 = .ok (.invokevirtual 191, 3) := by decide +kernel
theorem d152_29 : decode Y152.2.1 29 = .ok (.isub, 1) := by decide +kernel
theorem d152_30 : decode Y152.2.1 30 = .ok (.istore_n 3, 1) := by decide +kernel
theorem d152_31 : decode Y152.2.1 31 = .ok (.iload_n 3, 1) := by decide +kernel
theorem d152_32 : decode Y152.2.1 32 = .ok (.ifCond .gt 11, 3) := by decide +kernel
theorem d152_35 : decode Y152.2.1 35 = .ok (.aload_n 0, 1) := by decide +kernel
theorem d152_36 : decode Y152.2.1 36 = .ok (.getfield 47, 3) := by decide +kernel
theorem d152_39 : decode Y152.2.1 39 = .ok (.getfield 223, 3) := by decide +kernel
theorem d152_42 : decode Y152.2.1 42 = .ok (.ireturn, 1) := by decide +kernel
theorem d152_43 : decode Y152.2.1 43 = .ok (.ldc 126, 2) := by decide +kernel
theorem d152_45 : decode Y152.2.1 45 = .ok (.istore 4, 2) := by decide +kernel
theorem d152_47 : decode Y152.2.1 47 = .ok (.aload_n 0, 1) := by decide +kernel
theorem d152_48 : decode Y152.2.1 48 = .ok (.getfield 47, 3) := by decide +kernel
theorem d152_51 : decode Y152.2.1 51 = .ok (.getfield 315, 3) := by decide +kernel
theorem d152_54 : decode Y152.2.1 54 = .ok (.astore 5, 2) := by decide +kernel
theorem d152_56 : decode Y152.2.1 56 = .ok (.aload 5, 2) := by decide +kernel
theorem d152_58 : decode Y152.2.1 58 = .ok (.arraylength, 1) := by decide +kernel
theorem d152_59 : decode Y152.2.1 59 = .ok (.istore 6, 2) := by decide +kernel
theorem d152_61 : decode Y152.2.1 61 = .ok (.iconst 0, 1) := by decide +kernel
theorem d152_62 : decode Y152.2.1 62 = .ok (.istore 7, 2) := by decide +kernel
theorem d152_64 : decode Y152.2.1 64 = .ok (.iload 7, 2) := by decide +kernel
theorem d152_66 : decode Y152.2.1 66 = .ok (.iload 6, 2) := by decide +kernel
theorem d152_68 : decode Y152.2.1 68 = .ok (.if_icmp .ge 55, 3) := by decide +kernel
theorem d152_71 : decode Y152.2.1 71 = .ok (.aload 5, 2) := by decide +kernel
theorem d152_73 : decode Y152.2.1 73 = .ok (.iload 7, 2) := by decide +kernel
theorem d152_75 : decode Y152.2.1 75 = .ok (.aaload, 1) := by decide +kernel
theorem d152_76 : decode Y152.2.1 76 = .ok (.astore 8, 2) := by decide +kernel
theorem d152_78 : decode Y152.2.1 78 = .ok (.aload 8, 2) := by decide +kernel
theorem d152_80 : decode Y152.2.1 80 = .ok (.iload_n 1, 1) := by decide +kernel
theorem d152_81 : decode Y152.2.1 81 = .ok (.invokevirtual 329, 3) := by decide +kernel
theorem d152_84 : decode Y152.2.1 84 = .ok (.ifCond .eq 33, 3) := by decide +kernel
theorem d152_87 : decode Y152.2.1 87 = .ok (.aload_n 0, 1) := by decide +kernel
theorem d152_88 : decode Y152.2.1 88 = .ok (.aload 8, 2) := by decide +kernel
theorem d152_90 : decode Y152.2.1 90 = .ok (.invokevirtual 350, 3) := by decide +kernel
theorem d152_93 : decode Y152.2.1 93 = .ok (.istore 9, 2) := by decide +kernel
theorem d152_95 : decode Y152.2.1 95 = .ok (.iload 9, 2) := by decide +kernel
theorem d152_97 : decode Y152.2.1 97 = .ok (.iload 4, 2) := by decide +kernel
theorem d152_99 : decode Y152.2.1 99 = .ok (.if_icmp .ge 18, 3) := by decide +kernel
theorem d152_102 : decode Y152.2.1 102 = .ok (.aload_n 0, 1) := by decide +kernel
theorem d152_103 : decode Y152.2.1 103 = .ok (.iload_n 1, 1) := by decide +kernel
theorem d152_104 : decode Y152.2.1 104 = .ok (.iload 9, 2) := by decide +kernel
theorem d152_106 : decode Y152.2.1 106 = .ok (.invokevirtual 353, 3) := by decide +kernel
theorem d152_109 : decode Y152.2.1 109 = .ok (.iload_n 3, 1) := by decide +kernel
theorem d152_110 : decode Y152.2.1 110 = .ok (.if_icmp .lt 7, 3) := by decide +kernel
theorem d152_113 : decode Y152.2.1 113 = .ok (.iload 9, 2) := by decide +kernel
theorem d152_115 : decode Y152.2.1 115 = .ok (.istore 4, 2) := by decide +kernel
theorem d152_117 : decode Y152.2.1 117 = .ok (.iinc 7 1, 3) := by decide +kernel
theorem d152_120 : decode Y152.2.1 120 = .ok (.goto (-56), 3) := by decide +kernel
theorem d152_123 : decode Y152.2.1 123 = .ok (.iload 4, 2) := by decide +kernel
theorem d152_125 : decode Y152.2.1 125 = .ok (.ldc 126, 2) := by decide +kernel
theorem d152_127 : decode Y152.2.1 127 = .ok (.if_icmp .ne 8, 3) := by decide +kernel
theorem d152_130 : decode Y152.2.1 130 = .ok (.bipush (-2), 2) := by decide +kernel
theorem d152_132 : decode Y152.2.1 132 = .ok (.goto 5, 3) := by decide +kernel
theorem d152_135 : decode Y152.2.1 135 = .ok (.iload 4, 2) := by decide +kernel
theorem d152_137 : decode Y152.2.1 137 = .ok (.ireturn, 1) := by decide +kernel
noncomputable def L152_64 (d : Nat) (a0 : Nat) (x1 : Int32) (x2 : Int32) (x3 : Int32) (x4 : Int32) (x7 : Int32) (o8 : Option ts_V) (o9 : Option ts_V) (m : lt_m) : Option lt_r := lt_run d Y152 64 [some (.inr (.inr (some a0))), some (.inl x1), some (.inl x2), some (.inl x3), some (.inl x4), some (.inr (.inr (some ((a0 + 13) + 3)))), some (.inl (20 : Int32)), some (.inl x7), o8, o9] [] m
theorem E152 (d : Nat) (a0 : Nat) (x1 : Int32) (x2 : Int32) (h0 : ts_sh a0 = (0, 11)) (m : lt_m) : lt_ev (d + 1) 152 [.inr (.inr (some a0)), .inl x1, .inl x2] m = lt_cI (lt_ev d 90 [.inr (.inr (some (a0 + 13))), .inl x1] m) (fun v1 m1 => (if v1 = 0 then (some (some (.inl (-1 : Int32)), m1)) else (lt_cI (lt_ev d 79 [.inl x2] m1) (fun v2 m2 => (if ¬ v2 = 0 then (lt_cI (lt_ev d 96 [.inr (.inr (some (a0 + 13))), .inl x1] m2) (fun v3 m3 => (if 0 < (x2 - v3) then (L152_64 d a0 x1 x2 (x2 - v3) (1000000 : Int32) (0 : Int32) none none m3) else (some (some (.inl (m3.1 (a0 + 13) 4)), m3))))) else (some (some (.inl (-1 : Int32)), m2))))))) := by
  refine Eq.trans (lt_enter2 (ls := [some (.inr (.inr (some a0))), some (.inl x1), some (.inl x2), none, none, none, none, none, none, none]) hY152 (Nat.le_of_ble_eq_true rfl) (by rfl)) ?_
  refine Eq.trans (li_aload_n d152_0 (by rfl)) ?_
  refine Eq.trans (li_getr d152_1 fa_11_47 h0 rfl rfl rfl (by decide)) ?_
  refine Eq.trans (li_iload_n d152_4 (by rfl)) ?_
  refine Eq.trans (li_ivI d152_5 ca_11_175 kd_90 kl_90 (by rfl) (by rfl) (sf_of h0 5 (by decide) (by decide)) (Nat.le_of_ble_eq_true rfl) (Nat.le_of_ble_eq_true rfl)) ?_
  refine lt_cI_c (fun v1 m1 => ?_)
  refine Eq.trans (li_if_eq (t := 18) d152_8 (by rfl)) ?_
  refine lt_ite (fun c1 => ?_) (fun c1 => ?_)
  · refine Eq.trans (li_iconst d152_18 ic_n1) ?_
    exact li_iret d152_19 rfl
  · refine Eq.trans (li_iload_n d152_11 (by rfl)) ?_
    refine Eq.trans (li_isI d152_12 bi_11_159 ca_11_159 kd_79 (by rfl) (by rfl) (Nat.le_of_ble_eq_true rfl) (Nat.le_of_ble_eq_true rfl)) ?_
    refine lt_cI_c (fun v2 m2 => ?_)
    refine Eq.trans (li_if_ne (t := 20) d152_15 (by rfl)) ?_
    refine lt_ite (fun c2 => ?_) (fun c2 => ?_)
    · refine Eq.trans (li_iload_n d152_20 (by rfl)) ?_
      refine Eq.trans (li_aload_n d152_21 (by rfl)) ?_
      refine Eq.trans (li_getr d152_22 fa_11_47 h0 rfl rfl rfl (by decide)) ?_
      refine Eq.trans (li_iload_n d152_25 (by rfl)) ?_
      refine Eq.trans (li_ivI d152_26 ca_11_191 kd_96 kl_96 (by rfl) (by rfl) (sf_of h0 5 (by decide) (by decide)) (Nat.le_of_ble_eq_true rfl) (Nat.le_of_ble_eq_true rfl)) ?_
      refine lt_cI_c (fun v3 m3 => ?_)
      refine Eq.trans (li_isub d152_29) ?_
      refine Eq.trans (li_istore_n (ls' := [some (.inr (.inr (some a0))), some (.inl x1), some (.inl x2), some (.inl (x2 - v3)), none, none, none, none, none, none]) d152_30 (by decide) (by rfl)) ?_
      refine Eq.trans (li_iload_n d152_31 (by rfl)) ?_
      refine Eq.trans (li_if_gt (t := 43) d152_32 (by rfl)) ?_
      refine lt_ite (fun c3 => ?_) (fun c3 => ?_)
      · refine Eq.trans (li_ldc d152_43 cI_11_126) ?_
        refine Eq.trans (li_istore (ls' := [some (.inr (.inr (some a0))), some (.inl x1), some (.inl x2), some (.inl (x2 - v3)), some (.inl (1000000 : Int32)), none, none, none, none, none]) d152_45 (by decide) (by rfl)) ?_
        refine Eq.trans (li_aload_n d152_47 (by rfl)) ?_
        refine Eq.trans (li_getr d152_48 fa_11_47 h0 rfl rfl rfl (by decide)) ?_
        refine Eq.trans (li_getr d152_51 fa_11_315 (sf_of h0 5 (by decide) (by decide)) rfl rfl rfl (by decide)) ?_
        refine Eq.trans (li_astore (ls' := [some (.inr (.inr (some a0))), some (.inl x1), some (.inl x2), some (.inl (x2 - v3)), some (.inl (1000000 : Int32)), some (.inr (.inr (some ((a0 + 13) + 3)))), none, none, none, none]) d152_54 (by decide) (by rfl)) ?_
        refine Eq.trans (li_aload d152_56 (by rfl)) ?_
        refine Eq.trans (li_alen d152_58 (sf_of (sf_of h0 5 (by decide) (by decide)) 2 (by decide) (by decide)) (by decide) (by rfl)) ?_
        refine Eq.trans (li_istore (ls' := [some (.inr (.inr (some a0))), some (.inl x1), some (.inl x2), some (.inl (x2 - v3)), some (.inl (1000000 : Int32)), some (.inr (.inr (some ((a0 + 13) + 3)))), some (.inl (20 : Int32)), none, none, none]) d152_59 (by decide) (by rfl)) ?_
        refine Eq.trans (li_iconst d152_61 ic_0) ?_
        refine Eq.trans (li_istore (ls' := [some (.inr (.inr (some a0))), some (.inl x1), some (.inl x2), some (.inl (x2 - v3)), some (.inl (1000000 : Int32)), some (.inr (.inr (some ((a0 + 13) + 3)))), some (.inl (20 : Int32)), some (.inl (0 : Int32)), none, none]) d152_62 (by decide) (by rfl)) ?_
        rfl
      · refine Eq.trans (li_aload_n d152_35 (by rfl)) ?_
        refine Eq.trans (li_getr d152_36 fa_11_47 h0 rfl rfl rfl (by decide)) ?_
        refine Eq.trans (li_geti d152_39 fa_11_223 (sf_of h0 5 (by decide) (by decide)) rfl) ?_
        exact li_iret d152_42 rfl
    · refine Eq.trans (li_iconst d152_18 ic_n1) ?_
      exact li_iret d152_19 rfl
theorem E152_64 (d : Nat) (a0 : Nat) (x1 : Int32) (x2 : Int32) (x3 : Int32) (x4 : Int32) (x7 : Int32) (o8 : Option ts_V) (o9 : Option ts_V) (h0 : ts_sh a0 = (0, 11)) (m : lt_m) : L152_64 d a0 x1 x2 x3 x4 x7 o8 o9 m = if (20 : Int32) ≤ x7 then (if ¬ x4 = (1000000 : Int32) then (some (some (.inl x4), m)) else (some (some (.inl (-2 : Int32)), m))) else (lt_gd (0 ≤ x7 ∧ (x7).toNatClampNeg < 20) (lt_cI (lt_ev d 92 [.inr (.inr (some (((a0 + 13) + 3) + 5 + 3 * (x7).toNatClampNeg))), .inl x1] m) (fun v1 m1 => (if v1 = 0 then (L152_64 d a0 x1 x2 x3 x4 (x7 + (1 : Int32)) (some (.inr (.inr (some (((a0 + 13) + 3) + 5 + 3 * (x7).toNatClampNeg))))) (o9) m1) else (lt_cI (lt_ev d 153 [.inr (.inr (some a0)), .inr (.inr (some (((a0 + 13) + 3) + 5 + 3 * (x7).toNatClampNeg)))] m1) (fun v2 m2 => (if x4 ≤ v2 then (L152_64 d a0 x1 x2 x3 x4 (x7 + (1 : Int32)) (some (.inr (.inr (some (((a0 + 13) + 3) + 5 + 3 * (x7).toNatClampNeg))))) (some (.inl v2)) m2) else (lt_cI (lt_ev d 154 [.inr (.inr (some a0)), .inl x1, .inl v2] m2) (fun v3 m3 => (if v3 < x3 then (L152_64 d a0 x1 x2 x3 x4 (x7 + (1 : Int32)) (some (.inr (.inr (some (((a0 + 13) + 3) + 5 + 3 * (x7).toNatClampNeg))))) (some (.inl v2)) m3) else (L152_64 d a0 x1 x2 x3 v2 (x7 + (1 : Int32)) (some (.inr (.inr (some (((a0 + 13) + 3) + 5 + 3 * (x7).toNatClampNeg))))) (some (.inl v2)) m3))))))))))) := by
  show lt_run d Y152 64 [some (.inr (.inr (some a0))), some (.inl x1), some (.inl x2), some (.inl x3), some (.inl x4), some (.inr (.inr (some ((a0 + 13) + 3)))), some (.inl (20 : Int32)), some (.inl x7), o8, o9] [] m = _
  refine Eq.trans (li_iload d152_64 (by rfl)) ?_
  refine Eq.trans (li_iload d152_66 (by rfl)) ?_
  refine Eq.trans (li_icmp_ge (t := 123) d152_68 (by rfl)) ?_
  refine lt_ite (fun c1 => ?_) (fun c1 => ?_)
  · refine Eq.trans (li_iload d152_123 (by rfl)) ?_
    refine Eq.trans (li_ldc d152_125 cI_11_126) ?_
    refine Eq.trans (li_icmp_ne (t := 135) d152_127 (by rfl)) ?_
    refine lt_ite (fun c2 => ?_) (fun c2 => ?_)
    · refine Eq.trans (li_iload d152_135 (by rfl)) ?_
      exact li_iret d152_137 rfl
    · refine Eq.trans (li_bipush d152_130 bi_n2) ?_
      refine Eq.trans (li_goto (t := 137) d152_132 (by rfl)) ?_
      exact li_iret d152_137 rfl
  · refine Eq.trans (li_aload d152_71 (by rfl)) ?_
    refine Eq.trans (li_iload d152_73 (by rfl)) ?_
    refine Eq.trans (li_aald4 d152_75 (sf_of (sf_of h0 5 (by decide) (by decide)) 2 (by decide) (by decide))) ?_
    refine lt_gd_c (fun g1 => ?_)
    refine Eq.trans (li_astore (ls' := [some (.inr (.inr (some a0))), some (.inl x1), some (.inl x2), some (.inl x3), some (.inl x4), some (.inr (.inr (some ((a0 + 13) + 3)))), some (.inl (20 : Int32)), some (.inl x7), some (.inr (.inr (some (((a0 + 13) + 3) + 5 + 3 * (x7).toNatClampNeg)))), o9]) d152_76 (by decide) (by rfl)) ?_
    refine Eq.trans (li_aload d152_78 (by rfl)) ?_
    refine Eq.trans (li_iload_n d152_80 (by rfl)) ?_
    refine Eq.trans (li_ivI d152_81 ca_11_329 kd_92 kl_92 (by rfl) (by rfl) (sm_4 (sf_of (sf_of h0 5 (by decide) (by decide)) 2 (by decide) (by decide)) g1.2) (Nat.le_of_ble_eq_true rfl) (Nat.le_of_ble_eq_true rfl)) ?_
    refine lt_cI_c (fun v1 m1 => ?_)
    refine Eq.trans (li_if_eq (t := 117) d152_84 (by rfl)) ?_
    refine lt_ite (fun c3 => ?_) (fun c3 => ?_)
    · refine Eq.trans (li_iinc (ls' := [some (.inr (.inr (some a0))), some (.inl x1), some (.inl x2), some (.inl x3), some (.inl x4), some (.inr (.inr (some ((a0 + 13) + 3)))), some (.inl (20 : Int32)), some (.inl (x7 + (1 : Int32))), some (.inr (.inr (some (((a0 + 13) + 3) + 5 + 3 * (x7).toNatClampNeg)))), o9]) d152_117 (by rfl) (by decide) ic_1 (by rfl)) ?_
      refine Eq.trans (li_goto (t := 64) d152_120 (by rfl)) ?_
      rfl
    · refine Eq.trans (li_aload_n d152_87 (by rfl)) ?_
      refine Eq.trans (li_aload d152_88 (by rfl)) ?_
      refine Eq.trans (li_ivI d152_90 ca_11_350 kd_153 kl_153 (by rfl) (by rfl) h0 (Nat.le_of_ble_eq_true rfl) (Nat.le_of_ble_eq_true rfl)) ?_
      refine lt_cI_c (fun v2 m2 => ?_)
      refine Eq.trans (li_istore (ls' := [some (.inr (.inr (some a0))), some (.inl x1), some (.inl x2), some (.inl x3), some (.inl x4), some (.inr (.inr (some ((a0 + 13) + 3)))), some (.inl (20 : Int32)), some (.inl x7), some (.inr (.inr (some (((a0 + 13) + 3) + 5 + 3 * (x7).toNatClampNeg)))), some (.inl v2)]) d152_93 (by decide) (by rfl)) ?_
      refine Eq.trans (li_iload d152_95 (by rfl)) ?_
      refine Eq.trans (li_iload d152_97 (by rfl)) ?_
      refine Eq.trans (li_icmp_ge (t := 117) d152_99 (by rfl)) ?_
      refine lt_ite (fun c4 => ?_) (fun c4 => ?_)
      · refine Eq.trans (li_iinc (ls' := [some (.inr (.inr (some a0))), some (.inl x1), some (.inl x2), some (.inl x3), some (.inl x4), some (.inr (.inr (some ((a0 + 13) + 3)))), some (.inl (20 : Int32)), some (.inl (x7 + (1 : Int32))), some (.inr (.inr (some (((a0 + 13) + 3) + 5 + 3 * (x7).toNatClampNeg)))), some (.inl v2)]) d152_117 (by rfl) (by decide) ic_1 (by rfl)) ?_
        refine Eq.trans (li_goto (t := 64) d152_120 (by rfl)) ?_
        rfl
      · refine Eq.trans (li_aload_n d152_102 (by rfl)) ?_
        refine Eq.trans (li_iload_n d152_103 (by rfl)) ?_
        refine Eq.trans (li_iload d152_104 (by rfl)) ?_
        refine Eq.trans (li_ivI d152_106 ca_11_353 kd_154 kl_154 (by rfl) (by rfl) h0 (Nat.le_of_ble_eq_true rfl) (Nat.le_of_ble_eq_true rfl)) ?_
        refine lt_cI_c (fun v3 m3 => ?_)
        refine Eq.trans (li_iload_n d152_109 (by rfl)) ?_
        refine Eq.trans (li_icmp_lt (t := 117) d152_110 (by rfl)) ?_
        refine lt_ite (fun c5 => ?_) (fun c5 => ?_)
        · refine Eq.trans (li_iinc (ls' := [some (.inr (.inr (some a0))), some (.inl x1), some (.inl x2), some (.inl x3), some (.inl x4), some (.inr (.inr (some ((a0 + 13) + 3)))), some (.inl (20 : Int32)), some (.inl (x7 + (1 : Int32))), some (.inr (.inr (some (((a0 + 13) + 3) + 5 + 3 * (x7).toNatClampNeg)))), some (.inl v2)]) d152_117 (by rfl) (by decide) ic_1 (by rfl)) ?_
          refine Eq.trans (li_goto (t := 64) d152_120 (by rfl)) ?_
          rfl
        · refine Eq.trans (li_iload d152_113 (by rfl)) ?_
          refine Eq.trans (li_istore (ls' := [some (.inr (.inr (some a0))), some (.inl x1), some (.inl x2), some (.inl x3), some (.inl v2), some (.inr (.inr (some ((a0 + 13) + 3)))), some (.inl (20 : Int32)), some (.inl x7), some (.inr (.inr (some (((a0 + 13) + 3) + 5 + 3 * (x7).toNatClampNeg)))), some (.inl v2)]) d152_115 (by decide) (by rfl)) ?_
          refine Eq.trans (li_iinc (ls' := [some (.inr (.inr (some a0))), some (.inl x1), some (.inl x2), some (.inl x3), some (.inl v2), some (.inr (.inr (some ((a0 + 13) + 3)))), some (.inl (20 : Int32)), some (.inl (x7 + (1 : Int32))), some (.inr (.inr (some (((a0 + 13) + 3) + 5 + 3 * (x7).toNatClampNeg)))), some (.inl v2)]) d152_117 (by rfl) (by decide) ic_1 (by rfl)) ?_
          refine Eq.trans (li_goto (t := 64) d152_120 (by rfl)) ?_
          rfl
/-! TransitSeals.closingHour(LTransitSeals$Movement;)I -/
theorem d153_0 : decode Y153.2.1 0 = .ok (.aload_n 1, 1) := by decide +kernel
theorem d153_1 : decode Y153.2.1 1 = .ok (.getfield 269, 3) := by decide +kernel
theorem d153_4 : decode Y153.2.1 4 = .ok (.iconst 1, 1) := by decide +kernel
theorem d153_5 : decode Y153.2.1 5 = .ok (.if_icmp .ne 11, 3) := by decide +kernel
theorem d153_8 : decode Y153.2.1 8 = .ok (.aload_n 0, 1) := by decide +kernel
theorem d153_9 : decode Y153.2.1 9 = .ok (.getfield 47, 3) := by decide +kernel
theorem d153_12 : decode Y153.2.1 12 = .ok (.getfield 223, 3) := by decide +kernel
theorem d153_15 : decode Y153.2.1 15 = .ok (.ireturn, 1) := by decide +kernel
theorem d153_16 : decode Y153.2.1 16 = .ok (.aload_n 0, 1) := by decide +kernel
theorem d153_17 : decode Y153.2.1 17 = .ok (.aload_n 1, 1) := by decide +kernel
theorem d153_18 : decode Y153.2.1 18 = .ok (.invokevirtual 417, 3) := by decide +kernel
theorem d153_21 : decode Y153.2.1 21 = .ok (.istore_n 2, 1) := by decide +kernel
theorem d153_22 : decode Y153.2.1 22 = .ok (.aload_n 1, 1) := by decide +kernel
theorem d153_23 : decode Y153.2.1 23 = .ok (.getfield 269, 3) := by decide +kernel
theorem d153_26 : decode Y153.2.1 26 = .ok (.ifCond .ne 11, 3) := by decide +kernel
theorem d153_29 : decode Y153.2.1 29 = .ok (.iload_n 2, 1) := by decide +kernel
theorem d153_30 : decode Y153.2.1 30 = .ok (.aload_n 1, 1) := by decide +kernel
theorem d153_31 : decode Y153.2.1 31 = .ok (.getfield 296, 3) := by decide +kernel
theorem d153_34 : decode Y153.2.1 34 = .ok (.if_icmp .le 6, 3) := by decide +kernel
theorem d153_37 : decode Y153.2.1 37 = .ok (.ldc 126, 2) := by decide +kernel
theorem d153_39 : decode Y153.2.1 39 = .ok (.ireturn, 1) := by decide +kernel
theorem d153_40 : decode Y153.2.1 40 = .ok (.aload_n 0, 1) := by decide +kernel
theorem d153_41 : decode Y153.2.1 41 = .ok (.getfield 47, 3) := by decide +kernel
theorem d153_44 : decode Y153.2.1 44 = .ok (.getfield 223, 3) := by decide +kernel
theorem d153_47 : decode Y153.2.1 47 = .ok (.iload_n 2, 1) := by decide +kernel
theorem d153_48 : decode Y153.2.1 48 = .ok (.invokestatic 420, 3) := by decide +kernel
theorem d153_51 : decode Y153.2.1 51 = .ok (.ireturn, 1) := by decide +kernel
theorem E153 (d : Nat) (a0 : Nat) (a1 : Nat) (h0 : ts_sh a0 = (0, 11)) (h1 : ts_sh a1 = (0, 4)) (m : lt_m) : lt_ev (d + 1) 153 [.inr (.inr (some a0)), .inr (.inr (some a1))] m = if ¬ (m.1 a1 7) = (1 : Int32) then (lt_cI (lt_ev d 142 [.inr (.inr (some a0)), .inr (.inr (some a1))] m) (fun v1 m1 => (if ¬ (m1.1 a1 7) = 0 then (some (some (.inl (1000000 : Int32)), m1)) else (if v1 ≤ (m1.1 a1 6) then (some (some (.inl (lm_max (m1.1 (a0 + 13) 4) v1)), m1)) else (some (some (.inl (1000000 : Int32)), m1)))))) else (some (some (.inl (m.1 (a0 + 13) 4)), m)) := by
  refine Eq.trans (lt_enter2 (ls := [some (.inr (.inr (some a0))), some (.inr (.inr (some a1))), none]) hY153 (Nat.le_of_ble_eq_true rfl) (by rfl)) ?_
  refine Eq.trans (li_aload_n d153_0 (by rfl)) ?_
  refine Eq.trans (li_geti d153_1 fa_11_269 h1 rfl) ?_
  refine Eq.trans (li_iconst d153_4 ic_1) ?_
  refine Eq.trans (li_icmp_ne (t := 16) d153_5 (by rfl)) ?_
  refine lt_ite (fun c1 => ?_) (fun c1 => ?_)
  · refine Eq.trans (li_aload_n d153_16 (by rfl)) ?_
    refine Eq.trans (li_aload_n d153_17 (by rfl)) ?_
    refine Eq.trans (li_ivI d153_18 ca_11_417 kd_142 kl_142 (by rfl) (by rfl) h0 (Nat.le_of_ble_eq_true rfl) (Nat.le_of_ble_eq_true rfl)) ?_
    refine lt_cI_c (fun v1 m1 => ?_)
    refine Eq.trans (li_istore_n (ls' := [some (.inr (.inr (some a0))), some (.inr (.inr (some a1))), some (.inl v1)]) d153_21 (by decide) (by rfl)) ?_
    refine Eq.trans (li_aload_n d153_22 (by rfl)) ?_
    refine Eq.trans (li_geti d153_23 fa_11_269 h1 rfl) ?_
    refine Eq.trans (li_if_ne (t := 37) d153_26 (by rfl)) ?_
    refine lt_ite (fun c2 => ?_) (fun c2 => ?_)
    · refine Eq.trans (li_ldc d153_37 cI_11_126) ?_
      exact li_iret d153_39 rfl
    · refine Eq.trans (li_iload_n d153_29 (by rfl)) ?_
      refine Eq.trans (li_aload_n d153_30 (by rfl)) ?_
      refine Eq.trans (li_geti d153_31 fa_11_296 h1 rfl) ?_
      refine Eq.trans (li_icmp_le (t := 40) d153_34 (by rfl)) ?_
      refine lt_ite (fun c3 => ?_) (fun c3 => ?_)
      · refine Eq.trans (li_aload_n d153_40 (by rfl)) ?_
        refine Eq.trans (li_getr d153_41 fa_11_47 h0 rfl rfl rfl (by decide)) ?_
        refine Eq.trans (li_geti d153_44 fa_11_223 (sf_of h0 5 (by decide) (by decide)) rfl) ?_
        refine Eq.trans (li_iload_n d153_47 (by rfl)) ?_
        refine Eq.trans (li_max d153_48 bi_11_420 (Nat.le_of_ble_eq_true rfl)) ?_
        exact li_iret d153_51 rfl
      · refine Eq.trans (li_ldc d153_37 cI_11_126) ?_
        exact li_iret d153_39 rfl
  · refine Eq.trans (li_aload_n d153_8 (by rfl)) ?_
    refine Eq.trans (li_getr d153_9 fa_11_47 h0 rfl rfl rfl (by decide)) ?_
    refine Eq.trans (li_geti d153_12 fa_11_223 (sf_of h0 5 (by decide) (by decide)) rfl) ?_
    exact li_iret d153_15 rfl
/-! TransitSeals.freedUntil(II)I -/
theorem d154_0 : decode Y154.2.1 0 = .ok (.iconst 0, 1) := by decide +kernel
theorem d154_1 : decode Y154.2.1 1 = .ok (.istore_n 3, 1) := by decide +kernel
theorem d154_2 : decode Y154.2.1 2 = .ok (.aload_n 0, 1) := by decide +kernel
theorem d154_3 : decode Y154.2.1 3 = .ok (.getfield 47, 3) := by decide +kernel
theorem d154_6 : decode Y154.2.1 6 = .ok (.getfield 315, 3) := by decide +kernel
theorem d154_9 : decode Y154.2.1 9 = .ok (.astore 4, 2) := by decide +kernel
theorem d154_11 : decode Y154.2.1 11 = .ok (.aload 4, 2) := by decide +kernel
theorem d154_13 : decode Y154.2.1 13 = .ok (.arraylength, 1) := by decide +kernel
theorem d154_14 : decode Y154.2.1 14 = .ok (.istore 5, 2) := by decide +kernel
theorem d154_16 : decode Y154.2.1 16 = .ok (.iconst 0, 1) := by decide +kernel
theorem d154_17 : decode Y154.2.1 17 = .ok (.istore 6, 2) := by decide +kernel
theorem d154_19 : decode Y154.2.1 19 = .ok (.iload 6, 2) := by decide +kernel
theorem d154_21 : decode Y154.2.1 21 = .ok (.iload 5, 2) := by decide +kernel
theorem d154_23 : decode Y154.2.1 23 = .ok (.if_icmp .ge 43, 3) := by decide +kernel
theorem d154_26 : decode Y154.2.1 26 = .ok (.aload 4, 2) := by decide +kernel
theorem d154_28 : decode Y154.2.1 28 = .ok (.iload 6, 2) := by decide +kernel
theorem d154_30 : decode Y154.2.1 30 = .ok (.aaload, 1) := by decide +kernel
theorem d154_31 : decode Y154.2.1 31 = .ok (.astore 7, 2) := by decide +kernel
theorem d154_33 : decode Y154.2.1 33 = .ok (.aload 7, 2) := by decide +kernel
theorem d154_35 : decode Y154.2.1 35 = .ok (.iload_n 1, 1) := by decide +kernel
theorem d154_36 : decode Y154.2.1 36 = .ok (.invokevirtual 329, 3) := by decide +kernel
theorem d154_39 : decode Y154.2.1 39 = .ok (.ifCond .eq 21, 3) := by decide +kernel
theorem d154_42 : decode Y154.2.1 42 = .ok (.aload_n 0, 1) := by decide +kernel
theorem d154_43 : decode Y154.2.1 43 = .ok (.aload 7, 2) := by decide +kernel
theorem d154_45 : decode Y154.2.1 45 = .ok (.invokevirtual 350, 3) := by decide +kernel
theorem d154_48 : decode Y154.2.1 48 = .ok (.iload_n 2, 1) := by decide +kernel
theorem d154_49 : decode Y154.2.1 49 = .ok (.if_icmp .gt 11, 3) := by decide +kernel
theorem d154_52 : decode Y154.2.1 52 = .ok (.iload_n 3, 1) := by decide +kernel
theorem d154_53 : decode Y154.2.1 53 = .ok (.aload 7, 2) := by decide +kernel
theorem d154_55 : decode Y154.2.1 55 = .ok (.getfield 294, 3) := by decide +kernel
theorem d154_58 : decode Y154.2.1 58 = .ok (.iadd, 1) := by decide +kernel
theorem d154_59 : decode Y154.2.1 59 = .ok (.istore_n 3, 1) := by decide +kernel
theorem d154_60 : decode Y154.2.1 60 = .ok (.iinc 6 1, 3) := by decide +kernel
theorem d154_63 : decode Y154.2.1 63 = .ok (.goto (-44), 3) := by decide +kernel
theorem d154_66 : decode Y154.2.1 66 = .ok (.iload_n 3, 1) := by decide +kernel
theorem d154_67 : decode Y154.2.1 67 = .ok (.ireturn, 1) := by decide +kernel
noncomputable def L154_19 (d : Nat) (a0 : Nat) (x1 : Int32) (x2 : Int32) (x3 : Int32) (x6 : Int32) (o7 : Option ts_V) (m : lt_m) : Option lt_r := lt_run d Y154 19 [some (.inr (.inr (some a0))), some (.inl x1), some (.inl x2), some (.inl x3), some (.inr (.inr (some ((a0 + 13) + 3)))), some (.inl (20 : Int32)), some (.inl x6), o7] [] m
theorem E154 (d : Nat) (a0 : Nat) (x1 : Int32) (x2 : Int32) (h0 : ts_sh a0 = (0, 11)) (m : lt_m) : lt_ev (d + 1) 154 [.inr (.inr (some a0)), .inl x1, .inl x2] m = L154_19 d a0 x1 x2 (0 : Int32) (0 : Int32) none m := by
  refine Eq.trans (lt_enter2 (ls := [some (.inr (.inr (some a0))), some (.inl x1), some (.inl x2), none, none, none, none, none]) hY154 (Nat.le_of_ble_eq_true rfl) (by rfl)) ?_
  refine Eq.trans (li_iconst d154_0 ic_0) ?_
  refine Eq.trans (li_istore_n (ls' := [some (.inr (.inr (some a0))), some (.inl x1), some (.inl x2), some (.inl (0 : Int32)), none, none, none, none]) d154_1 (by decide) (by rfl)) ?_
  refine Eq.trans (li_aload_n d154_2 (by rfl)) ?_
  refine Eq.trans (li_getr d154_3 fa_11_47 h0 rfl rfl rfl (by decide)) ?_
  refine Eq.trans (li_getr d154_6 fa_11_315 (sf_of h0 5 (by decide) (by decide)) rfl rfl rfl (by decide)) ?_
  refine Eq.trans (li_astore (ls' := [some (.inr (.inr (some a0))), some (.inl x1), some (.inl x2), some (.inl (0 : Int32)), some (.inr (.inr (some ((a0 + 13) + 3)))), none, none, none]) d154_9 (by decide) (by rfl)) ?_
  refine Eq.trans (li_aload d154_11 (by rfl)) ?_
  refine Eq.trans (li_alen d154_13 (sf_of (sf_of h0 5 (by decide) (by decide)) 2 (by decide) (by decide)) (by decide) (by rfl)) ?_
  refine Eq.trans (li_istore (ls' := [some (.inr (.inr (some a0))), some (.inl x1), some (.inl x2), some (.inl (0 : Int32)), some (.inr (.inr (some ((a0 + 13) + 3)))), some (.inl (20 : Int32)), none, none]) d154_14 (by decide) (by rfl)) ?_
  refine Eq.trans (li_iconst d154_16 ic_0) ?_
  refine Eq.trans (li_istore (ls' := [some (.inr (.inr (some a0))), some (.inl x1), some (.inl x2), some (.inl (0 : Int32)), some (.inr (.inr (some ((a0 + 13) + 3)))), some (.inl (20 : Int32)), some (.inl (0 : Int32)), none]) d154_17 (by decide) (by rfl)) ?_
  rfl
theorem E154_19 (d : Nat) (a0 : Nat) (x1 : Int32) (x2 : Int32) (x3 : Int32) (x6 : Int32) (o7 : Option ts_V) (h0 : ts_sh a0 = (0, 11)) (m : lt_m) : L154_19 d a0 x1 x2 x3 x6 o7 m = if (20 : Int32) ≤ x6 then (some (some (.inl x3), m)) else (lt_gd (0 ≤ x6 ∧ (x6).toNatClampNeg < 20) (lt_cI (lt_ev d 92 [.inr (.inr (some (((a0 + 13) + 3) + 5 + 3 * (x6).toNatClampNeg))), .inl x1] m) (fun v1 m1 => (if v1 = 0 then (L154_19 d a0 x1 x2 x3 (x6 + (1 : Int32)) (some (.inr (.inr (some (((a0 + 13) + 3) + 5 + 3 * (x6).toNatClampNeg))))) m1) else (lt_cI (lt_ev d 153 [.inr (.inr (some a0)), .inr (.inr (some (((a0 + 13) + 3) + 5 + 3 * (x6).toNatClampNeg)))] m1) (fun v2 m2 => (if x2 < v2 then (L154_19 d a0 x1 x2 x3 (x6 + (1 : Int32)) (some (.inr (.inr (some (((a0 + 13) + 3) + 5 + 3 * (x6).toNatClampNeg))))) m2) else (L154_19 d a0 x1 x2 (x3 + (m2.1 (((a0 + 13) + 3) + 5 + 3 * (x6).toNatClampNeg) 5)) (x6 + (1 : Int32)) (some (.inr (.inr (some (((a0 + 13) + 3) + 5 + 3 * (x6).toNatClampNeg))))) m2)))))))) := by
  show lt_run d Y154 19 [some (.inr (.inr (some a0))), some (.inl x1), some (.inl x2), some (.inl x3), some (.inr (.inr (some ((a0 + 13) + 3)))), some (.inl (20 : Int32)), some (.inl x6), o7] [] m = _
  refine Eq.trans (li_iload d154_19 (by rfl)) ?_
  refine Eq.trans (li_iload d154_21 (by rfl)) ?_
  refine Eq.trans (li_icmp_ge (t := 66) d154_23 (by rfl)) ?_
  refine lt_ite (fun c1 => ?_) (fun c1 => ?_)
  · refine Eq.trans (li_iload_n d154_66 (by rfl)) ?_
    exact li_iret d154_67 rfl
  · refine Eq.trans (li_aload d154_26 (by rfl)) ?_
    refine Eq.trans (li_iload d154_28 (by rfl)) ?_
    refine Eq.trans (li_aald4 d154_30 (sf_of (sf_of h0 5 (by decide) (by decide)) 2 (by decide) (by decide))) ?_
    refine lt_gd_c (fun g1 => ?_)
    refine Eq.trans (li_astore (ls' := [some (.inr (.inr (some a0))), some (.inl x1), some (.inl x2), some (.inl x3), some (.inr (.inr (some ((a0 + 13) + 3)))), some (.inl (20 : Int32)), some (.inl x6), some (.inr (.inr (some (((a0 + 13) + 3) + 5 + 3 * (x6).toNatClampNeg))))]) d154_31 (by decide) (by rfl)) ?_
    refine Eq.trans (li_aload d154_33 (by rfl)) ?_
    refine Eq.trans (li_iload_n d154_35 (by rfl)) ?_
    refine Eq.trans (li_ivI d154_36 ca_11_329 kd_92 kl_92 (by rfl) (by rfl) (sm_4 (sf_of (sf_of h0 5 (by decide) (by decide)) 2 (by decide) (by decide)) g1.2) (Nat.le_of_ble_eq_true rfl) (Nat.le_of_ble_eq_true rfl)) ?_
    refine lt_cI_c (fun v1 m1 => ?_)
    refine Eq.trans (li_if_eq (t := 60) d154_39 (by rfl)) ?_
    refine lt_ite (fun c2 => ?_) (fun c2 => ?_)
    · refine Eq.trans (li_iinc (ls' := [some (.inr (.inr (some a0))), some (.inl x1), some (.inl x2), some (.inl x3), some (.inr (.inr (some ((a0 + 13) + 3)))), some (.inl (20 : Int32)), some (.inl (x6 + (1 : Int32))), some (.inr (.inr (some (((a0 + 13) + 3) + 5 + 3 * (x6).toNatClampNeg))))]) d154_60 (by rfl) (by decide) ic_1 (by rfl)) ?_
      refine Eq.trans (li_goto (t := 19) d154_63 (by rfl)) ?_
      rfl
    · refine Eq.trans (li_aload_n d154_42 (by rfl)) ?_
      refine Eq.trans (li_aload d154_43 (by rfl)) ?_
      refine Eq.trans (li_ivI d154_45 ca_11_350 kd_153 kl_153 (by rfl) (by rfl) h0 (Nat.le_of_ble_eq_true rfl) (Nat.le_of_ble_eq_true rfl)) ?_
      refine lt_cI_c (fun v2 m2 => ?_)
      refine Eq.trans (li_iload_n d154_48 (by rfl)) ?_
      refine Eq.trans (li_icmp_gt (t := 60) d154_49 (by rfl)) ?_
      refine lt_ite (fun c3 => ?_) (fun c3 => ?_)
      · refine Eq.trans (li_iinc (ls' := [some (.inr (.inr (some a0))), some (.inl x1), some (.inl x2), some (.inl x3), some (.inr (.inr (some ((a0 + 13) + 3)))), some (.inl (20 : Int32)), some (.inl (x6 + (1 : Int32))), some (.inr (.inr (some (((a0 + 13) + 3) + 5 + 3 * (x6).toNatClampNeg))))]) d154_60 (by rfl) (by decide) ic_1 (by rfl)) ?_
        refine Eq.trans (li_goto (t := 19) d154_63 (by rfl)) ?_
        rfl
      · refine Eq.trans (li_iload_n d154_52 (by rfl)) ?_
        refine Eq.trans (li_aload d154_53 (by rfl)) ?_
        refine Eq.trans (li_geti d154_55 fa_11_294 (sm_4 (sf_of (sf_of h0 5 (by decide) (by decide)) 2 (by decide) (by decide)) g1.2) rfl) ?_
        refine Eq.trans (li_iadd d154_58) ?_
        refine Eq.trans (li_istore_n (ls' := [some (.inr (.inr (some a0))), some (.inl x1), some (.inl x2), some (.inl (x3 + (m2.1 (((a0 + 13) + 3) + 5 + 3 * (x6).toNatClampNeg) 5))), some (.inr (.inr (some ((a0 + 13) + 3)))), some (.inl (20 : Int32)), some (.inl x6), some (.inr (.inr (some (((a0 + 13) + 3) + 5 + 3 * (x6).toNatClampNeg))))]) d154_59 (by decide) (by rfl)) ?_
        refine Eq.trans (li_iinc (ls' := [some (.inr (.inr (some a0))), some (.inl x1), some (.inl x2), some (.inl (x3 + (m2.1 (((a0 + 13) + 3) + 5 + 3 * (x6).toNatClampNeg) 5))), some (.inr (.inr (some ((a0 + 13) + 3)))), some (.inl (20 : Int32)), some (.inl (x6 + (1 : Int32))), some (.inr (.inr (some (((a0 + 13) + 3) + 5 + 3 * (x6).toNatClampNeg))))]) d154_60 (by rfl) (by decide) ic_1 (by rfl)) ?_
        refine Eq.trans (li_goto (t := 19) d154_63 (by rfl)) ?_
        rfl
/-! TransitSeals.fits(I)I -/
theorem d155_0 : decode Y155.2.1 0 = .ok (.aload_n 0, 1) := by decide +kernel
theorem d155_1 : decode Y155.2.1 1 = .ok (.getfield 33, 3) := by decide +kernel
theorem d155_4 : decode Y155.2.1 4 = .ok (.aload_n 0, 1) := by decide +kernel
theorem d155_5 : decode Y155.2.1 5 = .ok (.getfield 10, 3) := by decide +kernel
theorem d155_8 : decode Y155.2.1 8 = .ok (.aload_n 0, 1) := by decide +kernel
theorem d155_9 : decode Y155.2.1 9 = .ok (.getfield 61, 3) := by decide +kernel
theorem d155_12 : decode Y155.2.1 12 = .ok (.invokevirtual 356, 3) := by decide +kernel
theorem d155_15 : decode Y155.2.1 15 = .ok (.aload_n 0, 1) := by decide +kernel
theorem d155_16 : decode Y155.2.1 16 = .ok (.getfield 10, 3) := by decide +kernel
theorem d155_19 : decode Y155.2.1 19 = .ok (.invokevirtual 89, 3) := by decide +kernel
theorem d155_22 : decode Y155.2.1 22 = .ok (.ifCond .eq 11, 3) := by decide +kernel
theorem d155_25 : decode Y155.2.1 25 = .ok (.aload_n 0, 1) := by decide +kernel
theorem d155_26 : decode Y155.2.1 26 = .ok (.getfield 10, 3) := by decide +kernel
theorem d155_29 : decode Y155.2.1 29 = .ok (.invokevirtual 93, 3) := by decide +kernel
theorem d155_32 : decode Y155.2.1 32 = .ok (.ireturn, 1) := by decide +kernel
theorem d155_33 : decode Y155.2.1 33 = .ok (.aload_n 0, 1) := by decide +kernel
theorem d155_34 : decode Y155.2.1 34 = .ok (.getfield 47, 3) := by decide +kernel
theorem d155_37 : decode Y155.2.1 37 = .ok (.iload_n 1, 1) := by decide +kernel
theorem d155_38 : decode Y155.2.1 38 = .ok (.invokevirtual 175, 3) := by decide +kernel
theorem d155_41 : decode Y155.2.1 41 = .ok (.ifCond .ne 5, 3) := by decide +kernel
theorem d155_44 : decode Y155.2.1 44 = .ok (.iconst (-1), 1) := by decide +kernel
theorem d155_45 : decode Y155.2.1 45 = .ok (.ireturn, 1) := by decide +kernel
theorem d155_46 : decode Y155.2.1 46 = .ok (.aload_n 0, 1) := by decide +kernel
theorem d155_47 : decode Y155.2.1 47 = .ok (.getfield 33, 3) := by decide +kernel
theorem d155_50 : decode Y155.2.1 50 = .ok (.aload_n 0, 1) := by decide +kernel
theorem d155_51 : decode Y155.2.1 51 = .ok (.getfield 61, 3) := by decide +kernel
theorem d155_54 : decode Y155.2.1 54 = .ok (.aload_n 0, 1) := by decide +kernel
theorem d155_55 : decode Y155.2.1 55 = .ok (.getfield 47, 3) := by decide +kernel
theorem d155_58 : decode Y155.2.1 58 = .ok (.iload_n 1, 1) := by decide +kernel
theorem d155_59 : decode Y155.2.1 59 = .ok (.invokevirtual 188, 3) := by decide +kernel
theorem d155_62 : decode Y155.2.1 62 = .ok (.aload_n 0, 1) := by decide +kernel
theorem d155_63 : decode Y155.2.1 63 = .ok (.getfield 47, 3) := by decide +kernel
theorem d155_66 : decode Y155.2.1 66 = .ok (.iload_n 1, 1) := by decide +kernel
theorem d155_67 : decode Y155.2.1 67 = .ok (.invokevirtual 191, 3) := by decide +kernel
theorem d155_70 : decode Y155.2.1 70 = .ok (.invokevirtual 357, 3) := by decide +kernel
theorem d155_73 : decode Y155.2.1 73 = .ok (.aload_n 0, 1) := by decide +kernel
theorem d155_74 : decode Y155.2.1 74 = .ok (.aload_n 0, 1) := by decide +kernel
theorem d155_75 : decode Y155.2.1 75 = .ok (.getfield 33, 3) := by decide +kernel
theorem d155_78 : decode Y155.2.1 78 = .ok (.getfield 360, 3) := by decide +kernel
theorem d155_81 : decode Y155.2.1 81 = .ok (.aload_n 0, 1) := by decide +kernel
theorem d155_82 : decode Y155.2.1 82 = .ok (.getfield 33, 3) := by decide +kernel
theorem d155_85 : decode Y155.2.1 85 = .ok (.getfield 363, 3) := by decide +kernel
theorem d155_88 : decode Y155.2.1 88 = .ok (.invokevirtual 144, 3) := by decide +kernel
theorem d155_91 : decode Y155.2.1 91 = .ok (.aload_n 0, 1) := by decide +kernel
theorem d155_92 : decode Y155.2.1 92 = .ok (.getfield 33, 3) := by decide +kernel
theorem d155_95 : decode Y155.2.1 95 = .ok (.getfield 366, 3) := by decide +kernel
theorem d155_98 : decode Y155.2.1 98 = .ok (.ireturn, 1) := by decide +kernel
theorem E155 (d : Nat) (a0 : Nat) (x1 : Int32) (h0 : ts_sh a0 = (0, 11)) (m : lt_m) : lt_ev (d + 1) 155 [.inr (.inr (some a0)), .inl x1] m = lt_cV (lt_ev d 156 [.inr (.inr (some (a0 + 8))), .inr (.inr (some (a0 + 1))), .inr (.inr (some (m.2.2.1)))] m) (fun m1 => (lt_cI (lt_ev d 38 [.inr (.inr (some (a0 + 1)))] m1) (fun v1 m2 => (if v1 = 0 then (lt_cI (lt_ev d 90 [.inr (.inr (some (a0 + 13))), .inl x1] m2) (fun v2 m3 => (if ¬ v2 = 0 then (lt_cI (lt_ev d 95 [.inr (.inr (some (a0 + 13))), .inl x1] m3) (fun v3 m4 => (lt_cI (lt_ev d 96 [.inr (.inr (some (a0 + 13))), .inl x1] m4) (fun v4 m5 => (lt_cV (lt_ev d 157 [.inr (.inr (some (a0 + 8))), .inr (.inr (some (m3.2.2.1))), .inl v3, .inl v4] m5) (fun m6 => (lt_cV (lt_ev d 74 [.inr (.inr (some a0)), .inl (m6.1 (a0 + 8) 5), .inl (m6.1 (a0 + 8) 6)] m6) (fun m7 => (some (some (.inl (m7.1 (a0 + 8) 4)), m7)))))))))) else (some (some (.inl (-1 : Int32)), m3))))) else (lt_cI (lt_ev d 52 [.inr (.inr (some (a0 + 1)))] m2) (fun v5 m8 => (some (some (.inl v5), m8)))))))) := by
  refine Eq.trans (lt_enter2 (ls := [some (.inr (.inr (some a0))), some (.inl x1)]) hY155 (Nat.le_of_ble_eq_true rfl) (by rfl)) ?_
  refine Eq.trans (li_aload_n d155_0 (by rfl)) ?_
  refine Eq.trans (li_getr d155_1 fa_11_33 h0 rfl rfl rfl (by decide)) ?_
  refine Eq.trans (li_aload_n d155_4 (by rfl)) ?_
  refine Eq.trans (li_getr d155_5 fa_11_10 h0 rfl rfl rfl (by decide)) ?_
  refine Eq.trans (li_aload_n d155_8 (by rfl)) ?_
  refine Eq.trans (li_getnet d155_9 fa_11_61 h0) ?_
  refine Eq.trans (li_ivV d155_12 ca_11_356 kd_156 kl_156 (by rfl) (by rfl) (sf_of h0 3 (by decide) (by decide)) (Nat.le_of_ble_eq_true rfl) (Nat.le_of_ble_eq_true rfl)) ?_
  refine lt_cV_c (fun m1 => ?_)
  refine Eq.trans (li_aload_n d155_15 (by rfl)) ?_
  refine Eq.trans (li_getr d155_16 fa_11_10 h0 rfl rfl rfl (by decide)) ?_
  refine Eq.trans (li_ivI d155_19 ca_11_89 kd_38 kl_38 (by rfl) (by rfl) (sf_of h0 0 (by decide) (by decide)) (Nat.le_of_ble_eq_true rfl) (Nat.le_of_ble_eq_true rfl)) ?_
  refine lt_cI_c (fun v1 m2 => ?_)
  refine Eq.trans (li_if_eq (t := 33) d155_22 (by rfl)) ?_
  refine lt_ite (fun c1 => ?_) (fun c1 => ?_)
  · refine Eq.trans (li_aload_n d155_33 (by rfl)) ?_
    refine Eq.trans (li_getr d155_34 fa_11_47 h0 rfl rfl rfl (by decide)) ?_
    refine Eq.trans (li_iload_n d155_37 (by rfl)) ?_
    refine Eq.trans (li_ivI d155_38 ca_11_175 kd_90 kl_90 (by rfl) (by rfl) (sf_of h0 5 (by decide) (by decide)) (Nat.le_of_ble_eq_true rfl) (Nat.le_of_ble_eq_true rfl)) ?_
    refine lt_cI_c (fun v2 m3 => ?_)
    refine Eq.trans (li_if_ne (t := 46) d155_41 (by rfl)) ?_
    refine lt_ite (fun c2 => ?_) (fun c2 => ?_)
    · refine Eq.trans (li_aload_n d155_46 (by rfl)) ?_
      refine Eq.trans (li_getr d155_47 fa_11_33 h0 rfl rfl rfl (by decide)) ?_
      refine Eq.trans (li_aload_n d155_50 (by rfl)) ?_
      refine Eq.trans (li_getnet d155_51 fa_11_61 h0) ?_
      refine Eq.trans (li_aload_n d155_54 (by rfl)) ?_
      refine Eq.trans (li_getr d155_55 fa_11_47 h0 rfl rfl rfl (by decide)) ?_
      refine Eq.trans (li_iload_n d155_58 (by rfl)) ?_
      refine Eq.trans (li_ivI d155_59 ca_11_188 kd_95 kl_95 (by rfl) (by rfl) (sf_of h0 5 (by decide) (by decide)) (Nat.le_of_ble_eq_true rfl) (Nat.le_of_ble_eq_true rfl)) ?_
      refine lt_cI_c (fun v3 m4 => ?_)
      refine Eq.trans (li_aload_n d155_62 (by rfl)) ?_
      refine Eq.trans (li_getr d155_63 fa_11_47 h0 rfl rfl rfl (by decide)) ?_
      refine Eq.trans (li_iload_n d155_66 (by rfl)) ?_
      refine Eq.trans (li_ivI d155_67 ca_11_191 kd_96 kl_96 (by rfl) (by rfl) (sf_of h0 5 (by decide) (by decide)) (Nat.le_of_ble_eq_true rfl) (Nat.le_of_ble_eq_true rfl)) ?_
      refine lt_cI_c (fun v4 m5 => ?_)
      refine Eq.trans (li_ivV d155_70 ca_11_357 kd_157 kl_157 (by rfl) (by rfl) (sf_of h0 3 (by decide) (by decide)) (Nat.le_of_ble_eq_true rfl) (Nat.le_of_ble_eq_true rfl)) ?_
      refine lt_cV_c (fun m6 => ?_)
      refine Eq.trans (li_aload_n d155_73 (by rfl)) ?_
      refine Eq.trans (li_aload_n d155_74 (by rfl)) ?_
      refine Eq.trans (li_getr d155_75 fa_11_33 h0 rfl rfl rfl (by decide)) ?_
      refine Eq.trans (li_geti d155_78 fa_11_360 (sf_of h0 3 (by decide) (by decide)) rfl) ?_
      refine Eq.trans (li_aload_n d155_81 (by rfl)) ?_
      refine Eq.trans (li_getr d155_82 fa_11_33 h0 rfl rfl rfl (by decide)) ?_
      refine Eq.trans (li_geti d155_85 fa_11_363 (sf_of h0 3 (by decide) (by decide)) rfl) ?_
      refine Eq.trans (li_ivV d155_88 ca_11_144 kd_74 kl_74 (by rfl) (by rfl) h0 (Nat.le_of_ble_eq_true rfl) (Nat.le_of_ble_eq_true rfl)) ?_
      refine lt_cV_c (fun m7 => ?_)
      refine Eq.trans (li_aload_n d155_91 (by rfl)) ?_
      refine Eq.trans (li_getr d155_92 fa_11_33 h0 rfl rfl rfl (by decide)) ?_
      refine Eq.trans (li_geti d155_95 fa_11_366 (sf_of h0 3 (by decide) (by decide)) rfl) ?_
      exact li_iret d155_98 rfl
    · refine Eq.trans (li_iconst d155_44 ic_n1) ?_
      exact li_iret d155_45 rfl
  · refine Eq.trans (li_aload_n d155_25 (by rfl)) ?_
    refine Eq.trans (li_getr d155_26 fa_11_10 h0 rfl rfl rfl (by decide)) ?_
    refine Eq.trans (li_ivI d155_29 ca_11_93 kd_52 kl_52 (by rfl) (by rfl) (sf_of h0 0 (by decide) (by decide)) (Nat.le_of_ble_eq_true rfl) (Nat.le_of_ble_eq_true rfl)) ?_
    refine lt_cI_c (fun v5 m8 => ?_)
    exact li_iret d155_32 rfl
/-! TransitSeals$Loads.readFrom(LTransitSeals$Reader;LTransitSeals$Net;)V -/
theorem d156_0 : decode Y156.2.1 0 = .ok (.aload_n 1, 1) := by decide +kernel
theorem d156_1 : decode Y156.2.1 1 = .ok (.invokevirtual 21, 3) := by decide +kernel
theorem d156_4 : decode Y156.2.1 4 = .ok (.aload_n 0, 1) := by decide +kernel
theorem d156_5 : decode Y156.2.1 5 = .ok (.iconst 0, 1) := by decide +kernel
theorem d156_6 : decode Y156.2.1 6 = .ok (.putfield 26, 3) := by decide +kernel
theorem d156_9 : decode Y156.2.1 9 = .ok (.aload_n 1, 1) := by decide +kernel
theorem d156_10 : decode Y156.2.1 10 = .ok (.invokevirtual 30, 3) := by decide +kernel
theorem d156_13 : decode Y156.2.1 13 = .ok (.ifCond .ne 7, 3) := by decide +kernel
theorem d156_16 : decode Y156.2.1 16 = .ok (.iconst 1, 1) := by decide +kernel
theorem d156_17 : decode Y156.2.1 17 = .ok (.goto 4, 3) := by decide +kernel
theorem d156_20 : decode Y156.2.1 20 = .ok (.iconst 0, 1) := by decide +kernel
theorem d156_21 : decode Y156.2.1 21 = .ok (.istore_n 3, 1) := by decide +kernel
theorem d156_22 : decode Y156.2.1 22 = .ok (.iload_n 3, 1) := by decide +kernel
theorem d156_23 : decode Y156.2.1 23 = .ok (.ifCond .eq 96, 3) := by decide +kernel
theorem d156_26 : decode Y156.2.1 26 = .ok (.aload_n 0, 1) := by decide +kernel
theorem d156_27 : decode Y156.2.1 27 = .ok (.getfield 26, 3) := by decide +kernel
theorem d156_30 : decode Y156.2.1 30 = .ok (.bipush 8, 2) := by decide +kernel
theorem d156_32 : decode Y156.2.1 32 = .ok (.if_icmp .ge 87, 3) := by decide +kernel
theorem d156_35 : decode Y156.2.1 35 = .ok (.aload_n 0, 1) := by decide +kernel
theorem d156_36 : decode Y156.2.1 36 = .ok (.getfield 9, 3) := by decide +kernel
theorem d156_39 : decode Y156.2.1 39 = .ok (.aload_n 0, 1) := by decide +kernel
theorem d156_40 : decode Y156.2.1 40 = .ok (.getfield 26, 3) := by decide +kernel
theorem d156_43 : decode Y156.2.1 43 = .ok (.aload_n 1, 1) := by decide +kernel
theorem d156_44 : decode Y156.2.1 44 = .ok (.iconst 0, 1) := by decide +kernel
theorem d156_45 : decode Y156.2.1 45 = .ok (.aload_n 2, 1) := by decide +kernel
theorem d156_46 : decode Y156.2.1 46 = .ok (.getfield 34, 3) := by decide +kernel
theorem d156_49 : decode Y156.2.1 49 = .ok (.iconst 1, 1) := by decide +kernel
theorem d156_50 : decode Y156.2.1 50 = .ok (.isub, 1) := by decide +kernel
theorem d156_51 : decode Y156.2.1 51 = .ok (.invokevirtual 38, 3) := by decide +kernel
theorem d156_54 : decode Y156.2.1 54 = .ok (.invokestatic 42, 3) := by decide +kernel
theorem d156_57 : decode Y156.2.1 57 = .ok (.aload_n 1, 1) := by decide +kernel
theorem d156_58 : decode Y156.2.1 58 = .ok (.bipush 58, 2) := by decide +kernel
theorem d156_60 : decode Y156.2.1 60 = .ok (.invokevirtual 46, 3) := by decide +kernel
theorem d156_63 : decode Y156.2.1 63 = .ok (.aload_n 0, 1) := by decide +kernel
theorem d156_64 : decode Y156.2.1 64 = .ok (.getfield 15, 3) := by decide +kernel
theorem d156_67 : decode Y156.2.1 67 = .ok (.aload_n 0, 1) := by decide +kernel
theorem d156_68 : decode Y156.2.1 68 = .ok (.getfield 26, 3) := by decide +kernel
theorem d156_71 : decode Y156.2.1 71 = .ok (.aload_n 1, 1) := by decide +kernel
theorem d156_72 : decode Y156.2.1 72 = .ok (.iconst 1, 1) := by decide +kernel
theorem d156_73 : decode Y156.2.1 73 = .ok (.sipush 999, 3) := by decide +kernel
theorem d156_76 : decode Y156.2.1 76 = .ok (.invokevirtual 38, 3) := by decide +kernel
theorem d156_79 : decode Y156.2.1 79 = .ok (.invokestatic 42, 3) := by decide +kernel
theorem d156_82 : decode Y156.2.1 82 = .ok (.aload_n 0, 1) := by decide +kernel
theorem d156_83 : decode Y156.2.1 83 = .ok (.dup, 1) := by decide +kernel
theorem d156_84 : decode Y156.2.1 84 = .ok (.getfield 26, 3) := by decide +kernel
theorem d156_87 : decode Y156.2.1 87 = .ok (.iconst 1, 1) := by decide +kernel
theorem d156_88 : decode Y156.2.1 88 = .ok (.iadd, 1) := by decide +kernel
theorem d156_89 : decode Y156.2.1 89 = .ok (.putfield 26, 3) := by decide +kernel
theorem d156_92 : decode Y156.2.1 92 = .ok (.aload_n 0, 1) := by decide +kernel
theorem d156_93 : decode Y156.2.1 93 = .ok (.getfield 26, 3) := by decide +kernel
theorem d156_96 : decode Y156.2.1 96 = .ok (.bipush 8, 2) := by decide +kernel
theorem d156_98 : decode Y156.2.1 98 = .ok (.if_icmp .ge 16, 3) := by decide +kernel
theorem d156_101 : decode Y156.2.1 101 = .ok (.aload_n 1, 1) := by decide +kernel
theorem d156_102 : decode Y156.2.1 102 = .ok (.bipush 44, 2) := by decide +kernel
theorem d156_104 : decode Y156.2.1 104 = .ok (.invokevirtual 50, 3) := by decide +kernel
theorem d156_107 : decode Y156.2.1 107 = .ok (.ifCond .eq 7, 3) := by decide +kernel
theorem d156_110 : decode Y156.2.1 110 = .ok (.iconst 1, 1) := by decide +kernel
theorem d156_111 : decode Y156.2.1 111 = .ok (.goto 4, 3) := by decide +kernel
theorem d156_114 : decode Y156.2.1 114 = .ok (.iconst 0, 1) := by decide +kernel
theorem d156_115 : decode Y156.2.1 115 = .ok (.istore_n 3, 1) := by decide +kernel
theorem d156_116 : decode Y156.2.1 116 = .ok (.goto (-94), 3) := by decide +kernel
theorem d156_119 : decode Y156.2.1 119 = .ok (.aload_n 1, 1) := by decide +kernel
theorem d156_120 : decode Y156.2.1 120 = .ok (.invokevirtual 54, 3) := by decide +kernel
theorem d156_123 : decode Y156.2.1 123 = .ok (.return_, 1) := by decide +kernel
noncomputable def L156_22 (d : Nat) (a0 : Nat) (a1 : Nat) (a2 : Nat) (x3 : Int32) (m : lt_m) : Option lt_r := lt_run d Y156 22 [some (.inr (.inr (some a0))), some (.inr (.inr (some a1))), some (.inr (.inr (some a2))), some (.inl x3)] [] m
theorem E156 (d : Nat) (a0 : Nat) (a1 : Nat) (a2 : Nat) (h0 : ts_sh a0 = (0, 3)) (h1 : ts_sh a1 = (0, 6)) (h2 : ts_sh a2 = (0, 5)) (m : lt_m) : lt_ev (d + 1) 156 [.inr (.inr (some a0)), .inr (.inr (some a1)), .inr (.inr (some a2))] m = lt_cV (lt_ev d 31 [.inr (.inr (some a1))] m) (fun m1 => (lt_cI (lt_ev d 45 [.inr (.inr (some a1))] (lm_i m1 a0 3 (0 : Int32))) (fun v1 m2 => (if ¬ v1 = 0 then (L156_22 d a0 a1 a2 (0 : Int32) m2) else (L156_22 d a0 a1 a2 (1 : Int32) m2))))) := by
  refine Eq.trans (lt_enter2 (ls := [some (.inr (.inr (some a0))), some (.inr (.inr (some a1))), some (.inr (.inr (some a2))), none]) hY156 (Nat.le_of_ble_eq_true rfl) (by rfl)) ?_
  refine Eq.trans (li_aload_n d156_0 (by rfl)) ?_
  refine Eq.trans (li_ivV d156_1 ca_3_21 kd_31 kl_31 (by rfl) (by rfl) h1 (Nat.le_of_ble_eq_true rfl) (Nat.le_of_ble_eq_true rfl)) ?_
  refine lt_cV_c (fun m1 => ?_)
  refine Eq.trans (li_aload_n d156_4 (by rfl)) ?_
  refine Eq.trans (li_iconst d156_5 ic_0) ?_
  refine Eq.trans (li_puti d156_6 fa_3_26 h0 rfl rfl) ?_
  refine Eq.trans (li_aload_n d156_9 (by rfl)) ?_
  refine Eq.trans (li_ivI d156_10 ca_3_30 kd_45 kl_45 (by rfl) (by rfl) h1 (Nat.le_of_ble_eq_true rfl) (Nat.le_of_ble_eq_true rfl)) ?_
  refine lt_cI_c (fun v1 m2 => ?_)
  refine Eq.trans (li_if_ne (t := 20) d156_13 (by rfl)) ?_
  refine lt_ite (fun c1 => ?_) (fun c1 => ?_)
  · refine Eq.trans (li_iconst d156_20 ic_0) ?_
    refine Eq.trans (li_istore_n (ls' := [some (.inr (.inr (some a0))), some (.inr (.inr (some a1))), some (.inr (.inr (some a2))), some (.inl (0 : Int32))]) d156_21 (by decide) (by rfl)) ?_
    rfl
  · refine Eq.trans (li_iconst d156_16 ic_1) ?_
    refine Eq.trans (li_goto (t := 21) d156_17 (by rfl)) ?_
    refine Eq.trans (li_istore_n (ls' := [some (.inr (.inr (some a0))), some (.inr (.inr (some a1))), some (.inr (.inr (some a2))), some (.inl (1 : Int32))]) d156_21 (by decide) (by rfl)) ?_
    rfl
theorem E156_22 (d : Nat) (a0 : Nat) (a1 : Nat) (a2 : Nat) (x3 : Int32) (h0 : ts_sh a0 = (0, 3)) (h1 : ts_sh a1 = (0, 6)) (h2 : ts_sh a2 = (0, 5)) (m : lt_m) : L156_22 d a0 a1 a2 x3 m = if x3 = 0 then (lt_cV (lt_ev d 51 [.inr (.inr (some a1))] m) (fun m1 => (some (none, m1)))) else (if (8 : Int32) ≤ (m.1 a0 3) then (lt_cV (lt_ev d 51 [.inr (.inr (some a1))] m) (fun m2 => (some (none, m2)))) else (lt_cI (lt_ev d 37 [.inr (.inr (some a1)), .inl (0 : Int32), .inl ((m.1 a2 8) - (1 : Int32))] m) (fun v1 m3 => (lt_cV (lt_ev d 17 [.inr (.inr (some (a0 + 1))), .inl (m.1 a0 3), .inl v1] m3) (fun m4 => (lt_cV (lt_ev d 42 [.inr (.inr (some a1)), .inl (58 : Int32)] m4) (fun m5 => (lt_cI (lt_ev d 37 [.inr (.inr (some a1)), .inl (1 : Int32), .inl (999 : Int32)] m5) (fun v2 m6 => (lt_cV (lt_ev d 17 [.inr (.inr (some (a0 + 2))), .inl (m5.1 a0 3), .inl v2] m6) (fun m7 => (if (8 : Int32) ≤ ((lm_i m7 a0 3 ((m7.1 a0 3) + (1 : Int32))).1 a0 3) then (L156_22 d a0 a1 a2 (0 : Int32) (lm_i m7 a0 3 ((m7.1 a0 3) + (1 : Int32)))) else (lt_cI (lt_ev d 43 [.inr (.inr (some a1)), .inl (44 : Int32)] (lm_i m7 a0 3 ((m7.1 a0 3) + (1 : Int32)))) (fun v3 m8 => (if v3 = 0 then (L156_22 d a0 a1 a2 (0 : Int32) m8) else (L156_22 d a0 a1 a2 (1 : Int32) m8)))))))))))))))) := by
  show lt_run d Y156 22 [some (.inr (.inr (some a0))), some (.inr (.inr (some a1))), some (.inr (.inr (some a2))), some (.inl x3)] [] m = _
  refine Eq.trans (li_iload_n d156_22 (by rfl)) ?_
  refine Eq.trans (li_if_eq (t := 119) d156_23 (by rfl)) ?_
  refine lt_ite (fun c1 => ?_) (fun c1 => ?_)
  · refine Eq.trans (li_aload_n d156_119 (by rfl)) ?_
    refine Eq.trans (li_ivV d156_120 ca_3_54 kd_51 kl_51 (by rfl) (by rfl) h1 (Nat.le_of_ble_eq_true rfl) (Nat.le_of_ble_eq_true rfl)) ?_
    refine lt_cV_c (fun m1 => ?_)
    exact li_vret d156_123 rfl
  · refine Eq.trans (li_aload_n d156_26 (by rfl)) ?_
    refine Eq.trans (li_geti d156_27 fa_3_26 h0 rfl) ?_
    refine Eq.trans (li_bipush d156_30 bi_8) ?_
    refine Eq.trans (li_icmp_ge (t := 119) d156_32 (by rfl)) ?_
    refine lt_ite (fun c2 => ?_) (fun c2 => ?_)
    · refine Eq.trans (li_aload_n d156_119 (by rfl)) ?_
      refine Eq.trans (li_ivV d156_120 ca_3_54 kd_51 kl_51 (by rfl) (by rfl) h1 (Nat.le_of_ble_eq_true rfl) (Nat.le_of_ble_eq_true rfl)) ?_
      refine lt_cV_c (fun m2 => ?_)
      exact li_vret d156_123 rfl
    · refine Eq.trans (li_aload_n d156_35 (by rfl)) ?_
      refine Eq.trans (li_getr d156_36 fa_3_9 h0 rfl rfl rfl (by decide)) ?_
      refine Eq.trans (li_aload_n d156_39 (by rfl)) ?_
      refine Eq.trans (li_geti d156_40 fa_3_26 h0 rfl) ?_
      refine Eq.trans (li_aload_n d156_43 (by rfl)) ?_
      refine Eq.trans (li_iconst d156_44 ic_0) ?_
      refine Eq.trans (li_aload_n d156_45 (by rfl)) ?_
      refine Eq.trans (li_geti d156_46 fa_3_34 h2 rfl) ?_
      refine Eq.trans (li_iconst d156_49 ic_1) ?_
      refine Eq.trans (li_isub d156_50) ?_
      refine Eq.trans (li_ivI d156_51 ca_3_38 kd_37 kl_37 (by rfl) (by rfl) h1 (Nat.le_of_ble_eq_true rfl) (Nat.le_of_ble_eq_true rfl)) ?_
      refine lt_cI_c (fun v1 m3 => ?_)
      refine Eq.trans (li_isV d156_54 bi_3_42 ca_3_42 kd_17 (by rfl) (by rfl) (Nat.le_of_ble_eq_true rfl) (Nat.le_of_ble_eq_true rfl)) ?_
      refine lt_cV_c (fun m4 => ?_)
      refine Eq.trans (li_aload_n d156_57 (by rfl)) ?_
      refine Eq.trans (li_bipush d156_58 bi_58) ?_
      refine Eq.trans (li_ivV d156_60 ca_3_46 kd_42 kl_42 (by rfl) (by rfl) h1 (Nat.le_of_ble_eq_true rfl) (Nat.le_of_ble_eq_true rfl)) ?_
      refine lt_cV_c (fun m5 => ?_)
      refine Eq.trans (li_aload_n d156_63 (by rfl)) ?_
      refine Eq.trans (li_getr d156_64 fa_3_15 h0 rfl rfl rfl (by decide)) ?_
      refine Eq.trans (li_aload_n d156_67 (by rfl)) ?_
      refine Eq.trans (li_geti d156_68 fa_3_26 h0 rfl) ?_
      refine Eq.trans (li_aload_n d156_71 (by rfl)) ?_
      refine Eq.trans (li_iconst d156_72 ic_1) ?_
      refine Eq.trans (li_sipush d156_73 si_999) ?_
      refine Eq.trans (li_ivI d156_76 ca_3_38 kd_37 kl_37 (by rfl) (by rfl) h1 (Nat.le_of_ble_eq_true rfl) (Nat.le_of_ble_eq_true rfl)) ?_
      refine lt_cI_c (fun v2 m6 => ?_)
      refine Eq.trans (li_isV d156_79 bi_3_42 ca_3_42 kd_17 (by rfl) (by rfl) (Nat.le_of_ble_eq_true rfl) (Nat.le_of_ble_eq_true rfl)) ?_
      refine lt_cV_c (fun m7 => ?_)
      refine Eq.trans (li_aload_n d156_82 (by rfl)) ?_
      refine Eq.trans (li_dup d156_83 rfl) ?_
      refine Eq.trans (li_geti d156_84 fa_3_26 h0 rfl) ?_
      refine Eq.trans (li_iconst d156_87 ic_1) ?_
      refine Eq.trans (li_iadd d156_88) ?_
      refine Eq.trans (li_puti d156_89 fa_3_26 h0 rfl rfl) ?_
      refine Eq.trans (li_aload_n d156_92 (by rfl)) ?_
      refine Eq.trans (li_geti d156_93 fa_3_26 h0 rfl) ?_
      refine Eq.trans (li_bipush d156_96 bi_8) ?_
      refine Eq.trans (li_icmp_ge (t := 114) d156_98 (by rfl)) ?_
      refine lt_ite (fun c3 => ?_) (fun c3 => ?_)
      · refine Eq.trans (li_iconst d156_114 ic_0) ?_
        refine Eq.trans (li_istore_n (ls' := [some (.inr (.inr (some a0))), some (.inr (.inr (some a1))), some (.inr (.inr (some a2))), some (.inl (0 : Int32))]) d156_115 (by decide) (by rfl)) ?_
        refine Eq.trans (li_goto (t := 22) d156_116 (by rfl)) ?_
        rfl
      · refine Eq.trans (li_aload_n d156_101 (by rfl)) ?_
        refine Eq.trans (li_bipush d156_102 bi_44) ?_
        refine Eq.trans (li_ivI d156_104 ca_3_50 kd_43 kl_43 (by rfl) (by rfl) h1 (Nat.le_of_ble_eq_true rfl) (Nat.le_of_ble_eq_true rfl)) ?_
        refine lt_cI_c (fun v3 m8 => ?_)
        refine Eq.trans (li_if_eq (t := 114) d156_107 (by rfl)) ?_
        refine lt_ite (fun c4 => ?_) (fun c4 => ?_)
        · refine Eq.trans (li_iconst d156_114 ic_0) ?_
          refine Eq.trans (li_istore_n (ls' := [some (.inr (.inr (some a0))), some (.inr (.inr (some a1))), some (.inr (.inr (some a2))), some (.inl (0 : Int32))]) d156_115 (by decide) (by rfl)) ?_
          refine Eq.trans (li_goto (t := 22) d156_116 (by rfl)) ?_
          rfl
        · refine Eq.trans (li_iconst d156_110 ic_1) ?_
          refine Eq.trans (li_goto (t := 115) d156_111 (by rfl)) ?_
          refine Eq.trans (li_istore_n (ls' := [some (.inr (.inr (some a0))), some (.inr (.inr (some a1))), some (.inr (.inr (some a2))), some (.inl (1 : Int32))]) d156_115 (by decide) (by rfl)) ?_
          refine Eq.trans (li_goto (t := 22) d156_116 (by rfl)) ?_
          rfl
/-! TransitSeals$Loads.choose(LTransitSeals$Net;II)V -/
theorem d157_0 : decode Y157.2.1 0 = .ok (.iconst 0, 1) := by decide +kernel
theorem d157_1 : decode Y157.2.1 1 = .ok (.istore 4, 2) := by decide +kernel
theorem d157_3 : decode Y157.2.1 3 = .ok (.iload 4, 2) := by decide +kernel
theorem d157_5 : decode Y157.2.1 5 = .ok (.aload_n 0, 1) := by decide +kernel
theorem d157_6 : decode Y157.2.1 6 = .ok (.getfield 26, 3) := by decide +kernel
theorem d157_9 : decode Y157.2.1 9 = .ok (.if_icmp .ge 45, 3) := by decide +kernel
theorem d157_12 : decode Y157.2.1 12 = .ok (.aload_n 0, 1) := by decide +kernel
theorem d157_13 : decode Y157.2.1 13 = .ok (.getfield 18, 3) := by decide +kernel
theorem d157_16 : decode Y157.2.1 16 = .ok (.iload 4, 2) := by decide +kernel
theorem d157_18 : decode Y157.2.1 18 = .ok (.aload_n 0, 1) := by decide +kernel
theorem d157_19 : decode Y157.2.1 19 = .ok (.getfield 15, 3) := by decide +kernel
theorem d157_22 : decode Y157.2.1 22 = .ok (.iload 4, 2) := by decide +kernel
theorem d157_24 : decode Y157.2.1 24 = .ok (.invokestatic 57, 3) := by decide +kernel
theorem d157_27 : decode Y157.2.1 27 = .ok (.aload_n 1, 1) := by decide +kernel
theorem d157_28 : decode Y157.2.1 28 = .ok (.aload_n 0, 1) := by decide +kernel
theorem d157_29 : decode Y157.2.1 29 = .ok (.getfield 9, 3) := by decide +kernel
theorem d157_32 : decode Y157.2.1 32 = .ok (.iload 4, 2) := by decide +kernel
theorem d157_34 : decode Y157.2.1 34 = .ok (.invokestatic 57, 3) := by decide +kernel
theorem d157_37 : decode Y157.2.1 37 = .ok (.invokevirtual 61, 3) := by decide +kernel
theorem d157_40 : decode Y157.2.1 40 = .ok (.imul, 1) := by decide +kernel
theorem d157_41 : decode Y157.2.1 41 = .ok (.iload_n 2, 1) := by decide +kernel
theorem d157_42 : decode Y157.2.1 42 = .ok (.invokestatic 65, 3) := by decide +kernel
theorem d157_45 : decode Y157.2.1 45 = .ok (.invokestatic 42, 3) := by decide +kernel
theorem d157_48 : decode Y157.2.1 48 = .ok (.iinc 4 1, 3) := by decide +kernel
theorem d157_51 : decode Y157.2.1 51 = .ok (.goto (-48), 3) := by decide +kernel
theorem d157_54 : decode Y157.2.1 54 = .ok (.aload_n 0, 1) := by decide +kernel
theorem d157_55 : decode Y157.2.1 55 = .ok (.iconst 0, 1) := by decide +kernel
theorem d157_56 : decode Y157.2.1 56 = .ok (.putfield 68, 3) := by decide +kernel
theorem d157_59 : decode Y157.2.1 59 = .ok (.aload_n 0, 1) := by decide +kernel
theorem d157_60 : decode Y157.2.1 60 = .ok (.iconst 0, 1) := by decide +kernel
theorem d157_61 : decode Y157.2.1 61 = .ok (.putfield 71, 3) := by decide +kernel
theorem d157_64 : decode Y157.2.1 64 = .ok (.aload_n 0, 1) := by decide +kernel
theorem d157_65 : decode Y157.2.1 65 = .ok (.iconst 0, 1) := by decide +kernel
theorem d157_66 : decode Y157.2.1 66 = .ok (.putfield 74, 3) := by decide +kernel
theorem d157_69 : decode Y157.2.1 69 = .ok (.iconst 1, 1) := by decide +kernel
theorem d157_70 : decode Y157.2.1 70 = .ok (.istore 4, 2) := by decide +kernel
theorem d157_72 : decode Y157.2.1 72 = .ok (.iload 4, 2) := by decide +kernel
theorem d157_74 : decode Y157.2.1 74 = .ok (.iconst 1, 1) := by decide +kernel
theorem d157_75 : decode Y157.2.1 75 = .ok (.aload_n 0, 1) := by decide +kernel
theorem d157_76 : decode Y157.2.1 76 = .ok (.getfield 26, 3) := by decide +kernel
theorem d157_79 : decode Y157.2.1 79 = .ok (.ishl, 1) := by decide +kernel
theorem d157_80 : decode Y157.2.1 80 = .ok (.if_icmp .ge 68, 3) := by decide +kernel
theorem d157_83 : decode Y157.2.1 83 = .ok (.aload_n 0, 1) := by decide +kernel
theorem d157_84 : decode Y157.2.1 84 = .ok (.aload_n 0, 1) := by decide +kernel
theorem d157_85 : decode Y157.2.1 85 = .ok (.getfield 15, 3) := by decide +kernel
theorem d157_88 : decode Y157.2.1 88 = .ok (.iload 4, 2) := by decide +kernel
theorem d157_90 : decode Y157.2.1 90 = .ok (.invokevirtual 77, 3) := by decide +kernel
theorem d157_93 : decode Y157.2.1 93 = .ok (.istore 5, 2) := by decide +kernel
theorem d157_95 : decode Y157.2.1 95 = .ok (.aload_n 0, 1) := by decide +kernel
theorem d157_96 : decode Y157.2.1 96 = .ok (.aload_n 0, 1) := by decide +kernel
theorem d157_97 : decode Y157.2.1 97 = .ok (.getfield 18, 3) := by decide +kernel
theorem d157_100 : decode Y157.2.1 100 = .ok (.iload 4, 2) := by decide +kernel
theorem d157_102 : decode Y157.2.1 102 = .ok (.invokevirtual 77, 3) := by decide +kernel
theorem d157_105 : decode Y157.2.1 105 = .ok (.istore 6, 2) := by decide +kernel
theorem d157_107 : decode Y157.2.1 107 = .ok (.iload 6, 2) := by decide +kernel
theorem d157_109 : decode Y157.2.1 109 = .ok (.iload_n 3, 1) := by decide +kernel
theorem d157_110 : decode Y157.2.1 110 = .ok (.if_icmp .gt 32, 3) := by decide +kernel
theorem d157_113 : decode Y157.2.1 113 = .ok (.aload_n 0, 1) := by decide +kernel
theorem d157_114 : decode Y157.2.1 114 = .ok (.iload 5, 2) := by decide +kernel
theorem d157_116 : decode Y157.2.1 116 = .ok (.iload 6, 2) := by decide +kernel
theorem d157_118 : decode Y157.2.1 118 = .ok (.invokevirtual 80, 3) := by decide +kernel
theorem d157_121 : decode Y157.2.1 121 = .ok (.ifCond .eq 21, 3) := by decide +kernel
theorem d157_124 : decode Y157.2.1 124 = .ok (.aload_n 0, 1) := by decide +kernel
theorem d157_125 : decode Y157.2.1 125 = .ok (.iload 4, 2) := by decide +kernel
theorem d157_127 : decode Y157.2.1 127 = .ok (.putfield 68, 3) := by decide +kernel
theorem d157_130 : decode Y157.2.1 130 = .ok (.aload_n 0, 1) := by decide +kernel
theorem d157_131 : decode Y157.2.1 131 = .ok (.iload 5, 2) := by decide +kernel
theorem d157_133 : decode Y157.2.1 133 = .ok (.putfield 71, 3) := by decide +kernel
theorem d157_136 : decode Y157.2.1 136 = .ok (.aload_n 0, 1) := by decide +kernel
theorem d157_137 : decode Y157.2.1 137 = .ok (.iload 6, 2) := by decide +kernel
theorem d157_139 : decode Y157.2.1 139 = .ok (.putfield 74, 3) := by decide +kernel
theorem d157_142 : decode Y157.2.1 142 = .ok (.iinc 4 1, 3) := by decide +kernel
theorem d157_145 : decode Y157.2.1 145 = .ok (.goto (-73), 3) := by decide +kernel
theorem d157_148 : decode Y157.2.1 148 = .ok (.return_, 1) := by decide +kernel
noncomputable def L157_3 (d : Nat) (a0 : Nat) (a1 : Nat) (x2 : Int32) (x3 : Int32) (x4 : Int32) (m : lt_m) : Option lt_r := lt_run d Y157 3 [some (.inr (.inr (some a0))), some (.inr (.inr (some a1))), some (.inl x2), some (.inl x3), some (.inl x4), none, none] [] m
noncomputable def L157_72 (d : Nat) (a0 : Nat) (a1 : Nat) (x2 : Int32) (x3 : Int32) (x4 : Int32) (o5 : Option ts_V) (o6 : Option ts_V) (m : lt_m) : Option lt_r := lt_run d Y157 72 [some (.inr (.inr (some a0))), some (.inr (.inr (some a1))), some (.inl x2), some (.inl x3), some (.inl x4), o5, o6] [] m
theorem E157 (d : Nat) (a0 : Nat) (a1 : Nat) (x2 : Int32) (x3 : Int32) (h0 : ts_sh a0 = (0, 3)) (h1 : ts_sh a1 = (0, 5)) (m : lt_m) : lt_ev (d + 1) 157 [.inr (.inr (some a0)), .inr (.inr (some a1)), .inl x2, .inl x3] m = L157_3 d a0 a1 x2 x3 (0 : Int32) m := by
  refine Eq.trans (lt_enter2 (ls := [some (.inr (.inr (some a0))), some (.inr (.inr (some a1))), some (.inl x2), some (.inl x3), none, none, none]) hY157 (Nat.le_of_ble_eq_true rfl) (by rfl)) ?_
  refine Eq.trans (li_iconst d157_0 ic_0) ?_
  refine Eq.trans (li_istore (ls' := [some (.inr (.inr (some a0))), some (.inr (.inr (some a1))), some (.inl x2), some (.inl x3), some (.inl (0 : Int32)), none, none]) d157_1 (by decide) (by rfl)) ?_
  rfl
theorem E157_3 (d : Nat) (a0 : Nat) (a1 : Nat) (x2 : Int32) (x3 : Int32) (x4 : Int32) (h0 : ts_sh a0 = (0, 3)) (h1 : ts_sh a1 = (0, 5)) (m : lt_m) : L157_3 d a0 a1 x2 x3 x4 m = if (m.1 a0 3) ≤ x4 then (L157_72 d a0 a1 x2 x3 (1 : Int32) none none (lm_i (lm_i (lm_i m a0 4 (0 : Int32)) a0 5 (0 : Int32)) a0 6 (0 : Int32))) else (lt_cI (lt_ev d 16 [.inr (.inr (some (a0 + 2))), .inl x4] m) (fun v1 m1 => (lt_cI (lt_ev d 16 [.inr (.inr (some (a0 + 1))), .inl x4] m1) (fun v2 m2 => (lt_cI (lt_ev d 25 [.inr (.inr (some a1)), .inl v2] m2) (fun v3 m3 => (lt_cI (lt_ev d 106 [.inl (v1 * v3), .inl x2] m3) (fun v4 m4 => (lt_cV (lt_ev d 17 [.inr (.inr (some (a0 + 3))), .inl x4, .inl v4] m4) (fun m5 => (L157_3 d a0 a1 x2 x3 (x4 + (1 : Int32)) m5))))))))))) := by
  show lt_run d Y157 3 [some (.inr (.inr (some a0))), some (.inr (.inr (some a1))), some (.inl x2), some (.inl x3), some (.inl x4), none, none] [] m = _
  refine Eq.trans (li_iload d157_3 (by rfl)) ?_
  refine Eq.trans (li_aload_n d157_5 (by rfl)) ?_
  refine Eq.trans (li_geti d157_6 fa_3_26 h0 rfl) ?_
  refine Eq.trans (li_icmp_ge (t := 54) d157_9 (by rfl)) ?_
  refine lt_ite (fun c1 => ?_) (fun c1 => ?_)
  · refine Eq.trans (li_aload_n d157_54 (by rfl)) ?_
    refine Eq.trans (li_iconst d157_55 ic_0) ?_
    refine Eq.trans (li_puti d157_56 fa_3_68 h0 rfl rfl) ?_
    refine Eq.trans (li_aload_n d157_59 (by rfl)) ?_
    refine Eq.trans (li_iconst d157_60 ic_0) ?_
    refine Eq.trans (li_puti d157_61 fa_3_71 h0 rfl rfl) ?_
    refine Eq.trans (li_aload_n d157_64 (by rfl)) ?_
    refine Eq.trans (li_iconst d157_65 ic_0) ?_
    refine Eq.trans (li_puti d157_66 fa_3_74 h0 rfl rfl) ?_
    refine Eq.trans (li_iconst d157_69 ic_1) ?_
    refine Eq.trans (li_istore (ls' := [some (.inr (.inr (some a0))), some (.inr (.inr (some a1))), some (.inl x2), some (.inl x3), some (.inl (1 : Int32)), none, none]) d157_70 (by decide) (by rfl)) ?_
    rfl
  · refine Eq.trans (li_aload_n d157_12 (by rfl)) ?_
    refine Eq.trans (li_getr d157_13 fa_3_18 h0 rfl rfl rfl (by decide)) ?_
    refine Eq.trans (li_iload d157_16 (by rfl)) ?_
    refine Eq.trans (li_aload_n d157_18 (by rfl)) ?_
    refine Eq.trans (li_getr d157_19 fa_3_15 h0 rfl rfl rfl (by decide)) ?_
    refine Eq.trans (li_iload d157_22 (by rfl)) ?_
    refine Eq.trans (li_isI d157_24 bi_3_57 ca_3_57 kd_16 (by rfl) (by rfl) (Nat.le_of_ble_eq_true rfl) (Nat.le_of_ble_eq_true rfl)) ?_
    refine lt_cI_c (fun v1 m1 => ?_)
    refine Eq.trans (li_aload_n d157_27 (by rfl)) ?_
    refine Eq.trans (li_aload_n d157_28 (by rfl)) ?_
    refine Eq.trans (li_getr d157_29 fa_3_9 h0 rfl rfl rfl (by decide)) ?_
    refine Eq.trans (li_iload d157_32 (by rfl)) ?_
    refine Eq.trans (li_isI d157_34 bi_3_57 ca_3_57 kd_16 (by rfl) (by rfl) (Nat.le_of_ble_eq_true rfl) (Nat.le_of_ble_eq_true rfl)) ?_
    refine lt_cI_c (fun v2 m2 => ?_)
    refine Eq.trans (li_ivI d157_37 ca_3_61 kd_25 kl_25 (by rfl) (by rfl) h1 (Nat.le_of_ble_eq_true rfl) (Nat.le_of_ble_eq_true rfl)) ?_
    refine lt_cI_c (fun v3 m3 => ?_)
    refine Eq.trans (li_imul d157_40) ?_
    refine Eq.trans (li_iload_n d157_41 (by rfl)) ?_
    refine Eq.trans (li_isI d157_42 bi_3_65 ca_3_65 kd_106 (by rfl) (by rfl) (Nat.le_of_ble_eq_true rfl) (Nat.le_of_ble_eq_true rfl)) ?_
    refine lt_cI_c (fun v4 m4 => ?_)
    refine Eq.trans (li_isV d157_45 bi_3_42 ca_3_42 kd_17 (by rfl) (by rfl) (Nat.le_of_ble_eq_true rfl) (Nat.le_of_ble_eq_true rfl)) ?_
    refine lt_cV_c (fun m5 => ?_)
    refine Eq.trans (li_iinc (ls' := [some (.inr (.inr (some a0))), some (.inr (.inr (some a1))), some (.inl x2), some (.inl x3), some (.inl (x4 + (1 : Int32))), none, none]) d157_48 (by rfl) (by decide) ic_1 (by rfl)) ?_
    refine Eq.trans (li_goto (t := 3) d157_51 (by rfl)) ?_
    rfl
theorem E157_72 (d : Nat) (a0 : Nat) (a1 : Nat) (x2 : Int32) (x3 : Int32) (x4 : Int32) (o5 : Option ts_V) (o6 : Option ts_V) (h0 : ts_sh a0 = (0, 3)) (m : lt_m) : L157_72 d a0 a1 x2 x3 x4 o5 o6 m = if ((1 : Int32) <<< ((m.1 a0 3) &&& 31)) ≤ x4 then (some (none, m)) else (lt_cI (lt_ev d 158 [.inr (.inr (some a0)), .inr (.inr (some (a0 + 2))), .inl x4] m) (fun v1 m1 => (lt_cI (lt_ev d 158 [.inr (.inr (some a0)), .inr (.inr (some (a0 + 3))), .inl x4] m1) (fun v2 m2 => (if x3 < v2 then (L157_72 d a0 a1 x2 x3 (x4 + (1 : Int32)) (some (.inl v1)) (some (.inl v2)) m2) else (lt_cI (lt_ev d 159 [.inr (.inr (some a0)), .inl v1, .inl v2] m2) (fun v3 m3 => (if v3 = 0 then (L157_72 d a0 a1 x2 x3 (x4 + (1 : Int32)) (some (.inl v1)) (some (.inl v2)) m3) else (L157_72 d a0 a1 x2 x3 (x4 + (1 : Int32)) (some (.inl v1)) (some (.inl v2)) (lm_i (lm_i (lm_i m3 a0 4 x4) a0 5 v1) a0 6 v2)))))))))) := by
  show lt_run d Y157 72 [some (.inr (.inr (some a0))), some (.inr (.inr (some a1))), some (.inl x2), some (.inl x3), some (.inl x4), o5, o6] [] m = _
  refine Eq.trans (li_iload d157_72 (by rfl)) ?_
  refine Eq.trans (li_iconst d157_74 ic_1) ?_
  refine Eq.trans (li_aload_n d157_75 (by rfl)) ?_
  refine Eq.trans (li_geti d157_76 fa_3_26 h0 rfl) ?_
  refine Eq.trans (li_ishl d157_79) ?_
  refine Eq.trans (li_icmp_ge (t := 148) d157_80 (by rfl)) ?_
  refine lt_ite (fun c1 => ?_) (fun c1 => ?_)
  · exact li_vret d157_148 rfl
  · refine Eq.trans (li_aload_n d157_83 (by rfl)) ?_
    refine Eq.trans (li_aload_n d157_84 (by rfl)) ?_
    refine Eq.trans (li_getr d157_85 fa_3_15 h0 rfl rfl rfl (by decide)) ?_
    refine Eq.trans (li_iload d157_88 (by rfl)) ?_
    refine Eq.trans (li_ivI d157_90 ca_3_77 kd_158 kl_158 (by rfl) (by rfl) h0 (Nat.le_of_ble_eq_true rfl) (Nat.le_of_ble_eq_true rfl)) ?_
    refine lt_cI_c (fun v1 m1 => ?_)
    refine Eq.trans (li_istore (ls' := [some (.inr (.inr (some a0))), some (.inr (.inr (some a1))), some (.inl x2), some (.inl x3), some (.inl x4), some (.inl v1), o6]) d157_93 (by decide) (by rfl)) ?_
    refine Eq.trans (li_aload_n d157_95 (by rfl)) ?_
    refine Eq.trans (li_aload_n d157_96 (by rfl)) ?_
    refine Eq.trans (li_getr d157_97 fa_3_18 h0 rfl rfl rfl (by decide)) ?_
    refine Eq.trans (li_iload d157_100 (by rfl)) ?_
    refine Eq.trans (li_ivI d157_102 ca_3_77 kd_158 kl_158 (by rfl) (by rfl) h0 (Nat.le_of_ble_eq_true rfl) (Nat.le_of_ble_eq_true rfl)) ?_
    refine lt_cI_c (fun v2 m2 => ?_)
    refine Eq.trans (li_istore (ls' := [some (.inr (.inr (some a0))), some (.inr (.inr (some a1))), some (.inl x2), some (.inl x3), some (.inl x4), some (.inl v1), some (.inl v2)]) d157_105 (by decide) (by rfl)) ?_
    refine Eq.trans (li_iload d157_107 (by rfl)) ?_
    refine Eq.trans (li_iload_n d157_109 (by rfl)) ?_
    refine Eq.trans (li_icmp_gt (t := 142) d157_110 (by rfl)) ?_
    refine lt_ite (fun c2 => ?_) (fun c2 => ?_)
    · refine Eq.trans (li_iinc (ls' := [some (.inr (.inr (some a0))), some (.inr (.inr (some a1))), some (.inl x2), some (.inl x3), some (.inl (x4 + (1 : Int32))), some (.inl v1), some (.inl v2)]) d157_142 (by rfl) (by decide) ic_1 (by rfl)) ?_
      refine Eq.trans (li_goto (t := 72) d157_145 (by rfl)) ?_
      rfl
    · refine Eq.trans (li_aload_n d157_113 (by rfl)) ?_
      refine Eq.trans (li_iload d157_114 (by rfl)) ?_
      refine Eq.trans (li_iload d157_116 (by rfl)) ?_
      refine Eq.trans (li_ivI d157_118 ca_3_80 kd_159 kl_159 (by rfl) (by rfl) h0 (Nat.le_of_ble_eq_true rfl) (Nat.le_of_ble_eq_true rfl)) ?_
      refine lt_cI_c (fun v3 m3 => ?_)
      refine Eq.trans (li_if_eq (t := 142) d157_121 (by rfl)) ?_
      refine lt_ite (fun c3 => ?_) (fun c3 => ?_)
      · refine Eq.trans (li_iinc (ls' := [some (.inr (.inr (some a0))), some (.inr (.inr (some a1))), some (.inl x2), some (.inl x3), some (.inl (x4 + (1 : Int32))), some (.inl v1), some (.inl v2)]) d157_142 (by rfl) (by decide) ic_1 (by rfl)) ?_
        refine Eq.trans (li_goto (t := 72) d157_145 (by rfl)) ?_
        rfl
      · refine Eq.trans (li_aload_n d157_124 (by rfl)) ?_
        refine Eq.trans (li_iload d157_125 (by rfl)) ?_
        refine Eq.trans (li_puti d157_127 fa_3_68 h0 rfl rfl) ?_
        refine Eq.trans (li_aload_n d157_130 (by rfl)) ?_
        refine Eq.trans (li_iload d157_131 (by rfl)) ?_
        refine Eq.trans (li_puti d157_133 fa_3_71 h0 rfl rfl) ?_
        refine Eq.trans (li_aload_n d157_136 (by rfl)) ?_
        refine Eq.trans (li_iload d157_137 (by rfl)) ?_
        refine Eq.trans (li_puti d157_139 fa_3_74 h0 rfl rfl) ?_
        refine Eq.trans (li_iinc (ls' := [some (.inr (.inr (some a0))), some (.inr (.inr (some a1))), some (.inl x2), some (.inl x3), some (.inl (x4 + (1 : Int32))), some (.inl v1), some (.inl v2)]) d157_142 (by rfl) (by decide) ic_1 (by rfl)) ?_
        refine Eq.trans (li_goto (t := 72) d157_145 (by rfl)) ?_
        rfl
/-! TransitSeals$Loads.together([II)I -/
theorem d158_0 : decode Y158.2.1 0 = .ok (.iconst 0, 1) := by decide +kernel
theorem d158_1 : decode Y158.2.1 1 = .ok (.istore_n 3, 1) := by decide +kernel
theorem d158_2 : decode Y158.2.1 2 = .ok (.iconst 0, 1) := by decide +kernel
theorem d158_3 : decode Y158.2.1 3 = .ok (.istore 4, 2) := by decide +kernel
theorem d158_5 : decode Y158.2.1 5 = .ok (.iload 4, 2) := by decide +kernel
theorem d158_7 : decode Y158.2.1 7 = .ok (.aload_n 0, 1) := by decide +kernel
theorem d158_8 : decode Y158.2.1 8 = .ok (.getfield 26, 3) := by decide +kernel
theorem d158_11 : decode Y158.2.1 11 = .ok (.if_icmp .ge 27, 3) := by decide +kernel
theorem d158_14 : decode Y158.2.1 14 = .ok (.iload_n 2, 1) := by decide +kernel
theorem d158_15 : decode Y158.2.1 15 = .ok (.iload 4, 2) := by decide +kernel
theorem d158_17 : decode Y158.2.1 17 = .ok (.ishr, 1) := by decide +kernel
theorem d158_18 : decode Y158.2.1 18 = .ok (.iconst 1, 1) := by decide +kernel
theorem d158_19 : decode Y158.2.1 19 = .ok (.iand, 1) := by decide +kernel
theorem d158_20 : decode Y158.2.1 20 = .ok (.ifCond .eq 12, 3) := by decide +kernel
theorem d158_23 : decode Y158.2.1 23 = .ok (.iload_n 3, 1) := by decide +kernel
theorem d158_24 : decode Y158.2.1 24 = .ok (.aload_n 1, 1) := by decide +kernel
theorem d158_25 : decode Y158.2.1 25 = .ok (.iload 4, 2) := by decide +kernel
theorem d158_27 : decode Y158.2.1 27 = .ok (.invokestatic 57, 3) := by decide +kernel
theorem d158_30 : decode Y158.2.1 30 = .ok (.iadd, 1) := by decide +kernel
theorem d158_31 : decode Y158.2.1 31 = .ok (.istore_n 3, 1) := by decide +kernel
theorem d158_32 : decode Y158.2.1 32 = .ok (.iinc 4 1, 3) := by decide +kernel
theorem d158_35 : decode Y158.2.1 35 = .ok (.goto (-30), 3) := by decide +kernel
theorem d158_38 : decode Y158.2.1 38 = .ok (.iload_n 3, 1) := by decide +kernel
theorem d158_39 : decode Y158.2.1 39 = .ok (.ireturn, 1) := by decide +kernel
noncomputable def L158_5 (d : Nat) (a0 : Nat) (a1 : Nat) (n1 : Nat) (x2 : Int32) (x3 : Int32) (x4 : Int32) (m : lt_m) : Option lt_r := lt_run d Y158 5 [some (.inr (.inr (some a0))), some (.inr (.inr (some a1))), some (.inl x2), some (.inl x3), some (.inl x4)] [] m
theorem E158 (d : Nat) (a0 : Nat) (a1 : Nat) (n1 : Nat) (x2 : Int32) (h0 : ts_sh a0 = (0, 3)) (h1 : ts_sh a1 = (1, n1)) (m : lt_m) : lt_ev (d + 1) 158 [.inr (.inr (some a0)), .inr (.inr (some a1)), .inl x2] m = L158_5 d a0 a1 n1 x2 (0 : Int32) (0 : Int32) m := by
  refine Eq.trans (lt_enter2 (ls := [some (.inr (.inr (some a0))), some (.inr (.inr (some a1))), some (.inl x2), none, none]) hY158 (Nat.le_of_ble_eq_true rfl) (by rfl)) ?_
  refine Eq.trans (li_iconst d158_0 ic_0) ?_
  refine Eq.trans (li_istore_n (ls' := [some (.inr (.inr (some a0))), some (.inr (.inr (some a1))), some (.inl x2), some (.inl (0 : Int32)), none]) d158_1 (by decide) (by rfl)) ?_
  refine Eq.trans (li_iconst d158_2 ic_0) ?_
  refine Eq.trans (li_istore (ls' := [some (.inr (.inr (some a0))), some (.inr (.inr (some a1))), some (.inl x2), some (.inl (0 : Int32)), some (.inl (0 : Int32))]) d158_3 (by decide) (by rfl)) ?_
  rfl
theorem E158_5 (d : Nat) (a0 : Nat) (a1 : Nat) (n1 : Nat) (x2 : Int32) (x3 : Int32) (x4 : Int32) (h0 : ts_sh a0 = (0, 3)) (m : lt_m) : L158_5 d a0 a1 n1 x2 x3 x4 m = if (m.1 a0 3) ≤ x4 then (some (some (.inl x3), m)) else (if ((x2 >>> (x4 &&& 31)) &&& (1 : Int32)) = 0 then (L158_5 d a0 a1 n1 x2 x3 (x4 + (1 : Int32)) m) else (lt_cI (lt_ev d 16 [.inr (.inr (some a1)), .inl x4] m) (fun v1 m1 => (L158_5 d a0 a1 n1 x2 (x3 + v1) (x4 + (1 : Int32)) m1)))) := by
  show lt_run d Y158 5 [some (.inr (.inr (some a0))), some (.inr (.inr (some a1))), some (.inl x2), some (.inl x3), some (.inl x4)] [] m = _
  refine Eq.trans (li_iload d158_5 (by rfl)) ?_
  refine Eq.trans (li_aload_n d158_7 (by rfl)) ?_
  refine Eq.trans (li_geti d158_8 fa_3_26 h0 rfl) ?_
  refine Eq.trans (li_icmp_ge (t := 38) d158_11 (by rfl)) ?_
  refine lt_ite (fun c1 => ?_) (fun c1 => ?_)
  · refine Eq.trans (li_iload_n d158_38 (by rfl)) ?_
    exact li_iret d158_39 rfl
  · refine Eq.trans (li_iload_n d158_14 (by rfl)) ?_
    refine Eq.trans (li_iload d158_15 (by rfl)) ?_
    refine Eq.trans (li_ishr d158_17) ?_
    refine Eq.trans (li_iconst d158_18 ic_1) ?_
    refine Eq.trans (li_iand d158_19) ?_
    refine Eq.trans (li_if_eq (t := 32) d158_20 (by rfl)) ?_
    refine lt_ite (fun c2 => ?_) (fun c2 => ?_)
    · refine Eq.trans (li_iinc (ls' := [some (.inr (.inr (some a0))), some (.inr (.inr (some a1))), some (.inl x2), some (.inl x3), some (.inl (x4 + (1 : Int32)))]) d158_32 (by rfl) (by decide) ic_1 (by rfl)) ?_
      refine Eq.trans (li_goto (t := 5) d158_35 (by rfl)) ?_
      rfl
    · refine Eq.trans (li_iload_n d158_23 (by rfl)) ?_
      refine Eq.trans (li_aload_n d158_24 (by rfl)) ?_
      refine Eq.trans (li_iload d158_25 (by rfl)) ?_
      refine Eq.trans (li_isI d158_27 bi_3_57 ca_3_57 kd_16 (by rfl) (by rfl) (Nat.le_of_ble_eq_true rfl) (Nat.le_of_ble_eq_true rfl)) ?_
      refine lt_cI_c (fun v1 m1 => ?_)
      refine Eq.trans (li_iadd d158_30) ?_
      refine Eq.trans (li_istore_n (ls' := [some (.inr (.inr (some a0))), some (.inr (.inr (some a1))), some (.inl x2), some (.inl (x3 + v1)), some (.inl x4)]) d158_31 (by decide) (by rfl)) ?_
      refine Eq.trans (li_iinc (ls' := [some (.inr (.inr (some a0))), some (.inr (.inr (some a1))), some (.inl x2), some (.inl (x3 + v1)), some (.inl (x4 + (1 : Int32)))]) d158_32 (by rfl) (by decide) ic_1 (by rfl)) ?_
      refine Eq.trans (li_goto (t := 5) d158_35 (by rfl)) ?_
      rfl
/-! TransitSeals$Loads.isBetter(II)Z -/
theorem d159_0 : decode Y159.2.1 0 = .ok (.iload_n 1, 1) := by decide +kernel
theorem d159_1 : decode Y159.2.1 1 = .ok (.aload_n 0, 1) := by decide +kernel
theorem d159_2 : decode Y159.2.1 2 = .ok (.getfield 71, 3) := by decide +kernel
theorem d159_5 : decode Y159.2.1 5 = .ok (.if_icmp .gt 19, 3) := by decide +kernel
theorem d159_8 : decode Y159.2.1 8 = .ok (.iload_n 1, 1) := by decide +kernel
theorem d159_9 : decode Y159.2.1 9 = .ok (.aload_n 0, 1) := by decide +kernel
theorem d159_10 : decode Y159.2.1 10 = .ok (.getfield 71, 3) := by decide +kernel
theorem d159_13 : decode Y159.2.1 13 = .ok (.if_icmp .ne 15, 3) := by decide +kernel
theorem d159_16 : decode Y159.2.1 16 = .ok (.iload_n 2, 1) := by decide +kernel
theorem d159_17 : decode Y159.2.1 17 = .ok (.aload_n 0, 1) := by decide +kernel
theorem d159_18 : decode Y159.2.1 18 = .ok (.getfield 74, 3) := by decide +kernel
theorem d159_21 : decode Y159.2.1 21 = .ok (.if_icmp .ge 7, 3) := by decide +kernel
theorem d159_24 : decode Y159.2.1 24 = .ok (.iconst 1, 1) := by decide +kernel
theorem d159_25 : decode Y159.2.1 25 = .ok (.goto 4, 3) := by decide +kernel
theorem d159_28 : decode Y159.2.1 28 = .ok (.iconst 0, 1) := by decide +kernel
theorem d159_29 : decode Y159.2.1 29 = .ok (.ireturn, 1) := by decide +kernel
theorem E159 (d : Nat) (a0 : Nat) (x1 : Int32) (x2 : Int32) (h0 : ts_sh a0 = (0, 3)) (m : lt_m) : lt_ev (d + 1) 159 [.inr (.inr (some a0)), .inl x1, .inl x2] m = if (m.1 a0 5) < x1 then (some (some (.inl (1 : Int32)), m)) else (if ¬ x1 = (m.1 a0 5) then (some (some (.inl (0 : Int32)), m)) else (if (m.1 a0 6) ≤ x2 then (some (some (.inl (0 : Int32)), m)) else (some (some (.inl (1 : Int32)), m)))) := by
  refine Eq.trans (lt_enter2 (ls := [some (.inr (.inr (some a0))), some (.inl x1), some (.inl x2)]) hY159 (Nat.le_of_ble_eq_true rfl) (by rfl)) ?_
  refine Eq.trans (li_iload_n d159_0 (by rfl)) ?_
  refine Eq.trans (li_aload_n d159_1 (by rfl)) ?_
  refine Eq.trans (li_geti d159_2 fa_3_71 h0 rfl) ?_
  refine Eq.trans (li_icmp_gt (t := 24) d159_5 (by rfl)) ?_
  refine lt_ite (fun c1 => ?_) (fun c1 => ?_)
  · refine Eq.trans (li_iconst d159_24 ic_1) ?_
    refine Eq.trans (li_goto (t := 29) d159_25 (by rfl)) ?_
    exact li_zret d159_29 rfl (by decide)
  · refine Eq.trans (li_iload_n d159_8 (by rfl)) ?_
    refine Eq.trans (li_aload_n d159_9 (by rfl)) ?_
    refine Eq.trans (li_geti d159_10 fa_3_71 h0 rfl) ?_
    refine Eq.trans (li_icmp_ne (t := 28) d159_13 (by rfl)) ?_
    refine lt_ite (fun c2 => ?_) (fun c2 => ?_)
    · refine Eq.trans (li_iconst d159_28 ic_0) ?_
      exact li_zret d159_29 rfl (by decide)
    · refine Eq.trans (li_iload_n d159_16 (by rfl)) ?_
      refine Eq.trans (li_aload_n d159_17 (by rfl)) ?_
      refine Eq.trans (li_geti d159_18 fa_3_74 h0 rfl) ?_
      refine Eq.trans (li_icmp_ge (t := 28) d159_21 (by rfl)) ?_
      refine lt_ite (fun c3 => ?_) (fun c3 => ?_)
      · refine Eq.trans (li_iconst d159_28 ic_0) ?_
        exact li_zret d159_29 rfl (by decide)
      · refine Eq.trans (li_iconst d159_24 ic_1) ?_
        refine Eq.trans (li_goto (t := 29) d159_25 (by rfl)) ?_
        exact li_zret d159_29 rfl (by decide)
/-! TransitSeals.detour()I -/
theorem d160_0 : decode Y160.2.1 0 = .ok (.aload_n 0, 1) := by decide +kernel
theorem d160_1 : decode Y160.2.1 1 = .ok (.getfield 26, 3) := by decide +kernel
theorem d160_4 : decode Y160.2.1 4 = .ok (.aload_n 0, 1) := by decide +kernel
theorem d160_5 : decode Y160.2.1 5 = .ok (.getfield 10, 3) := by decide +kernel
theorem d160_8 : decode Y160.2.1 8 = .ok (.aload_n 0, 1) := by decide +kernel
theorem d160_9 : decode Y160.2.1 9 = .ok (.getfield 61, 3) := by decide +kernel
theorem d160_12 : decode Y160.2.1 12 = .ok (.invokevirtual 201, 3) := by decide +kernel
theorem d160_15 : decode Y160.2.1 15 = .ok (.aload_n 0, 1) := by decide +kernel
theorem d160_16 : decode Y160.2.1 16 = .ok (.getfield 10, 3) := by decide +kernel
theorem d160_19 : decode Y160.2.1 19 = .ok (.invokevirtual 89, 3) := by decide +kernel
theorem d160_22 : decode Y160.2.1 22 = .ok (.ifCond .eq 11, 3) := by decide +kernel
theorem d160_25 : decode Y160.2.1 25 = .ok (.aload_n 0, 1) := by decide +kernel
theorem d160_26 : decode Y160.2.1 26 = .ok (.getfield 10, 3) := by decide +kernel
theorem d160_29 : decode Y160.2.1 29 = .ok (.invokevirtual 93, 3) := by decide +kernel
theorem d160_32 : decode Y160.2.1 32 = .ok (.ireturn, 1) := by decide +kernel
theorem d160_33 : decode Y160.2.1 33 = .ok (.aload_n 0, 1) := by decide +kernel
theorem d160_34 : decode Y160.2.1 34 = .ok (.aload_n 0, 1) := by decide +kernel
theorem d160_35 : decode Y160.2.1 35 = .ok (.getfield 26, 3) := by decide +kernel
theorem d160_38 : decode Y160.2.1 38 = .ok (.getfield 369, 3) := by decide +kernel
theorem d160_41 : decode Y160.2.1 41 = .ok (.aload_n 0, 1) := by decide +kernel
theorem d160_42 : decode Y160.2.1 42 = .ok (.getfield 26, 3) := by decide +kernel
theorem d160_45 : decode Y160.2.1 45 = .ok (.aload_n 0, 1) := by decide +kernel
theorem d160_46 : decode Y160.2.1 46 = .ok (.getfield 47, 3) := by decide +kernel
theorem d160_49 : decode Y160.2.1 49 = .ok (.getfield 223, 3) := by decide +kernel
theorem d160_52 : decode Y160.2.1 52 = .ok (.invokevirtual 372, 3) := by decide +kernel
theorem d160_55 : decode Y160.2.1 55 = .ok (.invokevirtual 144, 3) := by decide +kernel
theorem d160_58 : decode Y160.2.1 58 = .ok (.aload_n 0, 1) := by decide +kernel
theorem d160_59 : decode Y160.2.1 59 = .ok (.getfield 26, 3) := by decide +kernel
theorem d160_62 : decode Y160.2.1 62 = .ok (.getfield 369, 3) := by decide +kernel
theorem d160_65 : decode Y160.2.1 65 = .ok (.aload_n 0, 1) := by decide +kernel
theorem d160_66 : decode Y160.2.1 66 = .ok (.getfield 61, 3) := by decide +kernel
theorem d160_69 : decode Y160.2.1 69 = .ok (.aload_n 0, 1) := by decide +kernel
theorem d160_70 : decode Y160.2.1 70 = .ok (.getfield 26, 3) := by decide +kernel
theorem d160_73 : decode Y160.2.1 73 = .ok (.iconst 0, 1) := by decide +kernel
theorem d160_74 : decode Y160.2.1 74 = .ok (.invokevirtual 375, 3) := by decide +kernel
theorem d160_77 : decode Y160.2.1 77 = .ok (.aload_n 0, 1) := by decide +kernel
theorem d160_78 : decode Y160.2.1 78 = .ok (.getfield 26, 3) := by decide +kernel
theorem d160_81 : decode Y160.2.1 81 = .ok (.aload_n 0, 1) := by decide +kernel
theorem d160_82 : decode Y160.2.1 82 = .ok (.getfield 26, 3) := by decide +kernel
theorem d160_85 : decode Y160.2.1 85 = .ok (.getfield 376, 3) := by decide +kernel
theorem d160_88 : decode Y160.2.1 88 = .ok (.iconst 1, 1) := by decide +kernel
theorem d160_89 : decode Y160.2.1 89 = .ok (.isub, 1) := by decide +kernel
theorem d160_90 : decode Y160.2.1 90 = .ok (.invokevirtual 375, 3) := by decide +kernel
theorem d160_93 : decode Y160.2.1 93 = .ok (.invokevirtual 123, 3) := by decide +kernel
theorem d160_96 : decode Y160.2.1 96 = .ok (.isub, 1) := by decide +kernel
theorem d160_97 : decode Y160.2.1 97 = .ok (.ireturn, 1) := by decide +kernel
theorem E160 (d : Nat) (a0 : Nat) (h0 : ts_sh a0 = (0, 11)) (m : lt_m) : lt_ev (d + 1) 160 [.inr (.inr (some a0))] m = lt_cV (lt_ev d 101 [.inr (.inr (some (a0 + 6))), .inr (.inr (some (a0 + 1))), .inr (.inr (some (m.2.2.1)))] m) (fun m1 => (lt_cI (lt_ev d 38 [.inr (.inr (some (a0 + 1)))] m1) (fun v1 m2 => (if v1 = 0 then (lt_cI (lt_ev d 110 [.inr (.inr (some (a0 + 6))), .inl (m2.1 (a0 + 13) 4)] m2) (fun v2 m3 => (lt_cV (lt_ev d 74 [.inr (.inr (some a0)), .inl (m2.1 (a0 + 6) 2), .inl v2] m3) (fun m4 => (lt_cI (lt_ev d 102 [.inr (.inr (some (a0 + 6))), .inl (0 : Int32)] m4) (fun v3 m5 => (lt_cI (lt_ev d 102 [.inr (.inr (some (a0 + 6))), .inl ((m5.1 (a0 + 6) 1) - (1 : Int32))] m5) (fun v4 m6 => (lt_gd (ts_sh (m4.2.2.1) = (0, 5)) (lt_cI (lt_ev d 18 [.inr (.inr (some (m4.2.2.1))), .inl v3, .inl v4] m6) (fun v5 m7 => (some (some (.inl ((m4.1 (a0 + 6) 2) - v5)), m7))))))))))))) else (lt_cI (lt_ev d 52 [.inr (.inr (some (a0 + 1)))] m2) (fun v6 m8 => (some (some (.inl v6), m8)))))))) := by
  refine Eq.trans (lt_enter2 (ls := [some (.inr (.inr (some a0)))]) hY160 (Nat.le_of_ble_eq_true rfl) (by rfl)) ?_
  refine Eq.trans (li_aload_n d160_0 (by rfl)) ?_
  refine Eq.trans (li_getr d160_1 fa_11_26 h0 rfl rfl rfl (by decide)) ?_
  refine Eq.trans (li_aload_n d160_4 (by rfl)) ?_
  refine Eq.trans (li_getr d160_5 fa_11_10 h0 rfl rfl rfl (by decide)) ?_
  refine Eq.trans (li_aload_n d160_8 (by rfl)) ?_
  refine Eq.trans (li_getnet d160_9 fa_11_61 h0) ?_
  refine Eq.trans (li_ivV d160_12 ca_11_201 kd_101 kl_101 (by rfl) (by rfl) (sf_of h0 2 (by decide) (by decide)) (Nat.le_of_ble_eq_true rfl) (Nat.le_of_ble_eq_true rfl)) ?_
  refine lt_cV_c (fun m1 => ?_)
  refine Eq.trans (li_aload_n d160_15 (by rfl)) ?_
  refine Eq.trans (li_getr d160_16 fa_11_10 h0 rfl rfl rfl (by decide)) ?_
  refine Eq.trans (li_ivI d160_19 ca_11_89 kd_38 kl_38 (by rfl) (by rfl) (sf_of h0 0 (by decide) (by decide)) (Nat.le_of_ble_eq_true rfl) (Nat.le_of_ble_eq_true rfl)) ?_
  refine lt_cI_c (fun v1 m2 => ?_)
  refine Eq.trans (li_if_eq (t := 33) d160_22 (by rfl)) ?_
  refine lt_ite (fun c1 => ?_) (fun c1 => ?_)
  · refine Eq.trans (li_aload_n d160_33 (by rfl)) ?_
    refine Eq.trans (li_aload_n d160_34 (by rfl)) ?_
    refine Eq.trans (li_getr d160_35 fa_11_26 h0 rfl rfl rfl (by decide)) ?_
    refine Eq.trans (li_geti d160_38 fa_11_369 (sf_of h0 2 (by decide) (by decide)) rfl) ?_
    refine Eq.trans (li_aload_n d160_41 (by rfl)) ?_
    refine Eq.trans (li_getr d160_42 fa_11_26 h0 rfl rfl rfl (by decide)) ?_
    refine Eq.trans (li_aload_n d160_45 (by rfl)) ?_
    refine Eq.trans (li_getr d160_46 fa_11_47 h0 rfl rfl rfl (by decide)) ?_
    refine Eq.trans (li_geti d160_49 fa_11_223 (sf_of h0 5 (by decide) (by decide)) rfl) ?_
    refine Eq.trans (li_ivI d160_52 ca_11_372 kd_110 kl_110 (by rfl) (by rfl) (sf_of h0 2 (by decide) (by decide)) (Nat.le_of_ble_eq_true rfl) (Nat.le_of_ble_eq_true rfl)) ?_
    refine lt_cI_c (fun v2 m3 => ?_)
    refine Eq.trans (li_ivV d160_55 ca_11_144 kd_74 kl_74 (by rfl) (by rfl) h0 (Nat.le_of_ble_eq_true rfl) (Nat.le_of_ble_eq_true rfl)) ?_
    refine lt_cV_c (fun m4 => ?_)
    refine Eq.trans (li_aload_n d160_58 (by rfl)) ?_
    refine Eq.trans (li_getr d160_59 fa_11_26 h0 rfl rfl rfl (by decide)) ?_
    refine Eq.trans (li_geti d160_62 fa_11_369 (sf_of h0 2 (by decide) (by decide)) rfl) ?_
    refine Eq.trans (li_aload_n d160_65 (by rfl)) ?_
    refine Eq.trans (li_getnet d160_66 fa_11_61 h0) ?_
    refine Eq.trans (li_aload_n d160_69 (by rfl)) ?_
    refine Eq.trans (li_getr d160_70 fa_11_26 h0 rfl rfl rfl (by decide)) ?_
    refine Eq.trans (li_iconst d160_73 ic_0) ?_
    refine Eq.trans (li_ivI d160_74 ca_11_375 kd_102 kl_102 (by rfl) (by rfl) (sf_of h0 2 (by decide) (by decide)) (Nat.le_of_ble_eq_true rfl) (Nat.le_of_ble_eq_true rfl)) ?_
    refine lt_cI_c (fun v3 m5 => ?_)
    refine Eq.trans (li_aload_n d160_77 (by rfl)) ?_
    refine Eq.trans (li_getr d160_78 fa_11_26 h0 rfl rfl rfl (by decide)) ?_
    refine Eq.trans (li_aload_n d160_81 (by rfl)) ?_
    refine Eq.trans (li_getr d160_82 fa_11_26 h0 rfl rfl rfl (by decide)) ?_
    refine Eq.trans (li_geti d160_85 fa_11_376 (sf_of h0 2 (by decide) (by decide)) rfl) ?_
    refine Eq.trans (li_iconst d160_88 ic_1) ?_
    refine Eq.trans (li_isub d160_89) ?_
    refine Eq.trans (li_ivI d160_90 ca_11_375 kd_102 kl_102 (by rfl) (by rfl) (sf_of h0 2 (by decide) (by decide)) (Nat.le_of_ble_eq_true rfl) (Nat.le_of_ble_eq_true rfl)) ?_
    refine lt_cI_c (fun v4 m6 => ?_)
    refine Eq.trans (li_ginv d160_93 ca_11_123 kl_18 (by rfl)) ?_
    refine lt_gd_c (fun g1 => ?_)
    refine Eq.trans (li_ivI d160_93 ca_11_123 kd_18 kl_18 (by rfl) (by rfl) g1 (Nat.le_of_ble_eq_true rfl) (Nat.le_of_ble_eq_true rfl)) ?_
    refine lt_cI_c (fun v5 m7 => ?_)
    refine Eq.trans (li_isub d160_96) ?_
    exact li_iret d160_97 rfl
  · refine Eq.trans (li_aload_n d160_25 (by rfl)) ?_
    refine Eq.trans (li_getr d160_26 fa_11_10 h0 rfl rfl rfl (by decide)) ?_
    refine Eq.trans (li_ivI d160_29 ca_11_93 kd_52 kl_52 (by rfl) (by rfl) (sf_of h0 0 (by decide) (by decide)) (Nat.le_of_ble_eq_true rfl) (Nat.le_of_ble_eq_true rfl)) ?_
    refine lt_cI_c (fun v6 m8 => ?_)
    exact li_iret d160_32 rfl

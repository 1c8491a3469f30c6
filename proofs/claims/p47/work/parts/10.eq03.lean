/-! ===== equations of methods ===== -/
/-! TransitSeals.freedUntil(II)I -/
theorem d154_0 : decode Y154.2.1 0 = .ok (.iconst 0, 1) := by decide +kernel
theorem d154_1 : decode Y154.2.1 1 = .ok (.istore_n 3, 1) := by decide +kernel
theorem d154_2 : decode Y154.2.1 2 = .ok (.aload_n 0, 1) := by decide +kernel
theorem d154_3 : decode Y154.2.1 3 = .ok (.getfield 47, 3) := by decide +kernel
theorem d154_6 : decode Y154.2.1 6 = .ok (.getfield 315, 3) := by decide +kernel
theorem d154_9 : decode Y154.2.1 9 = .ok (.astore 4, 2) := by decide +kernel
theorem d154_11 : decode Y154.2.1 11 = .ok (.aload 4, 2) := by decide +kernel
theorem d154_13 : decode Y154.2.1 13 = .ok (.arraylength, 1) := by decide +kernel
theorem d154_14 : decode Y154.2.1 14 = .ok (.istore 5, 2) := by decide +kernel
theorem d154_16 : decode Y154.2.1 16 = .ok (.iconst 0, 1) := by decide +kernel
theorem d154_17 : decode Y154.2.1 17 = .ok (.istore 6, 2) := by decide +kernel
theorem d154_19 : decode Y154.2.1 19 = .ok (.iload 6, 2) := by decide +kernel
theorem d154_21 : decode Y154.2.1 21 = .ok (.iload 5, 2) := by decide +kernel
theorem d154_23 : decode Y154.2.1 23 = .ok (.if_icmp .ge 43, 3) := by decide +kernel
theorem d154_26 : decode Y154.2.1 26 = .ok (.aload 4, 2) := by decide +kernel
theorem d154_28 : decode Y154.2.1 28 = .ok (.iload 6, 2) := by decide +kernel
theorem d154_30 : decode Y154.2.1 30 = .ok (.aaload, 1) := by decide +kernel
theorem d154_31 : decode Y154.2.1 31 = .ok (.astore 7, 2) := by decide +kernel
theorem d154_33 : decode Y154.2.1 33 = .ok (.aload 7, 2) := by decide +kernel
theorem d154_35 : decode Y154.2.1 35 = .ok (.iload_n 1, 1) := by decide +kernel
theorem d154_36 : decode Y154.2.1 36 = .ok (.invokevirtual 329, 3) := by decide +kernel
theorem d154_39 : decode Y154.2.1 39 = .ok (.ifCond .eq 21, 3) := by decide +kernel
theorem d154_42 : decode Y154.2.1 42 = .ok (.aload_n 0, 1) := by decide +kernel
theorem d154_43 : decode Y154.2.1 43 = .ok (.aload 7, 2) := by decide +kernel
theorem d154_45 : decode Y154.2.1 45 = .ok (.invokevirtual 350, 3) := by decide +kernel
theorem d154_48 : decode Y154.2.1 48 = .ok (.iload_n 2, 1) := by decide +kernel
theorem d154_49 : decode Y154.2.1 49 = .ok (.if_icmp .gt 11, 3) := by decide +kernel
theorem d154_52 : decode Y154.2.1 52 = .ok (.iload_n 3, 1) := by decide +kernel
theorem d154_53 : decode Y154.2.1 53 = .ok (.aload 7, 2) := by decide +kernel
theorem d154_55 : decode Y154.2.1 55 = .ok (.getfield 294, 3) := by decide +kernel
theorem d154_58 : decode Y154.2.1 58 = .ok (.iadd, 1) := by decide +kernel
theorem d154_59 : decode Y154.2.1 59 = .ok (.istore_n 3, 1) := by decide +kernel
theorem d154_60 : decode Y154.2.1 60 = .ok (.iinc 6 1, 3) := by decide +kernel
theorem d154_63 : decode Y154.2.1 63 = .ok (.goto (-44), 3) := by decide +kernel
theorem d154_66 : decode Y154.2.1 66 = .ok (.iload_n 3, 1) := by decide +kernel
theorem d154_67 : decode Y154.2.1 67 = .ok (.ireturn, 1) := by decide +kernel
noncomputable def L154_19 (d : Nat) (a0 : Nat) (x1 : Int32) (x2 : Int32) (x3 : Int32) (x6 : Int32) (o7 : Option ts_V) (m : lt_m) : Option lt_r := lt_run d Y154 19 [some (.inr (.inr (some a0))), some (.inl x1), some (.inl x2), some (.inl x3), some (.inr (.inr (some ((a0 + 13) + 3)))), some (.inl (20 : Int32)), some (.inl x6), o7] [] m
theorem E154 (d : Nat) (a0 : Nat) (x1 : Int32) (x2 : Int32) (h0 : ts_sh a0 = (0, 11)) (m : lt_m) : lt_ev (d + 1) 154 [.inr (.inr (some a0)), .inl x1, .inl x2] m = L154_19 d a0 x1 x2 (0 : Int32) (0 : Int32) none m := by
  refine Eq.trans (lt_enter2 (ls := [some (.inr (.inr (some a0))), some (.inl x1), some (.inl x2), none, none, none, none, none]) hY154 (Nat.le_of_ble_eq_true rfl) (by rfl)) ?_
  refine Eq.trans (li_iconst d154_0 ic_0) ?_
  refine Eq.trans (li_istore_n (ls' := [some (.inr (.inr (some a0))), some (.inl x1), some (.inl x2), some (.inl (0 : Int32)), none, none, none, none]) d154_1 (by decide) (by rfl)) ?_
  refine Eq.trans (li_aload_n d154_2 (by rfl)) ?_
  refine Eq.trans (li_getr d154_3 fa_11_47 h0 rfl rfl rfl (by decide)) ?_
  refine Eq.trans (li_getr d154_6 fa_11_315 (sf_of h0 5 (by decide) (by decide)) rfl rfl rfl (by decide)) ?_
  refine Eq.trans (li_astore (ls' := [some (.inr (.inr (some a0))), some (.inl x1), some (.inl x2), some (.inl (0 : Int32)), some (.inr (.inr (some ((a0 + 13) + 3)))), none, none, none]) d154_9 (by decide) (by rfl)) ?_
  refine Eq.trans (li_aload d154_11 (by rfl)) ?_
  refine Eq.trans (li_alen d154_13 (sf_of (sf_of h0 5 (by decide) (by decide)) 2 (by decide) (by decide)) (by decide) (by rfl)) ?_
  refine Eq.trans (li_istore (ls' := [some (.inr (.inr (some a0))), some (.inl x1), some (.inl x2), some (.inl (0 : Int32)), some (.inr (.inr (some ((a0 + 13) + 3)))), some (.inl (20 : Int32)), none, none]) d154_14 (by decide) (by rfl)) ?_
  refine Eq.trans (li_iconst d154_16 ic_0) ?_
  refine Eq.trans (li_istore (ls' := [some (.inr (.inr (some a0))), some (.inl x1), some (.inl x2), some (.inl (0 : Int32)), some (.inr (.inr (some ((a0 + 13) + 3)))), some (.inl (20 : Int32)), some (.inl (0 : Int32)), none]) d154_17 (by decide) (by rfl)) ?_
  rfl
theorem E154_19 (d : Nat) (a0 : Nat) (x1 : Int32) (x2 : Int32) (x3 : Int32) (x6 : Int32) (o7 : Option ts_V) (h0 : ts_sh a0 = (0, 11)) (m : lt_m) : L154_19 d a0 x1 x2 x3 x6 o7 m = if (20 : Int32) ≤ x6 then (some (some (.inl x3), m)) else (lt_gd (0 ≤ x6 ∧ (x6).toNatClampNeg < 20) (lt_cI (lt_ev d 92 [.inr (.inr (some (((a0 + 13) + 3) + 5 + 3 * (x6).toNatClampNeg))), .inl x1] m) (fun v1 m1 => (if v1 = 0 then (L154_19 d a0 x1 x2 x3 (x6 + (1 : Int32)) (some (.inr (.inr (some (((a0 + 13) + 3) + 5 + 3 * (x6).toNatClampNeg))))) m1) else (lt_cI (lt_ev d 153 [.inr (.inr (some a0)), .inr (.inr (some (((a0 + 13) + 3) + 5 + 3 * (x6).toNatClampNeg)))] m1) (fun v2 m2 => (if x2 < v2 then (L154_19 d a0 x1 x2 x3 (x6 + (1 : Int32)) (some (.inr (.inr (some (((a0 + 13) + 3) + 5 + 3 * (x6).toNatClampNeg))))) m2) else (L154_19 d a0 x1 x2 (x3 + (m2.1 (((a0 + 13) + 3) + 5 + 3 * (x6).toNatClampNeg) 5)) (x6 + (1 : Int32)) (some (.inr (.inr (some (((a0 + 13) + 3) + 5 + 3 * (x6).toNatClampNeg))))) m2)))))))) := by
  show lt_run d Y154 19 [some (.inr (.inr (some a0))), some (.inl x1), some (.inl x2), some (.inl x3), some (.inr (.inr (some ((a0 + 13) + 3)))), some (.inl (20 : Int32)), some (.inl x6), o7] [] m = _
  refine Eq.trans (li_iload d154_19 (by rfl)) ?_
  refine Eq.trans (li_iload d154_21 (by rfl)) ?_
  refine Eq.trans (li_icmp_ge (t := 66) d154_23 (by rfl)) ?_
  refine lt_ite (fun c1 => ?_) (fun c1 => ?_)
  · refine Eq.trans (li_iload_n d154_66 (by rfl)) ?_
    exact li_iret d154_67 rfl
  · refine Eq.trans (li_aload d154_26 (by rfl)) ?_
    refine Eq.trans (li_iload d154_28 (by rfl)) ?_
    refine Eq.trans (li_aald4 d154_30 (sf_of (sf_of h0 5 (by decide) (by decide)) 2 (by decide) (by decide))) ?_
    refine lt_gd_c (fun g1 => ?_)
    refine Eq.trans (li_astore (ls' := [some (.inr (.inr (some a0))), some (.inl x1), some (.inl x2), some (.inl x3), some (.inr (.inr (some ((a0 + 13) + 3)))), some (.inl (20 : Int32)), some (.inl x6), some (.inr (.inr (some (((a0 + 13) + 3) + 5 + 3 * (x6).toNatClampNeg))))]) d154_31 (by decide) (by rfl)) ?_
    refine Eq.trans (li_aload d154_33 (by rfl)) ?_
    refine Eq.trans (li_iload_n d154_35 (by rfl)) ?_
    refine Eq.trans (li_ivI d154_36 ca_11_329 kd_92 kl_92 (by rfl) (by rfl) (sm_4 (sf_of (sf_of h0 5 (by decide) (by decide)) 2 (by decide) (by decide)) g1.2) (Nat.le_of_ble_eq_true rfl) (Nat.le_of_ble_eq_true rfl)) ?_
    refine lt_cI_c (fun v1 m1 => ?_)
    refine Eq.trans (li_if_eq (t := 60) d154_39 (by rfl)) ?_
    refine lt_ite (fun c2 => ?_) (fun c2 => ?_)
    · refine Eq.trans (li_iinc (ls' := [some (.inr (.inr (some a0))), some (.inl x1), some (.inl x2), some (.inl x3), some (.inr (.inr (some ((a0 + 13) + 3)))), some (.inl (20 : Int32)), some (.inl (x6 + (1 : Int32))), some (.inr (.inr (some (((a0 + 13) + 3) + 5 + 3 * (x6).toNatClampNeg))))]) d154_60 (by rfl) (by decide) ic_1 (by rfl)) ?_
      refine Eq.trans (li_goto (t := 19) d154_63 (by rfl)) ?_
      rfl
    · refine Eq.trans (li_aload_n d154_42 (by rfl)) ?_
      refine Eq.trans (li_aload d154_43 (by rfl)) ?_
      refine Eq.trans (li_ivI d154_45 ca_11_350 kd_153 kl_153 (by rfl) (by rfl) h0 (Nat.le_of_ble_eq_true rfl) (Nat.le_of_ble_eq_true rfl)) ?_
      refine lt_cI_c (fun v2 m2 => ?_)
      refine Eq.trans (li_iload_n d154_48 (by rfl)) ?_
      refine Eq.trans (li_icmp_gt (t := 60) d154_49 (by rfl)) ?_
      refine lt_ite (fun c3 => ?_) (fun c3 => ?_)
      · refine Eq.trans (li_iinc (ls' := [some (.inr (.inr (some a0))), some (.inl x1), some (.inl x2), some (.inl x3), some (.inr (.inr (some ((a0 + 13) + 3)))), some (.inl (20 : Int32)), some (.inl (x6 + (1 : Int32))), some (.inr (.inr (some (((a0 + 13) + 3) + 5 + 3 * (x6).toNatClampNeg))))]) d154_60 (by rfl) (by decide) ic_1 (by rfl)) ?_
        refine Eq.trans (li_goto (t := 19) d154_63 (by rfl)) ?_
        rfl
      · refine Eq.trans (li_iload_n d154_52 (by rfl)) ?_
        refine Eq.trans (li_aload d154_53 (by rfl)) ?_
        refine Eq.trans (li_geti d154_55 fa_11_294 (sm_4 (sf_of (sf_of h0 5 (by decide) (by decide)) 2 (by decide) (by decide)) g1.2) rfl) ?_
        refine Eq.trans (li_iadd d154_58) ?_
        refine Eq.trans (li_istore_n (ls' := [some (.inr (.inr (some a0))), some (.inl x1), some (.inl x2), some (.inl (x3 + (m2.1 (((a0 + 13) + 3) + 5 + 3 * (x6).toNatClampNeg) 5))), some (.inr (.inr (some ((a0 + 13) + 3)))), some (.inl (20 : Int32)), some (.inl x6), some (.inr (.inr (some (((a0 + 13) + 3) + 5 + 3 * (x6).toNatClampNeg))))]) d154_59 (by decide) (by rfl)) ?_
        refine Eq.trans (li_iinc (ls' := [some (.inr (.inr (some a0))), some (.inl x1), some (.inl x2), some (.inl (x3 + (m2.1 (((a0 + 13) + 3) + 5 + 3 * (x6).toNatClampNeg) 5))), some (.inr (.inr (some ((a0 + 13) + 3)))), some (.inl (20 : Int32)), some (.inl (x6 + (1 : Int32))), some (.inr (.inr (some (((a0 + 13) + 3) + 5 + 3 * (x6).toNatClampNeg))))]) d154_60 (by rfl) (by decide) ic_1 (by rfl)) ?_
        refine Eq.trans (li_goto (t := 19) d154_63 (by rfl)) ?_
        rfl
/-! TransitSeals.detour()I -/
theorem d160_0 : decode Y160.2.1 0 = .ok (.aload_n 0, 1) := by decide +kernel
theorem d160_1 : decode Y160.2.1 1 = .ok (.getfield 26, 3) := by decide +kernel
theorem d160_4 : decode Y160.2.1 4 = .ok (.aload_n 0, 1) := by decide +kernel
theorem d160_5 : decode Y160.2.1 5 = .ok (.getfield 10, 3) := by decide +kernel
theorem d160_8 : decode Y160.2.1 8 = .ok (.aload_n 0, 1) := by decide +kernel
theorem d160_9 : decode Y160.2.1 9 = .ok (.getfield 61, 3) := by decide +kernel
theorem d160_12 : decode Y160.2.1 12 = .ok (.invokevirtual 201, 3) := by decide +kernel
theorem d160_15 : decode Y160.2.1 15 = .ok (.aload_n 0, 1) := by decide +kernel
theorem d160_16 : decode Y160.2.1 16 = .ok (.getfield 10, 3) := by decide +kernel
theorem d160_19 : decode Y160.2.1 19 = .ok (.invokevirtual 89, 3) := by decide +kernel
theorem d160_22 : decode Y160.2.1 22 = .ok (.ifCond .eq 11, 3) := by decide +kernel
theorem d160_25 : decode Y160.2.1 25 = .ok (.aload_n 0, 1) := by decide +kernel
theorem d160_26 : decode Y160.2.1 26 = .ok (.getfield 10, 3) := by decide +kernel
theorem d160_29 : decode Y160.2.1 29 = .ok (.invokevirtual 93, 3) := by decide +kernel
theorem d160_32 : decode Y160.2.1 32 = .ok (.ireturn, 1) := by decide +kernel
theorem d160_33 : decode Y160.2.1 33 = .ok (.aload_n 0, 1) := by decide +kernel
theorem d160_34 : decode Y160.2.1 34 = .ok (.aload_n 0, 1) := by decide +kernel
theorem d160_35 : decode Y160.2.1 35 = .ok (.getfield 26, 3) := by decide +kernel
theorem d160_38 : decode Y160.2.1 38 = .ok (.getfield 369, 3) := by decide +kernel
theorem d160_41 : decode Y160.2.1 41 = .ok (.aload_n 0, 1) := by decide +kernel
theorem d160_42 : decode Y160.2.1 42 = .ok (.getfield 26, 3) := by decide +kernel
theorem d160_45 : decode Y160.2.1 45 = .ok (.aload_n 0, 1) := by decide +kernel
theorem d160_46 : decode Y160.2.1 46 = .ok (.getfield 47, 3) := by decide +kernel
theorem d160_49 : decode Y160.2.1 49 = .ok (.getfield 223, 3) := by decide +kernel
theorem d160_52 : decode Y160.2.1 52 = .ok (.invokevirtual 372, 3) := by decide +kernel
theorem d160_55 : decode Y160.2.1 55 = .ok (.invokevirtual 144, 3) := by decide +kernel
theorem d160_58 : decode Y160.2.1 58 = .ok (.aload_n 0, 1) := by decide +kernel
theorem d160_59 : decode Y160.2.1 59 = .ok (.getfield 26, 3) := by decide +kernel
theorem d160_62 : decode Y160.2.1 62 = .ok (.getfield 369, 3) := by decide +kernel
theorem d160_65 : decode Y160.2.1 65 = .ok (.aload_n 0, 1) := by decide +kernel
theorem d160_66 : decode Y160.2.1 66 = .ok (.getfield 61, 3) := by decide +kernel
theorem d160_69 : decode Y160.2.1 69 = .ok (.aload_n 0, 1) := by decide +kernel
theorem d160_70 : decode Y160.2.1 70 = .ok (.getfield 26, 3) := by decide +kernel
theorem d160_73 : decode Y160.2.1 73 = .ok (.iconst 0, 1) := by decide +kernel
theorem d160_74 : decode Y160.2.1 74 = .ok (.invokevirtual 375, 3) := by decide +kernel
theorem d160_77 : decode Y160.2.1 77 = .ok (.aload_n 0, 1) := by decide +kernel
theorem d160_78 : decode Y160.2.1 78 = .ok (.getfield 26, 3) := by decide +kernel
theorem d160_81 : decode Y160.2.1 81 = .ok (.aload_n 0, 1) := by decide +kernel
theorem d160_82 : decode Y160.2.1 82 = .ok (.getfield 26, 3) := by decide +kernel
theorem d160_85 : decode Y160.2.1 85 = .ok (.getfield 376, 3) := by decide +kernel
theorem d160_88 : decode Y160.2.1 88 = .ok (.iconst 1, 1) := by decide +kernel
theorem d160_89 : decode Y160.2.1 89 = .ok (.isub, 1) := by decide +kernel
theorem d160_90 : decode Y160.2.1 90 = .ok (.invokevirtual 375, 3) := by decide +kernel
theorem d160_93 : decode Y160.2.1 93 = .ok (.invokevirtual 123, 3) := by decide +kernel
theorem d160_96 : decode Y160.2.1 96 = .ok (.isub, 1) := by decide +kernel
theorem d160_97 : decode Y160.2.1 97 = .ok (.ireturn, 1) := by decide +kernel
theorem E160 (d : Nat) (a0 : Nat) (h0 : ts_sh a0 = (0, 11)) (m : lt_m) : lt_ev (d + 1) 160 [.inr (.inr (some a0))] m = lt_cV (lt_ev d 101 [.inr (.inr (some (a0 + 6))), .inr (.inr (some (a0 + 1))), .inr (.inr (some (m.2.2.1)))] m) (fun m1 => (lt_cI (lt_ev d 38 [.inr (.inr (some (a0 + 1)))] m1) (fun v1 m2 => (if v1 = 0 then (lt_cI (lt_ev d 110 [.inr (.inr (some (a0 + 6))), .inl (m2.1 (a0 + 13) 4)] m2) (fun v2 m3 => (lt_cV (lt_ev d 74 [.inr (.inr (some a0)), .inl (m2.1 (a0 + 6) 2), .inl v2] m3) (fun m4 => (lt_cI (lt_ev d 102 [.inr (.inr (some (a0 + 6))), .inl (0 : Int32)] m4) (fun v3 m5 => (lt_cI (lt_ev d 102 [.inr (.inr (some (a0 + 6))), .inl ((m5.1 (a0 + 6) 1) - (1 : Int32))] m5) (fun v4 m6 => (lt_gd (ts_sh (m4.2.2.1) = (0, 5)) (lt_cI (lt_ev d 18 [.inr (.inr (some (m4.2.2.1))), .inl v3, .inl v4] m6) (fun v5 m7 => (some (some (.inl ((m4.1 (a0 + 6) 2) - v5)), m7))))))))))))) else (lt_cI (lt_ev d 52 [.inr (.inr (some (a0 + 1)))] m2) (fun v6 m8 => (some (some (.inl v6), m8)))))))) := by
  refine Eq.trans (lt_enter2 (ls := [some (.inr (.inr (some a0)))]) hY160 (Nat.le_of_ble_eq_true rfl) (by rfl)) ?_
  refine Eq.trans (li_aload_n d160_0 (by rfl)) ?_
  refine Eq.trans (li_getr d160_1 fa_11_26 h0 rfl rfl rfl (by decide)) ?_
  refine Eq.trans (li_aload_n d160_4 (by rfl)) ?_
  refine Eq.trans (li_getr d160_5 fa_11_10 h0 rfl rfl rfl (by decide)) ?_
  refine Eq.trans (li_aload_n d160_8 (by rfl)) ?_
  refine Eq.trans (li_getnet d160_9 fa_11_61 h0) ?_
  refine Eq.trans (li_ivV d160_12 ca_11_201 kd_101 kl_101 (by rfl) (by rfl) (sf_of h0 2 (by decide) (by decide)) (Nat.le_of_ble_eq_true rfl) (Nat.le_of_ble_eq_true rfl)) ?_
  refine lt_cV_c (fun m1 => ?_)
  refine Eq.trans (li_aload_n d160_15 (by rfl)) ?_
  refine Eq.trans (li_getr d160_16 fa_11_10 h0 rfl rfl rfl (by decide)) ?_
  refine Eq.trans (li_ivI d160_19 ca_11_89 kd_38 kl_38 (by rfl) (by rfl) (sf_of h0 0 (by decide) (by decide)) (Nat.le_of_ble_eq_true rfl) (Nat.le_of_ble_eq_true rfl)) ?_
  refine lt_cI_c (fun v1 m2 => ?_)
  refine Eq.trans (li_if_eq (t := 33) d160_22 (by rfl)) ?_
  refine lt_ite (fun c1 => ?_) (fun c1 => ?_)
  · refine Eq.trans (li_aload_n d160_33 (by rfl)) ?_
    refine Eq.trans (li_aload_n d160_34 (by rfl)) ?_
    refine Eq.trans (li_getr d160_35 fa_11_26 h0 rfl rfl rfl (by decide)) ?_
    refine Eq.trans (li_geti d160_38 fa_11_369 (sf_of h0 2 (by decide) (by decide)) rfl) ?_
    refine Eq.trans (li_aload_n d160_41 (by rfl)) ?_
    refine Eq.trans (li_getr d160_42 fa_11_26 h0 rfl rfl rfl (by decide)) ?_
    refine Eq.trans (li_aload_n d160_45 (by rfl)) ?_
    refine Eq.trans (li_getr d160_46 fa_11_47 h0 rfl rfl rfl (by decide)) ?_
    refine Eq.trans (li_geti d160_49 fa_11_223 (sf_of h0 5 (by decide) (by decide)) rfl) ?_
    refine Eq.trans (li_ivI d160_52 ca_11_372 kd_110 kl_110 (by rfl) (by rfl) (sf_of h0 2 (by decide) (by decide)) (Nat.le_of_ble_eq_true rfl) (Nat.le_of_ble_eq_true rfl)) ?_
    refine lt_cI_c (fun v2 m3 => ?_)
    refine Eq.trans (li_ivV d160_55 ca_11_144 kd_74 kl_74 (by rfl) (by rfl) h0 (Nat.le_of_ble_eq_true rfl) (Nat.le_of_ble_eq_true rfl)) ?_
    refine lt_cV_c (fun m4 => ?_)
    refine Eq.trans (li_aload_n d160_58 (by rfl)) ?_
    refine Eq.trans (li_getr d160_59 fa_11_26 h0 rfl rfl rfl (by decide)) ?_
    refine Eq.trans (li_geti d160_62 fa_11_369 (sf_of h0 2 (by decide) (by decide)) rfl) ?_
    refine Eq.trans (li_aload_n d160_65 (by rfl)) ?_
    refine Eq.trans (li_getnet d160_66 fa_11_61 h0) ?_
    refine Eq.trans (li_aload_n d160_69 (by rfl)) ?_
    refine Eq.trans (li_getr d160_70 fa_11_26 h0 rfl rfl rfl (by decide)) ?_
    refine Eq.trans (li_iconst d160_73 ic_0) ?_
    refine Eq.trans (li_ivI d160_74 ca_11_375 kd_102 kl_102 (by rfl) (by rfl) (sf_of h0 2 (by decide) (by decide)) (Nat.le_of_ble_eq_true rfl) (Nat.le_of_ble_eq_true rfl)) ?_
    refine lt_cI_c (fun v3 m5 => ?_)
    refine Eq.trans (li_aload_n d160_77 (by rfl)) ?_
    refine Eq.trans (li_getr d160_78 fa_11_26 h0 rfl rfl rfl (by decide)) ?_
    refine Eq.trans (li_aload_n d160_81 (by rfl)) ?_
    refine Eq.trans (li_getr d160_82 fa_11_26 h0 rfl rfl rfl (by decide)) ?_
    refine Eq.trans (li_geti d160_85 fa_11_376 (sf_of h0 2 (by decide) (by decide)) rfl) ?_
    refine Eq.trans (li_iconst d160_88 ic_1) ?_
    refine Eq.trans (li_isub d160_89) ?_
    refine Eq.trans (li_ivI d160_90 ca_11_375 kd_102 kl_102 (by rfl) (by rfl) (sf_of h0 2 (by decide) (by decide)) (Nat.le_of_ble_eq_true rfl) (Nat.le_of_ble_eq_true rfl)) ?_
    refine lt_cI_c (fun v4 m6 => ?_)
    refine Eq.trans (li_ginv d160_93 ca_11_123 kl_18 (by rfl)) ?_
    refine lt_gd_c (fun g1 => ?_)
    refine Eq.trans (li_ivI d160_93 ca_11_123 kd_18 kl_18 (by rfl) (by rfl) g1 (Nat.le_of_ble_eq_true rfl) (Nat.le_of_ble_eq_true rfl)) ?_
    refine lt_cI_c (fun v5 m7 => ?_)
    refine Eq.trans (li_isub d160_96) ?_
    exact li_iret d160_97 rfl
  · refine Eq.trans (li_aload_n d160_25 (by rfl)) ?_
    refine Eq.trans (li_getr d160_26 fa_11_10 h0 rfl rfl rfl (by decide)) ?_
    refine Eq.trans (li_ivI d160_29 ca_11_93 kd_52 kl_52 (by rfl) (by rfl) (sf_of h0 0 (by decide) (by decide)) (Nat.le_of_ble_eq_true rfl) (Nat.le_of_ble_eq_true rfl)) ?_
    refine lt_cI_c (fun v6 m8 => ?_)
    exact li_iret d160_32 rfl
/-! TransitSeals.book(II)I -/
theorem d163_0 : decode Y163.2.1 0 = .ok (.aload_n 0, 1) := by decide +kernel
theorem d163_1 : decode Y163.2.1 1 = .ok (.getfield 47, 3) := by decide +kernel
theorem d163_4 : decode Y163.2.1 4 = .ok (.getfield 377, 3) := by decide +kernel
theorem d163_7 : decode Y163.2.1 7 = .ok (.iload_n 1, 1) := by decide +kernel
theorem d163_8 : decode Y163.2.1 8 = .ok (.iload_n 2, 1) := by decide +kernel
theorem d163_9 : decode Y163.2.1 9 = .ok (.invokevirtual 381, 3) := by decide +kernel
theorem d163_12 : decode Y163.2.1 12 = .ok (.ireturn, 1) := by decide +kernel
theorem E163 (d : Nat) (a0 : Nat) (x1 : Int32) (x2 : Int32) (h0 : ts_sh a0 = (0, 11)) (m : lt_m) : lt_ev (d + 1) 163 [.inr (.inr (some a0)), .inl x1, .inl x2] m = lt_cI (lt_ev d 164 [.inr (.inr (some ((a0 + 13) + 4))), .inl x1, .inl x2] m) (fun v1 m1 => (some (some (.inl v1), m1))) := by
  refine Eq.trans (lt_enter2 (ls := [some (.inr (.inr (some a0))), some (.inl x1), some (.inl x2)]) hY163 (Nat.le_of_ble_eq_true rfl) (by rfl)) ?_
  refine Eq.trans (li_aload_n d163_0 (by rfl)) ?_
  refine Eq.trans (li_getr d163_1 fa_11_47 h0 rfl rfl rfl (by decide)) ?_
  refine Eq.trans (li_getr d163_4 fa_11_377 (sf_of h0 5 (by decide) (by decide)) rfl rfl rfl (by decide)) ?_
  refine Eq.trans (li_iload_n d163_7 (by rfl)) ?_
  refine Eq.trans (li_iload_n d163_8 (by rfl)) ?_
  refine Eq.trans (li_ivI d163_9 ca_11_381 kd_164 kl_164 (by rfl) (by rfl) (sf_of (sf_of h0 5 (by decide) (by decide)) 3 (by decide) (by decide)) (Nat.le_of_ble_eq_true rfl) (Nat.le_of_ble_eq_true rfl)) ?_
  refine lt_cI_c (fun v1 m1 => ?_)
  exact li_iret d163_12 rfl
/-! TransitSeals$Book.read(II)I -/
theorem d164_0 : decode Y164.2.1 0 = .ok (.iload_n 1, 1) := by decide +kernel
theorem d164_1 : decode Y164.2.1 1 = .ok (.ifCond .lt 11, 3) := by decide +kernel
theorem d164_4 : decode Y164.2.1 4 = .ok (.iload_n 1, 1) := by decide +kernel
theorem d164_5 : decode Y164.2.1 5 = .ok (.aload_n 0, 1) := by decide +kernel
theorem d164_6 : decode Y164.2.1 6 = .ok (.invokevirtual 35, 3) := by decide +kernel
theorem d164_9 : decode Y164.2.1 9 = .ok (.if_icmp .lt 5, 3) := by decide +kernel
theorem d164_12 : decode Y164.2.1 12 = .ok (.iconst (-1), 1) := by decide +kernel
theorem d164_13 : decode Y164.2.1 13 = .ok (.ireturn, 1) := by decide +kernel
theorem d164_14 : decode Y164.2.1 14 = .ok (.aload_n 0, 1) := by decide +kernel
theorem d164_15 : decode Y164.2.1 15 = .ok (.getfield 21, 3) := by decide +kernel
theorem d164_18 : decode Y164.2.1 18 = .ok (.iconst 1, 1) := by decide +kernel
theorem d164_19 : decode Y164.2.1 19 = .ok (.isub, 1) := by decide +kernel
theorem d164_20 : decode Y164.2.1 20 = .ok (.iload_n 1, 1) := by decide +kernel
theorem d164_21 : decode Y164.2.1 21 = .ok (.isub, 1) := by decide +kernel
theorem d164_22 : decode Y164.2.1 22 = .ok (.bipush 30, 2) := by decide +kernel
theorem d164_24 : decode Y164.2.1 24 = .ok (.irem, 1) := by decide +kernel
theorem d164_25 : decode Y164.2.1 25 = .ok (.istore_n 3, 1) := by decide +kernel
theorem d164_26 : decode Y164.2.1 26 = .ok (.iload_n 2, 1) := by decide +kernel
theorem d164_27 : decode Y164.2.1 27 = .ok (.tableswitch 52 0 2 #[25, 34, 43], 25) := by decide +kernel
theorem d164_52 : decode Y164.2.1 52 = .ok (.aload_n 0, 1) := by decide +kernel
theorem d164_53 : decode Y164.2.1 53 = .ok (.getfield 9, 3) := by decide +kernel
theorem d164_56 : decode Y164.2.1 56 = .ok (.iload_n 3, 1) := by decide +kernel
theorem d164_57 : decode Y164.2.1 57 = .ok (.invokestatic 39, 3) := by decide +kernel
theorem d164_60 : decode Y164.2.1 60 = .ok (.ireturn, 1) := by decide +kernel
theorem d164_61 : decode Y164.2.1 61 = .ok (.aload_n 0, 1) := by decide +kernel
theorem d164_62 : decode Y164.2.1 62 = .ok (.getfield 15, 3) := by decide +kernel
theorem d164_65 : decode Y164.2.1 65 = .ok (.iload_n 3, 1) := by decide +kernel
theorem d164_66 : decode Y164.2.1 66 = .ok (.invokestatic 39, 3) := by decide +kernel
theorem d164_69 : decode Y164.2.1 69 = .ok (.ireturn, 1) := by decide +kernel
theorem d164_70 : decode Y164.2.1 70 = .ok (.aload_n 0, 1) := by decide +kernel
theorem d164_71 : decode Y164.2.1 71 = .ok (.getfield 18, 3) := by decide +kernel
theorem d164_74 : decode Y164.2.1 74 = .ok (.iload_n 3, 1) := by decide +kernel
theorem d164_75 : decode Y164.2.1 75 = .ok (.invokestatic 39, 3) := by decide +kernel
theorem d164_78 : decode Y164.2.1 78 = .ok (.ireturn, 1) := by decide +kernel
theorem d164_79 : decode Y164.2.1 79 = .ok (.iconst (-1), 1) := by decide +kernel
theorem d164_80 : decode Y164.2.1 80 = .ok (.ireturn, 1) := by decide +kernel
theorem E164 (d : Nat) (a0 : Nat) (x1 : Int32) (x2 : Int32) (h0 : ts_sh a0 = (0, 0)) (m : lt_m) : lt_ev (d + 1) 164 [.inr (.inr (some a0)), .inl x1, .inl x2] m = if x1 < 0 then (some (some (.inl (-1 : Int32)), m)) else (lt_cI (lt_ev d 165 [.inr (.inr (some a0))] m) (fun v1 m1 => (if x1 < v1 then (lt_sw x2 [(lt_cI (lt_ev d 16 [.inr (.inr (some (a0 + 1))), .inl ((((m1.1 a0 3) - (1 : Int32)) - x1) - (((m1.1 a0 3) - (1 : Int32)) - x1) / (30 : Int32) * (30 : Int32))] m1) (fun v2 m2 => (some (some (.inl v2), m2)))), (lt_cI (lt_ev d 16 [.inr (.inr (some (a0 + 2))), .inl ((((m1.1 a0 3) - (1 : Int32)) - x1) - (((m1.1 a0 3) - (1 : Int32)) - x1) / (30 : Int32) * (30 : Int32))] m1) (fun v3 m3 => (some (some (.inl v3), m3)))), (lt_cI (lt_ev d 16 [.inr (.inr (some (a0 + 3))), .inl ((((m1.1 a0 3) - (1 : Int32)) - x1) - (((m1.1 a0 3) - (1 : Int32)) - x1) / (30 : Int32) * (30 : Int32))] m1) (fun v4 m4 => (some (some (.inl v4), m4))))] (some (some (.inl (-1 : Int32)), m1))) else (some (some (.inl (-1 : Int32)), m1))))) := by
  refine Eq.trans (lt_enter2 (ls := [some (.inr (.inr (some a0))), some (.inl x1), some (.inl x2), none]) hY164 (Nat.le_of_ble_eq_true rfl) (by rfl)) ?_
  refine Eq.trans (li_iload_n d164_0 (by rfl)) ?_
  refine Eq.trans (li_if_lt (t := 12) d164_1 (by rfl)) ?_
  refine lt_ite (fun c1 => ?_) (fun c1 => ?_)
  · refine Eq.trans (li_iconst d164_12 ic_n1) ?_
    exact li_iret d164_13 rfl
  · refine Eq.trans (li_iload_n d164_4 (by rfl)) ?_
    refine Eq.trans (li_aload_n d164_5 (by rfl)) ?_
    refine Eq.trans (li_ivI d164_6 ca_0_35 kd_165 kl_165 (by rfl) (by rfl) h0 (Nat.le_of_ble_eq_true rfl) (Nat.le_of_ble_eq_true rfl)) ?_
    refine lt_cI_c (fun v1 m1 => ?_)
    refine Eq.trans (li_icmp_lt (t := 14) d164_9 (by rfl)) ?_
    refine lt_ite (fun c2 => ?_) (fun c2 => ?_)
    · refine Eq.trans (li_aload_n d164_14 (by rfl)) ?_
      refine Eq.trans (li_geti d164_15 fa_0_21 h0 rfl) ?_
      refine Eq.trans (li_iconst d164_18 ic_1) ?_
      refine Eq.trans (li_isub d164_19) ?_
      refine Eq.trans (li_iload_n d164_20 (by rfl)) ?_
      refine Eq.trans (li_isub d164_21) ?_
      refine Eq.trans (li_bipush d164_22 bi_30) ?_
      refine Eq.trans (li_irem d164_24) ?_
      refine Eq.trans (lt_gd_t (by decide)) ?_
      refine Eq.trans (li_istore_n (ls' := [some (.inr (.inr (some a0))), some (.inl x1), some (.inl x2), some (.inl ((((m1.1 a0 3) - (1 : Int32)) - x1) - (((m1.1 a0 3) - (1 : Int32)) - x1) / (30 : Int32) * (30 : Int32)))]) d164_25 (by decide) (by rfl)) ?_
      refine Eq.trans (li_iload_n d164_26 (by rfl)) ?_
      refine Eq.trans (li_tsw (n := 2) (td := 79) (ts := [52, 61, 70]) d164_27 (by decide) (by decide) (by rfl)) ?_
      refine lt_sw_c ?_ ?_
      · simp only [List.map_cons, List.map_nil]
        refine lt_l2 ?_ (lt_l2 ?_ (lt_l2 ?_ (rfl)))
        · refine Eq.trans (li_aload_n d164_52 (by rfl)) ?_
          refine Eq.trans (li_getr d164_53 fa_0_9 h0 rfl rfl rfl (by decide)) ?_
          refine Eq.trans (li_iload_n d164_56 (by rfl)) ?_
          refine Eq.trans (li_isI d164_57 bi_0_39 ca_0_39 kd_16 (by rfl) (by rfl) (Nat.le_of_ble_eq_true rfl) (Nat.le_of_ble_eq_true rfl)) ?_
          refine lt_cI_c (fun v2 m2 => ?_)
          exact li_iret d164_60 rfl
        · refine Eq.trans (li_aload_n d164_61 (by rfl)) ?_
          refine Eq.trans (li_getr d164_62 fa_0_15 h0 rfl rfl rfl (by decide)) ?_
          refine Eq.trans (li_iload_n d164_65 (by rfl)) ?_
          refine Eq.trans (li_isI d164_66 bi_0_39 ca_0_39 kd_16 (by rfl) (by rfl) (Nat.le_of_ble_eq_true rfl) (Nat.le_of_ble_eq_true rfl)) ?_
          refine lt_cI_c (fun v3 m3 => ?_)
          exact li_iret d164_69 rfl
        · refine Eq.trans (li_aload_n d164_70 (by rfl)) ?_
          refine Eq.trans (li_getr d164_71 fa_0_18 h0 rfl rfl rfl (by decide)) ?_
          refine Eq.trans (li_iload_n d164_74 (by rfl)) ?_
          refine Eq.trans (li_isI d164_75 bi_0_39 ca_0_39 kd_16 (by rfl) (by rfl) (Nat.le_of_ble_eq_true rfl) (Nat.le_of_ble_eq_true rfl)) ?_
          refine lt_cI_c (fun v4 m4 => ?_)
          exact li_iret d164_78 rfl
      · refine Eq.trans (li_iconst d164_79 ic_n1) ?_
        exact li_iret d164_80 rfl
    · refine Eq.trans (li_iconst d164_12 ic_n1) ?_
      exact li_iret d164_13 rfl
/-! TransitSeals$Book.size()I -/
theorem d165_0 : decode Y165.2.1 0 = .ok (.aload_n 0, 1) := by decide +kernel
theorem d165_1 : decode Y165.2.1 1 = .ok (.getfield 21, 3) := by decide +kernel
theorem d165_4 : decode Y165.2.1 4 = .ok (.bipush 30, 2) := by decide +kernel
theorem d165_6 : decode Y165.2.1 6 = .ok (.invokestatic 25, 3) := by decide +kernel
theorem d165_9 : decode Y165.2.1 9 = .ok (.ireturn, 1) := by decide +kernel
theorem E165 (d : Nat) (a0 : Nat) (h0 : ts_sh a0 = (0, 0)) (m : lt_m) : lt_ev (d + 1) 165 [.inr (.inr (some a0))] m = some (some (.inl (lm_min (m.1 a0 3) (30 : Int32))), m) := by
  refine Eq.trans (lt_enter2 (ls := [some (.inr (.inr (some a0)))]) hY165 (Nat.le_of_ble_eq_true rfl) (by rfl)) ?_
  refine Eq.trans (li_aload_n d165_0 (by rfl)) ?_
  refine Eq.trans (li_geti d165_1 fa_0_21 h0 rfl) ?_
  refine Eq.trans (li_bipush d165_4 bi_30) ?_
  refine Eq.trans (li_min d165_6 bi_0_25 (Nat.le_of_ble_eq_true rfl)) ?_
  exact li_iret d165_9 rfl
/-! TransitSeals.undo()I -/
theorem d167_0 : decode Y167.2.1 0 = .ok (.aload_n 0, 1) := by decide +kernel
theorem d167_1 : decode Y167.2.1 1 = .ok (.getfield 54, 3) := by decide +kernel
theorem d167_4 : decode Y167.2.1 4 = .ok (.aload_n 0, 1) := by decide +kernel
theorem d167_5 : decode Y167.2.1 5 = .ok (.getfield 47, 3) := by decide +kernel
theorem d167_8 : decode Y167.2.1 8 = .ok (.invokevirtual 392, 3) := by decide +kernel
theorem d167_11 : decode Y167.2.1 11 = .ok (.ifCond .eq 13, 3) := by decide +kernel
theorem d167_14 : decode Y167.2.1 14 = .ok (.aload_n 0, 1) := by decide +kernel
theorem d167_15 : decode Y167.2.1 15 = .ok (.getfield 54, 3) := by decide +kernel
theorem d167_18 : decode Y167.2.1 18 = .ok (.getfield 396, 3) := by decide +kernel
theorem d167_21 : decode Y167.2.1 21 = .ok (.goto 5, 3) := by decide +kernel
theorem d167_24 : decode Y167.2.1 24 = .ok (.bipush (-2), 2) := by decide +kernel
theorem d167_26 : decode Y167.2.1 26 = .ok (.ireturn, 1) := by decide +kernel
theorem E167 (d : Nat) (a0 : Nat) (h0 : ts_sh a0 = (0, 11)) (m : lt_m) : lt_ev (d + 1) 167 [.inr (.inr (some a0))] m = lt_cI (lt_ev d 168 [.inr (.inr (some (a0 + 81))), .inr (.inr (some (a0 + 13)))] m) (fun v1 m1 => (if v1 = 0 then (some (some (.inl (-2 : Int32)), m1)) else (some (some (.inl (m1.1 (a0 + 81) 4)), m1)))) := by
  refine Eq.trans (lt_enter2 (ls := [some (.inr (.inr (some a0)))]) hY167 (Nat.le_of_ble_eq_true rfl) (by rfl)) ?_
  refine Eq.trans (li_aload_n d167_0 (by rfl)) ?_
  refine Eq.trans (li_getr d167_1 fa_11_54 h0 rfl rfl rfl (by decide)) ?_
  refine Eq.trans (li_aload_n d167_4 (by rfl)) ?_
  refine Eq.trans (li_getr d167_5 fa_11_47 h0 rfl rfl rfl (by decide)) ?_
  refine Eq.trans (li_ivI d167_8 ca_11_392 kd_168 kl_168 (by rfl) (by rfl) (sf_of h0 6 (by decide) (by decide)) (Nat.le_of_ble_eq_true rfl) (Nat.le_of_ble_eq_true rfl)) ?_
  refine lt_cI_c (fun v1 m1 => ?_)
  refine Eq.trans (li_if_eq (t := 24) d167_11 (by rfl)) ?_
  refine lt_ite (fun c1 => ?_) (fun c1 => ?_)
  · refine Eq.trans (li_bipush d167_24 bi_n2) ?_
    exact li_iret d167_26 rfl
  · refine Eq.trans (li_aload_n d167_14 (by rfl)) ?_
    refine Eq.trans (li_getr d167_15 fa_11_54 h0 rfl rfl rfl (by decide)) ?_
    refine Eq.trans (li_geti d167_18 fa_11_396 (sf_of h0 6 (by decide) (by decide)) rfl) ?_
    refine Eq.trans (li_goto (t := 26) d167_21 (by rfl)) ?_
    exact li_iret d167_26 rfl
/-! TransitSeals$History.takeBack(LTransitSeals$Ledger;)Z -/
theorem d168_0 : decode Y168.2.1 0 = .ok (.aload_n 0, 1) := by decide +kernel
theorem d168_1 : decode Y168.2.1 1 = .ok (.invokevirtual 39, 3) := by decide +kernel
theorem d168_4 : decode Y168.2.1 4 = .ok (.astore_n 2, 1) := by decide +kernel
theorem d168_5 : decode Y168.2.1 5 = .ok (.aload_n 0, 1) := by decide +kernel
theorem d168_6 : decode Y168.2.1 6 = .ok (.getfield 22, 3) := by decide +kernel
theorem d168_9 : decode Y168.2.1 9 = .ok (.ifCond .eq 7, 3) := by decide +kernel
theorem d168_12 : decode Y168.2.1 12 = .ok (.aload_n 2, 1) := by decide +kernel
theorem d168_13 : decode Y168.2.1 13 = .ok (.ifnonnull 5, 3) := by decide +kernel
theorem d168_16 : decode Y168.2.1 16 = .ok (.iconst 0, 1) := by decide +kernel
theorem d168_17 : decode Y168.2.1 17 = .ok (.ireturn, 1) := by decide +kernel
theorem d168_18 : decode Y168.2.1 18 = .ok (.aload_n 1, 1) := by decide +kernel
theorem d168_19 : decode Y168.2.1 19 = .ok (.aload_n 2, 1) := by decide +kernel
theorem d168_20 : decode Y168.2.1 20 = .ok (.invokevirtual 43, 3) := by decide +kernel
theorem d168_23 : decode Y168.2.1 23 = .ok (.aload_n 0, 1) := by decide +kernel
theorem d168_24 : decode Y168.2.1 24 = .ok (.aload_n 0, 1) := by decide +kernel
theorem d168_25 : decode Y168.2.1 25 = .ok (.getfield 30, 3) := by decide +kernel
theorem d168_28 : decode Y168.2.1 28 = .ok (.bipush 8, 2) := by decide +kernel
theorem d168_30 : decode Y168.2.1 30 = .ok (.iadd, 1) := by decide +kernel
theorem d168_31 : decode Y168.2.1 31 = .ok (.iconst 1, 1) := by decide +kernel
theorem d168_32 : decode Y168.2.1 32 = .ok (.isub, 1) := by decide +kernel
theorem d168_33 : decode Y168.2.1 33 = .ok (.bipush 8, 2) := by decide +kernel
theorem d168_35 : decode Y168.2.1 35 = .ok (.irem, 1) := by decide +kernel
theorem d168_36 : decode Y168.2.1 36 = .ok (.putfield 30, 3) := by decide +kernel
theorem d168_39 : decode Y168.2.1 39 = .ok (.aload_n 0, 1) := by decide +kernel
theorem d168_40 : decode Y168.2.1 40 = .ok (.dup, 1) := by decide +kernel
theorem d168_41 : decode Y168.2.1 41 = .ok (.getfield 22, 3) := by decide +kernel
theorem d168_44 : decode Y168.2.1 44 = .ok (.iconst 1, 1) := by decide +kernel
theorem d168_45 : decode Y168.2.1 45 = .ok (.isub, 1) := by decide +kernel
theorem d168_46 : decode Y168.2.1 46 = .ok (.putfield 22, 3) := by decide +kernel
theorem d168_49 : decode Y168.2.1 49 = .ok (.iconst 1, 1) := by decide +kernel
theorem d168_50 : decode Y168.2.1 50 = .ok (.ireturn, 1) := by decide +kernel
theorem E168 (d : Nat) (a0 : Nat) (a1 : Nat) (h0 : ts_sh a0 = (0, 1)) (h1 : ts_sh a1 = (0, 2)) (m : lt_m) : lt_ev (d + 1) 168 [.inr (.inr (some a0)), .inr (.inr (some a1))] m = lt_cR (lt_ev d 82 [.inr (.inr (some a0))] m) (fun v1 m1 => (if (m1.1 a0 4) = 0 then (some (some (.inl (0 : Int32)), m1)) else (lt_nl v1 (some (some (.inl (0 : Int32)), m1)) (fun q1 => (lt_cV (lt_ev d 83 [.inr (.inr (some a1)), .inr (.inr (some q1))] m1) (fun m2 => (lt_let (lm_i (lm_i m2 a0 3 ((((m2.1 a0 3) + (8 : Int32)) - (1 : Int32)) - (((m2.1 a0 3) + (8 : Int32)) - (1 : Int32)) / (8 : Int32) * (8 : Int32))) a0 4 (((lm_i m2 a0 3 ((((m2.1 a0 3) + (8 : Int32)) - (1 : Int32)) - (((m2.1 a0 3) + (8 : Int32)) - (1 : Int32)) / (8 : Int32) * (8 : Int32))).1 a0 4) - (1 : Int32))) (fun m3 => (some (some (.inl (1 : Int32)), m3)))))))))) := by
  refine Eq.trans (lt_enter2 (ls := [some (.inr (.inr (some a0))), some (.inr (.inr (some a1))), none]) hY168 (Nat.le_of_ble_eq_true rfl) (by rfl)) ?_
  refine Eq.trans (li_aload_n d168_0 (by rfl)) ?_
  refine Eq.trans (li_ivR d168_1 ca_1_39 kd_82 kl_82 (by rfl) (by rfl) h0 (Nat.le_of_ble_eq_true rfl) (Nat.le_of_ble_eq_true rfl)) ?_
  refine lt_cR_c (fun v1 m1 => ?_)
  refine Eq.trans (li_astore_n (ls' := [some (.inr (.inr (some a0))), some (.inr (.inr (some a1))), some (.inr (.inr v1))]) d168_4 (by decide) (by rfl)) ?_
  refine Eq.trans (li_aload_n d168_5 (by rfl)) ?_
  refine Eq.trans (li_geti d168_6 fa_1_22 h0 rfl) ?_
  refine Eq.trans (li_if_eq (t := 16) d168_9 (by rfl)) ?_
  refine lt_ite (fun c1 => ?_) (fun c1 => ?_)
  · refine Eq.trans (li_iconst d168_16 ic_0) ?_
    exact li_zret d168_17 rfl (by decide)
  · refine Eq.trans (li_aload_n d168_12 (by rfl)) ?_
    refine lt_nl_x (F := fun oz => lt_run d Y168 13 [some (.inr (.inr (some a0))), some (.inr (.inr (some a1))), some (.inr (.inr oz))] [.inr (.inr oz)] m1) ?_ (fun q1 => ?_)
    · refine Eq.trans (li_ifnonnull_n d168_13) ?_
      refine Eq.trans (li_iconst d168_16 ic_0) ?_
      exact li_zret d168_17 rfl (by decide)
    · refine Eq.trans (li_ifnonnull_s (t := 18) d168_13 (by rfl)) ?_
      refine Eq.trans (li_aload_n d168_18 (by rfl)) ?_
      refine Eq.trans (li_aload_n d168_19 (by rfl)) ?_
      refine Eq.trans (li_ivV d168_20 ca_1_43 kd_83 kl_83 (by rfl) (by rfl) h1 (Nat.le_of_ble_eq_true rfl) (Nat.le_of_ble_eq_true rfl)) ?_
      refine lt_cV_c (fun m2 => ?_)
      refine Eq.trans (li_aload_n d168_23 (by rfl)) ?_
      refine Eq.trans (li_aload_n d168_24 (by rfl)) ?_
      refine Eq.trans (li_geti d168_25 fa_1_30 h0 rfl) ?_
      refine Eq.trans (li_bipush d168_28 bi_8) ?_
      refine Eq.trans (li_iadd d168_30) ?_
      refine Eq.trans (li_iconst d168_31 ic_1) ?_
      refine Eq.trans (li_isub d168_32) ?_
      refine Eq.trans (li_bipush d168_33 bi_8) ?_
      refine Eq.trans (li_irem d168_35) ?_
      refine Eq.trans (lt_gd_t (by decide)) ?_
      refine Eq.trans (li_puti d168_36 fa_1_30 h0 rfl rfl) ?_
      refine Eq.trans (li_aload_n d168_39 (by rfl)) ?_
      refine Eq.trans (li_dup d168_40 rfl) ?_
      refine Eq.trans (li_geti d168_41 fa_1_22 h0 rfl) ?_
      refine Eq.trans (li_iconst d168_44 ic_1) ?_
      refine Eq.trans (li_isub d168_45) ?_
      refine Eq.trans (li_puti d168_46 fa_1_22 h0 rfl rfl) ?_
      refine lt_let_x (F := fun m3 => lt_run d Y168 49 [some (.inr (.inr (some a0))), some (.inr (.inr (some a1))), some (.inr (.inr (some q1)))] [] m3) (fun m3 => ?_)
      refine Eq.trans (li_iconst d168_49 ic_1) ?_
      exact li_zret d168_50 rfl (by decide)
/-! TransitSeals.keeps()I -/
theorem d169_0 : decode Y169.2.1 0 = .ok (.aload_n 0, 1) := by decide +kernel
theorem d169_1 : decode Y169.2.1 1 = .ok (.getfield 54, 3) := by decide +kernel
theorem d169_4 : decode Y169.2.1 4 = .ok (.aload_n 0, 1) := by decide +kernel
theorem d169_5 : decode Y169.2.1 5 = .ok (.getfield 47, 3) := by decide +kernel
theorem d169_8 : decode Y169.2.1 8 = .ok (.invokevirtual 399, 3) := by decide +kernel
theorem d169_11 : decode Y169.2.1 11 = .ok (.aload_n 0, 1) := by decide +kernel
theorem d169_12 : decode Y169.2.1 12 = .ok (.getfield 47, 3) := by decide +kernel
theorem d169_15 : decode Y169.2.1 15 = .ok (.getfield 223, 3) := by decide +kernel
theorem d169_18 : decode Y169.2.1 18 = .ok (.ireturn, 1) := by decide +kernel
theorem E169 (d : Nat) (a0 : Nat) (h0 : ts_sh a0 = (0, 11)) (m : lt_m) : lt_ev (d + 1) 169 [.inr (.inr (some a0))] m = lt_cV (lt_ev d 170 [.inr (.inr (some (a0 + 81))), .inr (.inr (some (a0 + 13)))] m) (fun m1 => (some (some (.inl (m1.1 (a0 + 13) 4)), m1))) := by
  refine Eq.trans (lt_enter2 (ls := [some (.inr (.inr (some a0)))]) hY169 (Nat.le_of_ble_eq_true rfl) (by rfl)) ?_
  refine Eq.trans (li_aload_n d169_0 (by rfl)) ?_
  refine Eq.trans (li_getr d169_1 fa_11_54 h0 rfl rfl rfl (by decide)) ?_
  refine Eq.trans (li_aload_n d169_4 (by rfl)) ?_
  refine Eq.trans (li_getr d169_5 fa_11_47 h0 rfl rfl rfl (by decide)) ?_
  refine Eq.trans (li_ivV d169_8 ca_11_399 kd_170 kl_170 (by rfl) (by rfl) (sf_of h0 6 (by decide) (by decide)) (Nat.le_of_ble_eq_true rfl) (Nat.le_of_ble_eq_true rfl)) ?_
  refine lt_cV_c (fun m1 => ?_)
  refine Eq.trans (li_aload_n d169_11 (by rfl)) ?_
  refine Eq.trans (li_getr d169_12 fa_11_47 h0 rfl rfl rfl (by decide)) ?_
  refine Eq.trans (li_geti d169_15 fa_11_223 (sf_of h0 5 (by decide) (by decide)) rfl) ?_
  exact li_iret d169_18 rfl
/-! TransitSeals$History.keep(LTransitSeals$Ledger;)V -/
theorem d170_0 : decode Y170.2.1 0 = .ok (.aload_n 0, 1) := by decide +kernel
theorem d170_1 : decode Y170.2.1 1 = .ok (.getfield 18, 3) := by decide +kernel
theorem d170_4 : decode Y170.2.1 4 = .ok (.aload_n 1, 1) := by decide +kernel
theorem d170_5 : decode Y170.2.1 5 = .ok (.invokevirtual 43, 3) := by decide +kernel
theorem d170_8 : decode Y170.2.1 8 = .ok (.aload_n 0, 1) := by decide +kernel
theorem d170_9 : decode Y170.2.1 9 = .ok (.iconst 1, 1) := by decide +kernel
theorem d170_10 : decode Y170.2.1 10 = .ok (.putfield 26, 3) := by decide +kernel
theorem d170_13 : decode Y170.2.1 13 = .ok (.return_, 1) := by decide +kernel
theorem E170 (d : Nat) (a0 : Nat) (a1 : Nat) (h0 : ts_sh a0 = (0, 1)) (h1 : ts_sh a1 = (0, 2)) (m : lt_m) : lt_ev (d + 1) 170 [.inr (.inr (some a0)), .inr (.inr (some a1))] m = lt_cV (lt_ev d 83 [.inr (.inr (some (a0 + 2))), .inr (.inr (some a1))] m) (fun m1 => (some (none, (lm_i m1 a0 2 (1 : Int32))))) := by
  refine Eq.trans (lt_enter2 (ls := [some (.inr (.inr (some a0))), some (.inr (.inr (some a1)))]) hY170 (Nat.le_of_ble_eq_true rfl) (by rfl)) ?_
  refine Eq.trans (li_aload_n d170_0 (by rfl)) ?_
  refine Eq.trans (li_getr d170_1 fa_1_18 h0 rfl rfl rfl (by decide)) ?_
  refine Eq.trans (li_aload_n d170_4 (by rfl)) ?_
  refine Eq.trans (li_ivV d170_5 ca_1_43 kd_83 kl_83 (by rfl) (by rfl) (sf_of h0 1 (by decide) (by decide)) (Nat.le_of_ble_eq_true rfl) (Nat.le_of_ble_eq_true rfl)) ?_
  refine lt_cV_c (fun m1 => ?_)
  refine Eq.trans (li_aload_n d170_8 (by rfl)) ?_
  refine Eq.trans (li_iconst d170_9 ic_1) ?_
  refine Eq.trans (li_putz d170_10 fa_1_26 h0 rfl rfl) ?_
  refine Eq.trans (lt_gd_t (by decide)) ?_
  exact li_vret d170_13 rfl
/-! TransitSeals.back()I -/
theorem d171_0 : decode Y171.2.1 0 = .ok (.aload_n 0, 1) := by decide +kernel
theorem d171_1 : decode Y171.2.1 1 = .ok (.getfield 54, 3) := by decide +kernel
theorem d171_4 : decode Y171.2.1 4 = .ok (.aload_n 0, 1) := by decide +kernel
theorem d171_5 : decode Y171.2.1 5 = .ok (.getfield 47, 3) := by decide +kernel
theorem d171_8 : decode Y171.2.1 8 = .ok (.invokevirtual 402, 3) := by decide +kernel
theorem d171_11 : decode Y171.2.1 11 = .ok (.ifCond .eq 13, 3) := by decide +kernel
theorem d171_14 : decode Y171.2.1 14 = .ok (.aload_n 0, 1) := by decide +kernel
theorem d171_15 : decode Y171.2.1 15 = .ok (.getfield 47, 3) := by decide +kernel
theorem d171_18 : decode Y171.2.1 18 = .ok (.getfield 223, 3) := by decide +kernel
theorem d171_21 : decode Y171.2.1 21 = .ok (.goto 5, 3) := by decide +kernel
theorem d171_24 : decode Y171.2.1 24 = .ok (.bipush (-2), 2) := by decide +kernel
theorem d171_26 : decode Y171.2.1 26 = .ok (.ireturn, 1) := by decide +kernel
theorem E171 (d : Nat) (a0 : Nat) (h0 : ts_sh a0 = (0, 11)) (m : lt_m) : lt_ev (d + 1) 171 [.inr (.inr (some a0))] m = lt_cI (lt_ev d 172 [.inr (.inr (some (a0 + 81))), .inr (.inr (some (a0 + 13)))] m) (fun v1 m1 => (if v1 = 0 then (some (some (.inl (-2 : Int32)), m1)) else (some (some (.inl (m1.1 (a0 + 13) 4)), m1)))) := by
  refine Eq.trans (lt_enter2 (ls := [some (.inr (.inr (some a0)))]) hY171 (Nat.le_of_ble_eq_true rfl) (by rfl)) ?_
  refine Eq.trans (li_aload_n d171_0 (by rfl)) ?_
  refine Eq.trans (li_getr d171_1 fa_11_54 h0 rfl rfl rfl (by decide)) ?_
  refine Eq.trans (li_aload_n d171_4 (by rfl)) ?_
  refine Eq.trans (li_getr d171_5 fa_11_47 h0 rfl rfl rfl (by decide)) ?_
  refine Eq.trans (li_ivI d171_8 ca_11_402 kd_172 kl_172 (by rfl) (by rfl) (sf_of h0 6 (by decide) (by decide)) (Nat.le_of_ble_eq_true rfl) (Nat.le_of_ble_eq_true rfl)) ?_
  refine lt_cI_c (fun v1 m1 => ?_)
  refine Eq.trans (li_if_eq (t := 24) d171_11 (by rfl)) ?_
  refine lt_ite (fun c1 => ?_) (fun c1 => ?_)
  · refine Eq.trans (li_bipush d171_24 bi_n2) ?_
    exact li_iret d171_26 rfl
  · refine Eq.trans (li_aload_n d171_14 (by rfl)) ?_
    refine Eq.trans (li_getr d171_15 fa_11_47 h0 rfl rfl rfl (by decide)) ?_
    refine Eq.trans (li_geti d171_18 fa_11_223 (sf_of h0 5 (by decide) (by decide)) rfl) ?_
    refine Eq.trans (li_goto (t := 26) d171_21 (by rfl)) ?_
    exact li_iret d171_26 rfl
/-! TransitSeals$History.bringBack(LTransitSeals$Ledger;)Z -/
theorem d172_0 : decode Y172.2.1 0 = .ok (.aload_n 0, 1) := by decide +kernel
theorem d172_1 : decode Y172.2.1 1 = .ok (.getfield 26, 3) := by decide +kernel
theorem d172_4 : decode Y172.2.1 4 = .ok (.ifCond .ne 5, 3) := by decide +kernel
theorem d172_7 : decode Y172.2.1 7 = .ok (.iconst 0, 1) := by decide +kernel
theorem d172_8 : decode Y172.2.1 8 = .ok (.ireturn, 1) := by decide +kernel
theorem d172_9 : decode Y172.2.1 9 = .ok (.aload_n 0, 1) := by decide +kernel
theorem d172_10 : decode Y172.2.1 10 = .ok (.aload_n 1, 1) := by decide +kernel
theorem d172_11 : decode Y172.2.1 11 = .ok (.invokevirtual 47, 3) := by decide +kernel
theorem d172_14 : decode Y172.2.1 14 = .ok (.aload_n 1, 1) := by decide +kernel
theorem d172_15 : decode Y172.2.1 15 = .ok (.aload_n 0, 1) := by decide +kernel
theorem d172_16 : decode Y172.2.1 16 = .ok (.getfield 18, 3) := by decide +kernel
theorem d172_19 : decode Y172.2.1 19 = .ok (.invokevirtual 43, 3) := by decide +kernel
theorem d172_22 : decode Y172.2.1 22 = .ok (.iconst 1, 1) := by decide +kernel
theorem d172_23 : decode Y172.2.1 23 = .ok (.ireturn, 1) := by decide +kernel
theorem E172 (d : Nat) (a0 : Nat) (a1 : Nat) (h0 : ts_sh a0 = (0, 1)) (h1 : ts_sh a1 = (0, 2)) (m : lt_m) : lt_ev (d + 1) 172 [.inr (.inr (some a0)), .inr (.inr (some a1))] m = if ¬ (m.1 a0 2) = 0 then (lt_cV (lt_ev d 81 [.inr (.inr (some a0)), .inr (.inr (some a1))] m) (fun m1 => (lt_cV (lt_ev d 83 [.inr (.inr (some a1)), .inr (.inr (some (a0 + 2)))] m1) (fun m2 => (some (some (.inl (1 : Int32)), m2)))))) else (some (some (.inl (0 : Int32)), m)) := by
  refine Eq.trans (lt_enter2 (ls := [some (.inr (.inr (some a0))), some (.inr (.inr (some a1)))]) hY172 (Nat.le_of_ble_eq_true rfl) (by rfl)) ?_
  refine Eq.trans (li_aload_n d172_0 (by rfl)) ?_
  refine Eq.trans (li_geti d172_1 fa_1_26 h0 rfl) ?_
  refine Eq.trans (li_if_ne (t := 9) d172_4 (by rfl)) ?_
  refine lt_ite (fun c1 => ?_) (fun c1 => ?_)
  · refine Eq.trans (li_aload_n d172_9 (by rfl)) ?_
    refine Eq.trans (li_aload_n d172_10 (by rfl)) ?_
    refine Eq.trans (li_ivV d172_11 ca_1_47 kd_81 kl_81 (by rfl) (by rfl) h0 (Nat.le_of_ble_eq_true rfl) (Nat.le_of_ble_eq_true rfl)) ?_
    refine lt_cV_c (fun m1 => ?_)
    refine Eq.trans (li_aload_n d172_14 (by rfl)) ?_
    refine Eq.trans (li_aload_n d172_15 (by rfl)) ?_
    refine Eq.trans (li_getr d172_16 fa_1_18 h0 rfl rfl rfl (by decide)) ?_
    refine Eq.trans (li_ivV d172_19 ca_1_43 kd_83 kl_83 (by rfl) (by rfl) h1 (Nat.le_of_ble_eq_true rfl) (Nat.le_of_ble_eq_true rfl)) ?_
    refine lt_cV_c (fun m2 => ?_)
    refine Eq.trans (li_iconst d172_22 ic_1) ?_
    exact li_zret d172_23 rfl (by decide)
  · refine Eq.trans (li_iconst d172_7 ic_0) ?_
    exact li_zret d172_8 rfl (by decide)
/-! TransitSeals.count(I)I -/
theorem d173_0 : decode Y173.2.1 0 = .ok (.iload_n 1, 1) := by decide +kernel
theorem d173_1 : decode Y173.2.1 1 = .ok (.tableswitch 153 0 10 #[59, 67, 75, 83, 91, 99, 107, 115, 126, 134, 145], 59) := by decide +kernel
theorem d173_60 : decode Y173.2.1 60 = .ok (.aload_n 0, 1) := by decide +kernel
theorem d173_61 : decode Y173.2.1 61 = .ok (.getfield 47, 3) := by decide +kernel
theorem d173_64 : decode Y173.2.1 64 = .ok (.getfield 223, 3) := by decide +kernel
theorem d173_67 : decode Y173.2.1 67 = .ok (.ireturn, 1) := by decide +kernel
theorem d173_68 : decode Y173.2.1 68 = .ok (.aload_n 0, 1) := by decide +kernel
theorem d173_69 : decode Y173.2.1 69 = .ok (.getfield 61, 3) := by decide +kernel
theorem d173_72 : decode Y173.2.1 72 = .ok (.getfield 101, 3) := by decide +kernel
theorem d173_75 : decode Y173.2.1 75 = .ok (.ireturn, 1) := by decide +kernel
theorem d173_76 : decode Y173.2.1 76 = .ok (.aload_n 0, 1) := by decide +kernel
theorem d173_77 : decode Y173.2.1 77 = .ok (.getfield 61, 3) := by decide +kernel
theorem d173_80 : decode Y173.2.1 80 = .ok (.getfield 405, 3) := by decide +kernel
theorem d173_83 : decode Y173.2.1 83 = .ok (.ireturn, 1) := by decide +kernel
theorem d173_84 : decode Y173.2.1 84 = .ok (.aload_n 0, 1) := by decide +kernel
theorem d173_85 : decode Y173.2.1 85 = .ok (.getfield 61, 3) := by decide +kernel
theorem d173_88 : decode Y173.2.1 88 = .ok (.getfield 408, 3) := by decide +kernel
theorem d173_91 : decode Y173.2.1 91 = .ok (.ireturn, 1) := by decide +kernel
theorem d173_92 : decode Y173.2.1 92 = .ok (.aload_n 0, 1) := by decide +kernel
theorem d173_93 : decode Y173.2.1 93 = .ok (.getfield 47, 3) := by decide +kernel
theorem d173_96 : decode Y173.2.1 96 = .ok (.getfield 165, 3) := by decide +kernel
theorem d173_99 : decode Y173.2.1 99 = .ok (.ireturn, 1) := by decide +kernel
theorem d173_100 : decode Y173.2.1 100 = .ok (.aload_n 0, 1) := by decide +kernel
theorem d173_101 : decode Y173.2.1 101 = .ok (.getfield 47, 3) := by decide +kernel
theorem d173_104 : decode Y173.2.1 104 = .ok (.getfield 230, 3) := by decide +kernel
theorem d173_107 : decode Y173.2.1 107 = .ok (.ireturn, 1) := by decide +kernel
theorem d173_108 : decode Y173.2.1 108 = .ok (.aload_n 0, 1) := by decide +kernel
theorem d173_109 : decode Y173.2.1 109 = .ok (.getfield 54, 3) := by decide +kernel
theorem d173_112 : decode Y173.2.1 112 = .ok (.getfield 396, 3) := by decide +kernel
theorem d173_115 : decode Y173.2.1 115 = .ok (.ireturn, 1) := by decide +kernel
theorem d173_116 : decode Y173.2.1 116 = .ok (.aload_n 0, 1) := by decide +kernel
theorem d173_117 : decode Y173.2.1 117 = .ok (.getfield 47, 3) := by decide +kernel
theorem d173_120 : decode Y173.2.1 120 = .ok (.getfield 377, 3) := by decide +kernel
theorem d173_123 : decode Y173.2.1 123 = .ok (.invokevirtual 409, 3) := by decide +kernel
theorem d173_126 : decode Y173.2.1 126 = .ok (.ireturn, 1) := by decide +kernel
theorem d173_127 : decode Y173.2.1 127 = .ok (.aload_n 0, 1) := by decide +kernel
theorem d173_128 : decode Y173.2.1 128 = .ok (.getfield 19, 3) := by decide +kernel
theorem d173_131 : decode Y173.2.1 131 = .ok (.invokevirtual 410, 3) := by decide +kernel
theorem d173_134 : decode Y173.2.1 134 = .ok (.ireturn, 1) := by decide +kernel
theorem d173_135 : decode Y173.2.1 135 = .ok (.aload_n 0, 1) := by decide +kernel
theorem d173_136 : decode Y173.2.1 136 = .ok (.getfield 10, 3) := by decide +kernel
theorem d173_139 : decode Y173.2.1 139 = .ok (.getfield 68, 3) := by decide +kernel
theorem d173_142 : decode Y173.2.1 142 = .ok (.invokevirtual 72, 3) := by decide +kernel
theorem d173_145 : decode Y173.2.1 145 = .ok (.ireturn, 1) := by decide +kernel
theorem d173_146 : decode Y173.2.1 146 = .ok (.aload_n 0, 1) := by decide +kernel
theorem d173_147 : decode Y173.2.1 147 = .ok (.getfield 47, 3) := by decide +kernel
theorem d173_150 : decode Y173.2.1 150 = .ok (.invokevirtual 263, 3) := by decide +kernel
theorem d173_153 : decode Y173.2.1 153 = .ok (.ireturn, 1) := by decide +kernel
theorem d173_154 : decode Y173.2.1 154 = .ok (.iconst (-1), 1) := by decide +kernel
theorem d173_155 : decode Y173.2.1 155 = .ok (.ireturn, 1) := by decide +kernel
theorem E173 (d : Nat) (a0 : Nat) (x1 : Int32) (h0 : ts_sh a0 = (0, 11)) (m : lt_m) : lt_ev (d + 1) 173 [.inr (.inr (some a0)), .inl x1] m = lt_sw x1 [(some (some (.inl (m.1 (a0 + 13) 4)), m)), (lt_gd (ts_sh (m.2.2.1) = (0, 5)) (some (some (.inl (m.1 (m.2.2.1) 6)), m))), (lt_gd (ts_sh (m.2.2.1) = (0, 5)) (some (some (.inl (m.1 (m.2.2.1) 7)), m))), (lt_gd (ts_sh (m.2.2.1) = (0, 5)) (some (some (.inl (m.1 (m.2.2.1) 8)), m))), (some (some (.inl (m.1 (a0 + 13) 5)), m)), (some (some (.inl (m.1 (a0 + 13) 6)), m)), (some (some (.inl (m.1 (a0 + 81) 4)), m)), (lt_cI (lt_ev d 165 [.inr (.inr (some ((a0 + 13) + 4)))] m) (fun v1 m1 => (some (some (.inl v1), m1)))), (lt_cI (lt_ev d 174 [.inr (.inr (some (a0 + 4)))] m) (fun v2 m2 => (some (some (.inl v2), m2)))), (lt_cI (lt_ev d 27 [.inr (.inr (some ((a0 + 1) + 1)))] m) (fun v3 m3 => (some (some (.inl v3), m3)))), (lt_cI (lt_ev d 118 [.inr (.inr (some (a0 + 13)))] m) (fun v4 m4 => (some (some (.inl v4), m4))))] (some (some (.inl (-1 : Int32)), m)) := by
  refine Eq.trans (lt_enter2 (ls := [some (.inr (.inr (some a0))), some (.inl x1)]) hY173 (Nat.le_of_ble_eq_true rfl) (by rfl)) ?_
  refine Eq.trans (li_iload_n d173_0 (by rfl)) ?_
  refine Eq.trans (li_tsw (n := 10) (td := 154) (ts := [60, 68, 76, 84, 92, 100, 108, 116, 127, 135, 146]) d173_1 (by decide) (by decide) (by rfl)) ?_
  refine lt_sw_c ?_ ?_
  · simp only [List.map_cons, List.map_nil]
    refine lt_l2 ?_ (lt_l2 ?_ (lt_l2 ?_ (lt_l2 ?_ (lt_l2 ?_ (lt_l2 ?_ (lt_l2 ?_ (lt_l2 ?_ (lt_l2 ?_ (lt_l2 ?_ (lt_l2 ?_ (rfl)))))))))))
    · refine Eq.trans (li_aload_n d173_60 (by rfl)) ?_
      refine Eq.trans (li_getr d173_61 fa_11_47 h0 rfl rfl rfl (by decide)) ?_
      refine Eq.trans (li_geti d173_64 fa_11_223 (sf_of h0 5 (by decide) (by decide)) rfl) ?_
      exact li_iret d173_67 rfl
    · refine Eq.trans (li_aload_n d173_68 (by rfl)) ?_
      refine Eq.trans (li_getnet d173_69 fa_11_61 h0) ?_
      refine Eq.trans (li_gget d173_72 fa_11_101) ?_
      refine lt_gd_c (fun g1 => ?_)
      refine Eq.trans (li_geti d173_72 fa_11_101 g1 rfl) ?_
      exact li_iret d173_75 rfl
    · refine Eq.trans (li_aload_n d173_76 (by rfl)) ?_
      refine Eq.trans (li_getnet d173_77 fa_11_61 h0) ?_
      refine Eq.trans (li_gget d173_80 fa_11_405) ?_
      refine lt_gd_c (fun g2 => ?_)
      refine Eq.trans (li_geti d173_80 fa_11_405 g2 rfl) ?_
      exact li_iret d173_83 rfl
    · refine Eq.trans (li_aload_n d173_84 (by rfl)) ?_
      refine Eq.trans (li_getnet d173_85 fa_11_61 h0) ?_
      refine Eq.trans (li_gget d173_88 fa_11_408) ?_
      refine lt_gd_c (fun g3 => ?_)
      refine Eq.trans (li_geti d173_88 fa_11_408 g3 rfl) ?_
      exact li_iret d173_91 rfl
    · refine Eq.trans (li_aload_n d173_92 (by rfl)) ?_
      refine Eq.trans (li_getr d173_93 fa_11_47 h0 rfl rfl rfl (by decide)) ?_
      refine Eq.trans (li_geti d173_96 fa_11_165 (sf_of h0 5 (by decide) (by decide)) rfl) ?_
      exact li_iret d173_99 rfl
    · refine Eq.trans (li_aload_n d173_100 (by rfl)) ?_
      refine Eq.trans (li_getr d173_101 fa_11_47 h0 rfl rfl rfl (by decide)) ?_
      refine Eq.trans (li_geti d173_104 fa_11_230 (sf_of h0 5 (by decide) (by decide)) rfl) ?_
      exact li_iret d173_107 rfl
    · refine Eq.trans (li_aload_n d173_108 (by rfl)) ?_
      refine Eq.trans (li_getr d173_109 fa_11_54 h0 rfl rfl rfl (by decide)) ?_
      refine Eq.trans (li_geti d173_112 fa_11_396 (sf_of h0 6 (by decide) (by decide)) rfl) ?_
      exact li_iret d173_115 rfl
    · refine Eq.trans (li_aload_n d173_116 (by rfl)) ?_
      refine Eq.trans (li_getr d173_117 fa_11_47 h0 rfl rfl rfl (by decide)) ?_
      refine Eq.trans (li_getr d173_120 fa_11_377 (sf_of h0 5 (by decide) (by decide)) rfl rfl rfl (by decide)) ?_
      refine Eq.trans (li_ivI d173_123 ca_11_409 kd_165 kl_165 (by rfl) (by rfl) (sf_of (sf_of h0 5 (by decide) (by decide)) 3 (by decide) (by decide)) (Nat.le_of_ble_eq_true rfl) (Nat.le_of_ble_eq_true rfl)) ?_
      refine lt_cI_c (fun v1 m1 => ?_)
      exact li_iret d173_126 rfl
    · refine Eq.trans (li_aload_n d173_127 (by rfl)) ?_
      refine Eq.trans (li_getr d173_128 fa_11_19 h0 rfl rfl rfl (by decide)) ?_
      refine Eq.trans (li_ivI d173_131 ca_11_410 kd_174 kl_174 (by rfl) (by rfl) (sf_of h0 1 (by decide) (by decide)) (Nat.le_of_ble_eq_true rfl) (Nat.le_of_ble_eq_true rfl)) ?_
      refine lt_cI_c (fun v2 m2 => ?_)
      exact li_iret d173_134 rfl
    · refine Eq.trans (li_aload_n d173_135 (by rfl)) ?_
      refine Eq.trans (li_getr d173_136 fa_11_10 h0 rfl rfl rfl (by decide)) ?_
      refine Eq.trans (li_getr d173_139 fa_11_68 (sf_of h0 0 (by decide) (by decide)) rfl rfl rfl (by decide)) ?_
      refine Eq.trans (li_ivI d173_142 ca_11_72 kd_27 kl_27 (by rfl) (by rfl) (sf_of (sf_of h0 0 (by decide) (by decide)) 0 (by decide) (by decide)) (Nat.le_of_ble_eq_true rfl) (Nat.le_of_ble_eq_true rfl)) ?_
      refine lt_cI_c (fun v3 m3 => ?_)
      exact li_iret d173_145 rfl
    · refine Eq.trans (li_aload_n d173_146 (by rfl)) ?_
      refine Eq.trans (li_getr d173_147 fa_11_47 h0 rfl rfl rfl (by decide)) ?_
      refine Eq.trans (li_ivI d173_150 ca_11_263 kd_118 kl_118 (by rfl) (by rfl) (sf_of h0 5 (by decide) (by decide)) (Nat.le_of_ble_eq_true rfl) (Nat.le_of_ble_eq_true rfl)) ?_
      refine lt_cI_c (fun v4 m4 => ?_)
      exact li_iret d173_153 rfl
  · refine Eq.trans (li_iconst d173_154 ic_n1) ?_
    exact li_iret d173_155 rfl
/-! TransitSeals$Row.size()I -/
theorem d174_0 : decode Y174.2.1 0 = .ok (.aload_n 0, 1) := by decide +kernel
theorem d174_1 : decode Y174.2.1 1 = .ok (.getfield 15, 3) := by decide +kernel
theorem d174_4 : decode Y174.2.1 4 = .ok (.ireturn, 1) := by decide +kernel
theorem E174 (d : Nat) (a0 : Nat) (h0 : ts_sh a0 = (0, 8)) (m : lt_m) : lt_ev (d + 1) 174 [.inr (.inr (some a0))] m = some (some (.inl (m.1 a0 1)), m) := by
  refine Eq.trans (lt_enter2 (ls := [some (.inr (.inr (some a0)))]) hY174 (Nat.le_of_ble_eq_true rfl) (by rfl)) ?_
  refine Eq.trans (li_aload_n d174_0 (by rfl)) ?_
  refine Eq.trans (li_geti d174_1 fa_8_15 h0 rfl) ?_
  exact li_iret d174_4 rfl
/-! TransitSeals$Row.numberAt(I)I -/
theorem d176_0 : decode Y176.2.1 0 = .ok (.aload_n 0, 1) := by decide +kernel
theorem d176_1 : decode Y176.2.1 1 = .ok (.getfield 9, 3) := by decide +kernel
theorem d176_4 : decode Y176.2.1 4 = .ok (.iload_n 1, 1) := by decide +kernel
theorem d176_5 : decode Y176.2.1 5 = .ok (.invokestatic 23, 3) := by decide +kernel
theorem d176_8 : decode Y176.2.1 8 = .ok (.ireturn, 1) := by decide +kernel
theorem E176 (d : Nat) (a0 : Nat) (x1 : Int32) (h0 : ts_sh a0 = (0, 8)) (m : lt_m) : lt_ev (d + 1) 176 [.inr (.inr (some a0)), .inl x1] m = lt_cI (lt_ev d 16 [.inr (.inr (some (a0 + 1))), .inl x1] m) (fun v1 m1 => (some (some (.inl v1), m1))) := by
  refine Eq.trans (lt_enter2 (ls := [some (.inr (.inr (some a0))), some (.inl x1)]) hY176 (Nat.le_of_ble_eq_true rfl) (by rfl)) ?_
  refine Eq.trans (li_aload_n d176_0 (by rfl)) ?_
  refine Eq.trans (li_getr d176_1 fa_8_9 h0 rfl rfl rfl (by decide)) ?_
  refine Eq.trans (li_iload_n d176_4 (by rfl)) ?_
  refine Eq.trans (li_isI d176_5 bi_8_23 ca_8_23 kd_16 (by rfl) (by rfl) (Nat.le_of_ble_eq_true rfl) (Nat.le_of_ble_eq_true rfl)) ?_
  refine lt_cI_c (fun v1 m1 => ?_)
  exact li_iret d176_8 rfl
/-! TransitSealsLaw.holds(LTransitSeals;I)Z -/
theorem d177_0 : decode Y177.2.1 0 = .ok (.aload_n 0, 1) := by decide +kernel
theorem d177_1 : decode Y177.2.1 1 = .ok (.iconst 5, 1) := by decide +kernel
theorem d177_2 : decode Y177.2.1 2 = .ok (.invokevirtual 27, 3) := by decide +kernel
theorem d177_5 : decode Y177.2.1 5 = .ok (.istore_n 2, 1) := by decide +kernel
theorem d177_6 : decode Y177.2.1 6 = .ok (.aload_n 0, 1) := by decide +kernel
theorem d177_7 : decode Y177.2.1 7 = .ok (.iconst 0, 1) := by decide +kernel
theorem d177_8 : decode Y177.2.1 8 = .ok (.invokevirtual 27, 3) := by decide +kernel
theorem d177_11 : decode Y177.2.1 11 = .ok (.istore_n 3, 1) := by decide +kernel
theorem d177_12 : decode Y177.2.1 12 = .ok (.iconst 0, 1) := by decide +kernel
theorem d177_13 : decode Y177.2.1 13 = .ok (.istore 4, 2) := by decide +kernel
theorem d177_15 : decode Y177.2.1 15 = .ok (.iconst 0, 1) := by decide +kernel
theorem d177_16 : decode Y177.2.1 16 = .ok (.istore 5, 2) := by decide +kernel
theorem d177_18 : decode Y177.2.1 18 = .ok (.iconst 0, 1) := by decide +kernel
theorem d177_19 : decode Y177.2.1 19 = .ok (.istore 6, 2) := by decide +kernel
theorem d177_21 : decode Y177.2.1 21 = .ok (.iconst 0, 1) := by decide +kernel
theorem d177_22 : decode Y177.2.1 22 = .ok (.istore 7, 2) := by decide +kernel
theorem d177_24 : decode Y177.2.1 24 = .ok (.iconst 0, 1) := by decide +kernel
theorem d177_25 : decode Y177.2.1 25 = .ok (.istore 8, 2) := by decide +kernel
theorem d177_27 : decode Y177.2.1 27 = .ok (.aload_n 0, 1) := by decide +kernel
theorem d177_28 : decode Y177.2.1 28 = .ok (.invokevirtual 30, 3) := by decide +kernel
theorem d177_31 : decode Y177.2.1 31 = .ok (.istore 9, 2) := by decide +kernel
theorem d177_33 : decode Y177.2.1 33 = .ok (.iconst 0, 1) := by decide +kernel
theorem d177_34 : decode Y177.2.1 34 = .ok (.istore 10, 2) := by decide +kernel
theorem d177_36 : decode Y177.2.1 36 = .ok (.iload 10, 2) := by decide +kernel
theorem d177_38 : decode Y177.2.1 38 = .ok (.bipush 6, 2) := by decide +kernel
theorem d177_40 : decode Y177.2.1 40 = .ok (.if_icmp .ge 101, 3) := by decide +kernel
theorem d177_43 : decode Y177.2.1 43 = .ok (.aload_n 0, 1) := by decide +kernel
theorem d177_44 : decode Y177.2.1 44 = .ok (.iload 10, 2) := by decide +kernel
theorem d177_46 : decode Y177.2.1 46 = .ok (.invokevirtual 33, 3) := by decide +kernel
theorem d177_49 : decode Y177.2.1 49 = .ok (.istore 11, 2) := by decide +kernel
theorem d177_51 : decode Y177.2.1 51 = .ok (.iload 4, 2) := by decide +kernel
theorem d177_53 : decode Y177.2.1 53 = .ok (.iload 11, 2) := by decide +kernel
theorem d177_55 : decode Y177.2.1 55 = .ok (.iand, 1) := by decide +kernel
theorem d177_56 : decode Y177.2.1 56 = .ok (.ifCond .ne 18, 3) := by decide +kernel
theorem d177_59 : decode Y177.2.1 59 = .ok (.aload_n 0, 1) := by decide +kernel
theorem d177_60 : decode Y177.2.1 60 = .ok (.iconst 0, 1) := by decide +kernel
theorem d177_61 : decode Y177.2.1 61 = .ok (.invokevirtual 36, 3) := by decide +kernel
theorem d177_64 : decode Y177.2.1 64 = .ok (.iload 11, 2) := by decide +kernel
theorem d177_66 : decode Y177.2.1 66 = .ok (.invokestatic 40, 3) := by decide +kernel
theorem d177_69 : decode Y177.2.1 69 = .ok (.i2l, 1) := by decide +kernel
theorem d177_70 : decode Y177.2.1 70 = .ok (.lcmp, 1) := by decide +kernel
theorem d177_71 : decode Y177.2.1 71 = .ok (.ifCond .eq 5, 3) := by decide +kernel
theorem d177_74 : decode Y177.2.1 74 = .ok (.iconst 0, 1) := by decide +kernel
theorem d177_75 : decode Y177.2.1 75 = .ok (.ireturn, 1) := by decide +kernel
theorem d177_76 : decode Y177.2.1 76 = .ok (.iload 4, 2) := by decide +kernel
theorem d177_78 : decode Y177.2.1 78 = .ok (.iload 11, 2) := by decide +kernel
theorem d177_80 : decode Y177.2.1 80 = .ok (.ior, 1) := by decide +kernel
theorem d177_81 : decode Y177.2.1 81 = .ok (.istore 4, 2) := by decide +kernel
theorem d177_83 : decode Y177.2.1 83 = .ok (.iload 10, 2) := by decide +kernel
theorem d177_85 : decode Y177.2.1 85 = .ok (.iconst 2, 1) := by decide +kernel
theorem d177_86 : decode Y177.2.1 86 = .ok (.if_icmp .eq 21, 3) := by decide +kernel
theorem d177_89 : decode Y177.2.1 89 = .ok (.iload 10, 2) := by decide +kernel
theorem d177_91 : decode Y177.2.1 91 = .ok (.iconst 5, 1) := by decide +kernel
theorem d177_92 : decode Y177.2.1 92 = .ok (.if_icmp .eq 15, 3) := by decide +kernel
theorem d177_95 : decode Y177.2.1 95 = .ok (.iload 5, 2) := by decide +kernel
theorem d177_97 : decode Y177.2.1 97 = .ok (.i2l, 1) := by decide +kernel
theorem d177_98 : decode Y177.2.1 98 = .ok (.aload_n 0, 1) := by decide +kernel
theorem d177_99 : decode Y177.2.1 99 = .ok (.iconst 1, 1) := by decide +kernel
theorem d177_100 : decode Y177.2.1 100 = .ok (.invokevirtual 36, 3) := by decide +kernel
theorem d177_103 : decode Y177.2.1 103 = .ok (.ladd, 1) := by decide +kernel
theorem d177_104 : decode Y177.2.1 104 = .ok (.l2i, 1) := by decide +kernel
theorem d177_105 : decode Y177.2.1 105 = .ok (.istore 5, 2) := by decide +kernel
theorem d177_107 : decode Y177.2.1 107 = .ok (.iload 10, 2) := by decide +kernel
theorem d177_109 : decode Y177.2.1 109 = .ok (.ifCond .ne 15, 3) := by decide +kernel
theorem d177_112 : decode Y177.2.1 112 = .ok (.iload 9, 2) := by decide +kernel
theorem d177_114 : decode Y177.2.1 114 = .ok (.iload 11, 2) := by decide +kernel
theorem d177_116 : decode Y177.2.1 116 = .ok (.iconst (-1), 1) := by decide +kernel
theorem d177_117 : decode Y177.2.1 117 = .ok (.ixor, 1) := by decide +kernel
theorem d177_118 : decode Y177.2.1 118 = .ok (.iand, 1) := by decide +kernel
theorem d177_119 : decode Y177.2.1 119 = .ok (.ifCond .eq 5, 3) := by decide +kernel
theorem d177_122 : decode Y177.2.1 122 = .ok (.iconst 0, 1) := by decide +kernel
theorem d177_123 : decode Y177.2.1 123 = .ok (.ireturn, 1) := by decide +kernel
theorem d177_124 : decode Y177.2.1 124 = .ok (.iload 7, 2) := by decide +kernel
theorem d177_126 : decode Y177.2.1 126 = .ok (.aload_n 0, 1) := by decide +kernel
theorem d177_127 : decode Y177.2.1 127 = .ok (.iload 10, 2) := by decide +kernel
theorem d177_129 : decode Y177.2.1 129 = .ok (.invokevirtual 45, 3) := by decide +kernel
theorem d177_132 : decode Y177.2.1 132 = .ok (.iadd, 1) := by decide +kernel
theorem d177_133 : decode Y177.2.1 133 = .ok (.istore 7, 2) := by decide +kernel
theorem d177_135 : decode Y177.2.1 135 = .ok (.iinc 10 1, 3) := by decide +kernel
theorem d177_138 : decode Y177.2.1 138 = .ok (.goto (-102), 3) := by decide +kernel
theorem d177_141 : decode Y177.2.1 141 = .ok (.iload 4, 2) := by decide +kernel
theorem d177_143 : decode Y177.2.1 143 = .ok (.iconst 1, 1) := by decide +kernel
theorem d177_144 : decode Y177.2.1 144 = .ok (.iload_n 2, 1) := by decide +kernel
theorem d177_145 : decode Y177.2.1 145 = .ok (.ishl, 1) := by decide +kernel
theorem d177_146 : decode Y177.2.1 146 = .ok (.iconst 1, 1) := by decide +kernel
theorem d177_147 : decode Y177.2.1 147 = .ok (.isub, 1) := by decide +kernel
theorem d177_148 : decode Y177.2.1 148 = .ok (.if_icmp .eq 5, 3) := by decide +kernel
theorem d177_151 : decode Y177.2.1 151 = .ok (.iconst 0, 1) := by decide +kernel
theorem d177_152 : decode Y177.2.1 152 = .ok (.ireturn, 1) := by decide +kernel
theorem d177_153 : decode Y177.2.1 153 = .ok (.iconst 0, 1) := by decide +kernel
theorem d177_154 : decode Y177.2.1 154 = .ok (.istore 10, 2) := by decide +kernel
theorem d177_156 : decode Y177.2.1 156 = .ok (.iload 10, 2) := by decide +kernel
theorem d177_158 : decode Y177.2.1 158 = .ok (.iload_n 1, 1) := by decide +kernel
theorem d177_159 : decode Y177.2.1 159 = .ok (.if_icmp .ge 138, 3) := by decide +kernel
theorem d177_162 : decode Y177.2.1 162 = .ok (.aload_n 0, 1) := by decide +kernel
theorem d177_163 : decode Y177.2.1 163 = .ok (.iload 10, 2) := by decide +kernel
theorem d177_165 : decode Y177.2.1 165 = .ok (.invokevirtual 48, 3) := by decide +kernel
theorem d177_168 : decode Y177.2.1 168 = .ok (.istore 11, 2) := by decide +kernel
theorem d177_170 : decode Y177.2.1 170 = .ok (.iload 11, 2) := by decide +kernel
theorem d177_172 : decode Y177.2.1 172 = .ok (.i2l, 1) := by decide +kernel
theorem d177_173 : decode Y177.2.1 173 = .ok (.aload_n 0, 1) := by decide +kernel
theorem d177_174 : decode Y177.2.1 174 = .ok (.iconst 0, 1) := by decide +kernel
theorem d177_175 : decode Y177.2.1 175 = .ok (.invokevirtual 36, 3) := by decide +kernel
theorem d177_178 : decode Y177.2.1 178 = .ok (.lcmp, 1) := by decide +kernel
theorem d177_179 : decode Y177.2.1 179 = .ok (.ifCond .gt 21, 3) := by decide +kernel
theorem d177_182 : decode Y177.2.1 182 = .ok (.aload_n 0, 1) := by decide +kernel
theorem d177_183 : decode Y177.2.1 183 = .ok (.iconst 2, 1) := by decide +kernel
theorem d177_184 : decode Y177.2.1 184 = .ok (.invokevirtual 36, 3) := by decide +kernel
theorem d177_187 : decode Y177.2.1 187 = .ok (.aload_n 0, 1) := by decide +kernel
theorem d177_188 : decode Y177.2.1 188 = .ok (.iconst 0, 1) := by decide +kernel
theorem d177_189 : decode Y177.2.1 189 = .ok (.invokevirtual 36, 3) := by decide +kernel
theorem d177_192 : decode Y177.2.1 192 = .ok (.iload 11, 2) := by decide +kernel
theorem d177_194 : decode Y177.2.1 194 = .ok (.i2l, 1) := by decide +kernel
theorem d177_195 : decode Y177.2.1 195 = .ok (.lsub, 1) := by decide +kernel
theorem d177_196 : decode Y177.2.1 196 = .ok (.lcmp, 1) := by decide +kernel
theorem d177_197 : decode Y177.2.1 197 = .ok (.ifCond .eq 5, 3) := by decide +kernel
theorem d177_200 : decode Y177.2.1 200 = .ok (.iconst 0, 1) := by decide +kernel
theorem d177_201 : decode Y177.2.1 201 = .ok (.ireturn, 1) := by decide +kernel
theorem d177_202 : decode Y177.2.1 202 = .ok (.aload_n 0, 1) := by decide +kernel
theorem d177_203 : decode Y177.2.1 203 = .ok (.iconst 2, 1) := by decide +kernel
theorem d177_204 : decode Y177.2.1 204 = .ok (.invokevirtual 36, 3) := by decide +kernel
theorem d177_207 : decode Y177.2.1 207 = .ok (.lstore 12, 2) := by decide +kernel
theorem d177_209 : decode Y177.2.1 209 = .ok (.iload 6, 2) := by decide +kernel
theorem d177_211 : decode Y177.2.1 211 = .ok (.iload 11, 2) := by decide +kernel
theorem d177_213 : decode Y177.2.1 213 = .ok (.iadd, 1) := by decide +kernel
theorem d177_214 : decode Y177.2.1 214 = .ok (.istore 6, 2) := by decide +kernel
theorem d177_216 : decode Y177.2.1 216 = .ok (.iload 8, 2) := by decide +kernel
theorem d177_218 : decode Y177.2.1 218 = .ok (.aload_n 0, 1) := by decide +kernel
theorem d177_219 : decode Y177.2.1 219 = .ok (.iload 10, 2) := by decide +kernel
theorem d177_221 : decode Y177.2.1 221 = .ok (.invokevirtual 51, 3) := by decide +kernel
theorem d177_224 : decode Y177.2.1 224 = .ok (.iadd, 1) := by decide +kernel
theorem d177_225 : decode Y177.2.1 225 = .ok (.istore 8, 2) := by decide +kernel
theorem d177_227 : decode Y177.2.1 227 = .ok (.aload_n 0, 1) := by decide +kernel
theorem d177_228 : decode Y177.2.1 228 = .ok (.iload 10, 2) := by decide +kernel
theorem d177_230 : decode Y177.2.1 230 = .ok (.iconst 0, 1) := by decide +kernel
theorem d177_231 : decode Y177.2.1 231 = .ok (.invokevirtual 54, 3) := by decide +kernel
theorem d177_234 : decode Y177.2.1 234 = .ok (.istore 14, 2) := by decide +kernel
theorem d177_236 : decode Y177.2.1 236 = .ok (.aload_n 0, 1) := by decide +kernel
theorem d177_237 : decode Y177.2.1 237 = .ok (.iconst 0, 1) := by decide +kernel
theorem d177_238 : decode Y177.2.1 238 = .ok (.invokevirtual 36, 3) := by decide +kernel
theorem d177_241 : decode Y177.2.1 241 = .ok (.lload 12, 2) := by decide +kernel
theorem d177_243 : decode Y177.2.1 243 = .ok (.lcmp, 1) := by decide +kernel
theorem d177_244 : decode Y177.2.1 244 = .ok (.ifCond .le 5, 3) := by decide +kernel
theorem d177_247 : decode Y177.2.1 247 = .ok (.iconst 0, 1) := by decide +kernel
theorem d177_248 : decode Y177.2.1 248 = .ok (.ireturn, 1) := by decide +kernel
theorem d177_249 : decode Y177.2.1 249 = .ok (.iload 14, 2) := by decide +kernel
theorem d177_251 : decode Y177.2.1 251 = .ok (.ifCond .lt 38, 3) := by decide +kernel
theorem d177_254 : decode Y177.2.1 254 = .ok (.aload_n 0, 1) := by decide +kernel
theorem d177_255 : decode Y177.2.1 255 = .ok (.iload 10, 2) := by decide +kernel
theorem d177_257 : decode Y177.2.1 257 = .ok (.lload 12, 2) := by decide +kernel
theorem d177_259 : decode Y177.2.1 259 = .ok (.l2i, 1) := by decide +kernel
theorem d177_260 : decode Y177.2.1 260 = .ok (.invokevirtual 58, 3) := by decide +kernel
theorem d177_263 : decode Y177.2.1 263 = .ok (.ifCond .ne 26, 3) := by decide +kernel
theorem d177_266 : decode Y177.2.1 266 = .ok (.aload_n 0, 1) := by decide +kernel
theorem d177_267 : decode Y177.2.1 267 = .ok (.iconst 0, 1) := by decide +kernel
theorem d177_268 : decode Y177.2.1 268 = .ok (.invokevirtual 36, 3) := by decide +kernel
theorem d177_271 : decode Y177.2.1 271 = .ok (.lconst 0, 1) := by decide +kernel
theorem d177_272 : decode Y177.2.1 272 = .ok (.lcmp, 1) := by decide +kernel
theorem d177_273 : decode Y177.2.1 273 = .ok (.ifCond .ne 16, 3) := by decide +kernel
theorem d177_276 : decode Y177.2.1 276 = .ok (.aload_n 0, 1) := by decide +kernel
theorem d177_277 : decode Y177.2.1 277 = .ok (.iload 10, 2) := by decide +kernel
theorem d177_279 : decode Y177.2.1 279 = .ok (.lload 12, 2) := by decide +kernel
theorem d177_281 : decode Y177.2.1 281 = .ok (.l2i, 1) := by decide +kernel
theorem d177_282 : decode Y177.2.1 282 = .ok (.invokevirtual 61, 3) := by decide +kernel
theorem d177_285 : decode Y177.2.1 285 = .ok (.iload_n 3, 1) := by decide +kernel
theorem d177_286 : decode Y177.2.1 286 = .ok (.if_icmp .eq 5, 3) := by decide +kernel
theorem d177_289 : decode Y177.2.1 289 = .ok (.iconst 0, 1) := by decide +kernel
theorem d177_290 : decode Y177.2.1 290 = .ok (.ireturn, 1) := by decide +kernel
theorem d177_291 : decode Y177.2.1 291 = .ok (.iinc 10 1, 3) := by decide +kernel
theorem d177_294 : decode Y177.2.1 294 = .ok (.goto (-138), 3) := by decide +kernel
theorem d177_297 : decode Y177.2.1 297 = .ok (.iload 6, 2) := by decide +kernel
theorem d177_299 : decode Y177.2.1 299 = .ok (.iload 5, 2) := by decide +kernel
theorem d177_301 : decode Y177.2.1 301 = .ok (.if_icmp .ne 10, 3) := by decide +kernel
theorem d177_304 : decode Y177.2.1 304 = .ok (.iload 7, 2) := by decide +kernel
theorem d177_306 : decode Y177.2.1 306 = .ok (.iload 8, 2) := by decide +kernel
theorem d177_308 : decode Y177.2.1 308 = .ok (.if_icmp .eq 5, 3) := by decide +kernel
theorem d177_311 : decode Y177.2.1 311 = .ok (.iconst 0, 1) := by decide +kernel
theorem d177_312 : decode Y177.2.1 312 = .ok (.ireturn, 1) := by decide +kernel
theorem d177_313 : decode Y177.2.1 313 = .ok (.iconst 0, 1) := by decide +kernel
theorem d177_314 : decode Y177.2.1 314 = .ok (.istore 10, 2) := by decide +kernel
theorem d177_316 : decode Y177.2.1 316 = .ok (.iload 10, 2) := by decide +kernel
theorem d177_318 : decode Y177.2.1 318 = .ok (.iload_n 2, 1) := by decide +kernel
theorem d177_319 : decode Y177.2.1 319 = .ok (.if_icmp .ge 367, 3) := by decide +kernel
theorem d177_322 : decode Y177.2.1 322 = .ok (.aload_n 0, 1) := by decide +kernel
theorem d177_323 : decode Y177.2.1 323 = .ok (.iload 10, 2) := by decide +kernel
theorem d177_325 : decode Y177.2.1 325 = .ok (.iconst 3, 1) := by decide +kernel
theorem d177_326 : decode Y177.2.1 326 = .ok (.invokevirtual 64, 3) := by decide +kernel
theorem d177_329 : decode Y177.2.1 329 = .ok (.istore 11, 2) := by decide +kernel
theorem d177_331 : decode Y177.2.1 331 = .ok (.aload_n 0, 1) := by decide +kernel
theorem d177_332 : decode Y177.2.1 332 = .ok (.iload 10, 2) := by decide +kernel
theorem d177_334 : decode Y177.2.1 334 = .ok (.bipush 7, 2) := by decide +kernel
theorem d177_336 : decode Y177.2.1 336 = .ok (.invokevirtual 64, 3) := by decide +kernel
theorem d177_339 : decode Y177.2.1 339 = .ok (.istore 12, 2) := by decide +kernel
theorem d177_341 : decode Y177.2.1 341 = .ok (.aload_n 0, 1) := by decide +kernel
theorem d177_342 : decode Y177.2.1 342 = .ok (.iload 10, 2) := by decide +kernel
theorem d177_344 : decode Y177.2.1 344 = .ok (.bipush 12, 2) := by decide +kernel
theorem d177_346 : decode Y177.2.1 346 = .ok (.invokevirtual 64, 3) := by decide +kernel
theorem d177_349 : decode Y177.2.1 349 = .ok (.istore 13, 2) := by decide +kernel
theorem d177_351 : decode Y177.2.1 351 = .ok (.aload_n 0, 1) := by decide +kernel
theorem d177_352 : decode Y177.2.1 352 = .ok (.iload 10, 2) := by decide +kernel
theorem d177_354 : decode Y177.2.1 354 = .ok (.bipush 6, 2) := by decide +kernel
theorem d177_356 : decode Y177.2.1 356 = .ok (.invokevirtual 64, 3) := by decide +kernel
theorem d177_359 : decode Y177.2.1 359 = .ok (.istore 14, 2) := by decide +kernel
theorem d177_361 : decode Y177.2.1 361 = .ok (.iconst 0, 1) := by decide +kernel
theorem d177_362 : decode Y177.2.1 362 = .ok (.istore 15, 2) := by decide +kernel
theorem d177_364 : decode Y177.2.1 364 = .ok (.iconst 0, 1) := by decide +kernel
theorem d177_365 : decode Y177.2.1 365 = .ok (.istore 16, 2) := by decide +kernel
theorem d177_367 : decode Y177.2.1 367 = .ok (.iload 16, 2) := by decide +kernel
theorem d177_369 : decode Y177.2.1 369 = .ok (.iload 13, 2) := by decide +kernel
theorem d177_371 : decode Y177.2.1 371 = .ok (.if_icmp .ge 113, 3) := by decide +kernel
theorem d177_374 : decode Y177.2.1 374 = .ok (.aload_n 0, 1) := by decide +kernel
theorem d177_375 : decode Y177.2.1 375 = .ok (.iload 10, 2) := by decide +kernel
theorem d177_377 : decode Y177.2.1 377 = .ok (.iload 16, 2) := by decide +kernel
theorem d177_379 : decode Y177.2.1 379 = .ok (.invokevirtual 67, 3) := by decide +kernel
theorem d177_382 : decode Y177.2.1 382 = .ok (.istore 17, 2) := by decide +kernel
theorem d177_384 : decode Y177.2.1 384 = .ok (.aload_n 0, 1) := by decide +kernel
theorem d177_385 : decode Y177.2.1 385 = .ok (.iconst 0, 1) := by decide +kernel
theorem d177_386 : decode Y177.2.1 386 = .ok (.invokevirtual 36, 3) := by decide +kernel
theorem d177_389 : decode Y177.2.1 389 = .ok (.lstore 18, 2) := by decide +kernel
theorem d177_391 : decode Y177.2.1 391 = .ok (.lload 18, 2) := by decide +kernel
theorem d177_393 : decode Y177.2.1 393 = .ok (.lconst 0, 1) := by decide +kernel
theorem d177_394 : decode Y177.2.1 394 = .ok (.lcmp, 1) := by decide +kernel
theorem d177_395 : decode Y177.2.1 395 = .ok (.ifCond .lt 7, 3) := by decide +kernel
theorem d177_398 : decode Y177.2.1 398 = .ok (.iconst 1, 1) := by decide +kernel
theorem d177_399 : decode Y177.2.1 399 = .ok (.goto 4, 3) := by decide +kernel
theorem d177_402 : decode Y177.2.1 402 = .ok (.iconst 0, 1) := by decide +kernel
theorem d177_403 : decode Y177.2.1 403 = .ok (.iload 16, 2) := by decide +kernel
theorem d177_405 : decode Y177.2.1 405 = .ok (.iload 12, 2) := by decide +kernel
theorem d177_407 : decode Y177.2.1 407 = .ok (.if_icmp .ge 7, 3) := by decide +kernel
theorem d177_410 : decode Y177.2.1 410 = .ok (.iconst 1, 1) := by decide +kernel
theorem d177_411 : decode Y177.2.1 411 = .ok (.goto 4, 3) := by decide +kernel
theorem d177_414 : decode Y177.2.1 414 = .ok (.iconst 0, 1) := by decide +kernel
theorem d177_415 : decode Y177.2.1 415 = .ok (.if_icmp .ne 49, 3) := by decide +kernel
theorem d177_418 : decode Y177.2.1 418 = .ok (.iload 16, 2) := by decide +kernel
theorem d177_420 : decode Y177.2.1 420 = .ok (.iload 12, 2) := by decide +kernel
theorem d177_422 : decode Y177.2.1 422 = .ok (.if_icmp .ge 12, 3) := by decide +kernel
theorem d177_425 : decode Y177.2.1 425 = .ok (.lload 18, 2) := by decide +kernel
theorem d177_427 : decode Y177.2.1 427 = .ok (.iload 15, 2) := by decide +kernel
theorem d177_429 : decode Y177.2.1 429 = .ok (.i2l, 1) := by decide +kernel
theorem d177_430 : decode Y177.2.1 430 = .ok (.lcmp, 1) := by decide +kernel
theorem d177_431 : decode Y177.2.1 431 = .ok (.ifCond .lt 33, 3) := by decide +kernel
theorem d177_434 : decode Y177.2.1 434 = .ok (.lload 18, 2) := by decide +kernel
theorem d177_436 : decode Y177.2.1 436 = .ok (.iload_n 3, 1) := by decide +kernel
theorem d177_437 : decode Y177.2.1 437 = .ok (.i2l, 1) := by decide +kernel
theorem d177_438 : decode Y177.2.1 438 = .ok (.lcmp, 1) := by decide +kernel
theorem d177_439 : decode Y177.2.1 439 = .ok (.ifCond .gt 25, 3) := by decide +kernel
theorem d177_442 : decode Y177.2.1 442 = .ok (.iload 16, 2) := by decide +kernel
theorem d177_444 : decode Y177.2.1 444 = .ok (.iload 12, 2) := by decide +kernel
theorem d177_446 : decode Y177.2.1 446 = .ok (.iconst 1, 1) := by decide +kernel
theorem d177_447 : decode Y177.2.1 447 = .ok (.isub, 1) := by decide +kernel
theorem d177_448 : decode Y177.2.1 448 = .ok (.if_icmp .ne 18, 3) := by decide +kernel
theorem d177_451 : decode Y177.2.1 451 = .ok (.iload 17, 2) := by decide +kernel
theorem d177_453 : decode Y177.2.1 453 = .ok (.aload_n 0, 1) := by decide +kernel
theorem d177_454 : decode Y177.2.1 454 = .ok (.iload 10, 2) := by decide +kernel
theorem d177_456 : decode Y177.2.1 456 = .ok (.bipush 8, 2) := by decide +kernel
theorem d177_458 : decode Y177.2.1 458 = .ok (.invokevirtual 64, 3) := by decide +kernel
theorem d177_461 : decode Y177.2.1 461 = .ok (.if_icmp .eq 5, 3) := by decide +kernel
theorem d177_464 : decode Y177.2.1 464 = .ok (.iconst 0, 1) := by decide +kernel
theorem d177_465 : decode Y177.2.1 465 = .ok (.ireturn, 1) := by decide +kernel
theorem d177_466 : decode Y177.2.1 466 = .ok (.iload 16, 2) := by decide +kernel
theorem d177_468 : decode Y177.2.1 468 = .ok (.iload 12, 2) := by decide +kernel
theorem d177_470 : decode Y177.2.1 470 = .ok (.if_icmp .ge 8, 3) := by decide +kernel
theorem d177_473 : decode Y177.2.1 473 = .ok (.lload 18, 2) := by decide +kernel
theorem d177_475 : decode Y177.2.1 475 = .ok (.l2i, 1) := by decide +kernel
theorem d177_476 : decode Y177.2.1 476 = .ok (.istore 15, 2) := by decide +kernel
theorem d177_478 : decode Y177.2.1 478 = .ok (.iinc 16 1, 3) := by decide +kernel
theorem d177_481 : decode Y177.2.1 481 = .ok (.goto (-114), 3) := by decide +kernel
theorem d177_484 : decode Y177.2.1 484 = .ok (.iload 11, 2) := by decide +kernel
theorem d177_486 : decode Y177.2.1 486 = .ok (.ifCond .ne 9, 3) := by decide +kernel
theorem d177_489 : decode Y177.2.1 489 = .ok (.iload_n 3, 1) := by decide +kernel
theorem d177_490 : decode Y177.2.1 490 = .ok (.iload 14, 2) := by decide +kernel
theorem d177_492 : decode Y177.2.1 492 = .ok (.if_icmp .gt 69, 3) := by decide +kernel
theorem d177_495 : decode Y177.2.1 495 = .ok (.iload 11, 2) := by decide +kernel
theorem d177_497 : decode Y177.2.1 497 = .ok (.iconst 3, 1) := by decide +kernel
theorem d177_498 : decode Y177.2.1 498 = .ok (.if_icmp .ne 18, 3) := by decide +kernel
theorem d177_501 : decode Y177.2.1 501 = .ok (.iload_n 3, 1) := by decide +kernel
theorem d177_502 : decode Y177.2.1 502 = .ok (.iload 14, 2) := by decide +kernel
theorem d177_504 : decode Y177.2.1 504 = .ok (.if_icmp .le 57, 3) := by decide +kernel
theorem d177_507 : decode Y177.2.1 507 = .ok (.iload_n 3, 1) := by decide +kernel
theorem d177_508 : decode Y177.2.1 508 = .ok (.iload 14, 2) := by decide +kernel
theorem d177_510 : decode Y177.2.1 510 = .ok (.bipush 72, 2) := by decide +kernel
theorem d177_512 : decode Y177.2.1 512 = .ok (.iadd, 1) := by decide +kernel
theorem d177_513 : decode Y177.2.1 513 = .ok (.if_icmp .ge 48, 3) := by decide +kernel
theorem d177_516 : decode Y177.2.1 516 = .ok (.iload 11, 2) := by decide +kernel
theorem d177_518 : decode Y177.2.1 518 = .ok (.iconst 1, 1) := by decide +kernel
theorem d177_519 : decode Y177.2.1 519 = .ok (.if_icmp .ne 7, 3) := by decide +kernel
theorem d177_522 : decode Y177.2.1 522 = .ok (.iconst 1, 1) := by decide +kernel
theorem d177_523 : decode Y177.2.1 523 = .ok (.goto 4, 3) := by decide +kernel
theorem d177_526 : decode Y177.2.1 526 = .ok (.iconst 0, 1) := by decide +kernel
theorem d177_527 : decode Y177.2.1 527 = .ok (.iload 11, 2) := by decide +kernel
theorem d177_529 : decode Y177.2.1 529 = .ok (.iconst 1, 1) := by decide +kernel
theorem d177_530 : decode Y177.2.1 530 = .ok (.if_icmp .ne 14, 3) := by decide +kernel
theorem d177_533 : decode Y177.2.1 533 = .ok (.iload 12, 2) := by decide +kernel
theorem d177_535 : decode Y177.2.1 535 = .ok (.iload 13, 2) := by decide +kernel
theorem d177_537 : decode Y177.2.1 537 = .ok (.if_icmp .ne 7, 3) := by decide +kernel
theorem d177_540 : decode Y177.2.1 540 = .ok (.iconst 1, 1) := by decide +kernel
theorem d177_541 : decode Y177.2.1 541 = .ok (.goto 4, 3) := by decide +kernel
theorem d177_544 : decode Y177.2.1 544 = .ok (.iconst 0, 1) := by decide +kernel
theorem d177_545 : decode Y177.2.1 545 = .ok (.if_icmp .ne 16, 3) := by decide +kernel
theorem d177_548 : decode Y177.2.1 548 = .ok (.iload 12, 2) := by decide +kernel
theorem d177_550 : decode Y177.2.1 550 = .ok (.iload 13, 2) := by decide +kernel
theorem d177_552 : decode Y177.2.1 552 = .ok (.if_icmp .ge 11, 3) := by decide +kernel
theorem d177_555 : decode Y177.2.1 555 = .ok (.iload 11, 2) := by decide +kernel
theorem d177_557 : decode Y177.2.1 557 = .ok (.iconst 1, 1) := by decide +kernel
theorem d177_558 : decode Y177.2.1 558 = .ok (.if_icmp .ne 5, 3) := by decide +kernel
theorem d177_561 : decode Y177.2.1 561 = .ok (.iconst 0, 1) := by decide +kernel
theorem d177_562 : decode Y177.2.1 562 = .ok (.ireturn, 1) := by decide +kernel
theorem d177_563 : decode Y177.2.1 563 = .ok (.aload_n 0, 1) := by decide +kernel
theorem d177_564 : decode Y177.2.1 564 = .ok (.iload 10, 2) := by decide +kernel
theorem d177_566 : decode Y177.2.1 566 = .ok (.bipush 10, 2) := by decide +kernel
theorem d177_568 : decode Y177.2.1 568 = .ok (.invokevirtual 64, 3) := by decide +kernel
theorem d177_571 : decode Y177.2.1 571 = .ok (.ifCond .le 7, 3) := by decide +kernel
theorem d177_574 : decode Y177.2.1 574 = .ok (.iconst 1, 1) := by decide +kernel
theorem d177_575 : decode Y177.2.1 575 = .ok (.goto 4, 3) := by decide +kernel
theorem d177_578 : decode Y177.2.1 578 = .ok (.iconst 0, 1) := by decide +kernel
theorem d177_579 : decode Y177.2.1 579 = .ok (.iload 11, 2) := by decide +kernel
theorem d177_581 : decode Y177.2.1 581 = .ok (.iconst 3, 1) := by decide +kernel
theorem d177_582 : decode Y177.2.1 582 = .ok (.if_icmp .le 7, 3) := by decide +kernel
theorem d177_585 : decode Y177.2.1 585 = .ok (.iconst 1, 1) := by decide +kernel
theorem d177_586 : decode Y177.2.1 586 = .ok (.goto 4, 3) := by decide +kernel
theorem d177_589 : decode Y177.2.1 589 = .ok (.iconst 0, 1) := by decide +kernel
theorem d177_590 : decode Y177.2.1 590 = .ok (.if_icmp .ne 32, 3) := by decide +kernel
theorem d177_593 : decode Y177.2.1 593 = .ok (.aload_n 0, 1) := by decide +kernel
theorem d177_594 : decode Y177.2.1 594 = .ok (.iload 10, 2) := by decide +kernel
theorem d177_596 : decode Y177.2.1 596 = .ok (.invokevirtual 70, 3) := by decide +kernel
theorem d177_599 : decode Y177.2.1 599 = .ok (.ifCond .le 7, 3) := by decide +kernel
theorem d177_602 : decode Y177.2.1 602 = .ok (.iconst 1, 1) := by decide +kernel
theorem d177_603 : decode Y177.2.1 603 = .ok (.goto 4, 3) := by decide +kernel
theorem d177_606 : decode Y177.2.1 606 = .ok (.iconst 0, 1) := by decide +kernel
theorem d177_607 : decode Y177.2.1 607 = .ok (.iload 12, 2) := by decide +kernel
theorem d177_609 : decode Y177.2.1 609 = .ok (.iload 13, 2) := by decide +kernel
theorem d177_611 : decode Y177.2.1 611 = .ok (.if_icmp .ge 7, 3) := by decide +kernel
theorem d177_614 : decode Y177.2.1 614 = .ok (.iconst 1, 1) := by decide +kernel
theorem d177_615 : decode Y177.2.1 615 = .ok (.goto 4, 3) := by decide +kernel
theorem d177_618 : decode Y177.2.1 618 = .ok (.iconst 0, 1) := by decide +kernel
theorem d177_619 : decode Y177.2.1 619 = .ok (.if_icmp .eq 5, 3) := by decide +kernel
theorem d177_622 : decode Y177.2.1 622 = .ok (.iconst 0, 1) := by decide +kernel
theorem d177_623 : decode Y177.2.1 623 = .ok (.ireturn, 1) := by decide +kernel
theorem d177_624 : decode Y177.2.1 624 = .ok (.iload 9, 2) := by decide +kernel
theorem d177_626 : decode Y177.2.1 626 = .ok (.iload 10, 2) := by decide +kernel
theorem d177_628 : decode Y177.2.1 628 = .ok (.ishr, 1) := by decide +kernel
theorem d177_629 : decode Y177.2.1 629 = .ok (.iconst 1, 1) := by decide +kernel
theorem d177_630 : decode Y177.2.1 630 = .ok (.iand, 1) := by decide +kernel
theorem d177_631 : decode Y177.2.1 631 = .ok (.iconst 1, 1) := by decide +kernel
theorem d177_632 : decode Y177.2.1 632 = .ok (.if_icmp .ne 17, 3) := by decide +kernel
theorem d177_635 : decode Y177.2.1 635 = .ok (.iload 15, 2) := by decide +kernel
theorem d177_637 : decode Y177.2.1 637 = .ok (.aload_n 0, 1) := by decide +kernel
theorem d177_638 : decode Y177.2.1 638 = .ok (.iload 10, 2) := by decide +kernel
theorem d177_640 : decode Y177.2.1 640 = .ok (.invokevirtual 70, 3) := by decide +kernel
theorem d177_643 : decode Y177.2.1 643 = .ok (.iadd, 1) := by decide +kernel
theorem d177_644 : decode Y177.2.1 644 = .ok (.iload 14, 2) := by decide +kernel
theorem d177_646 : decode Y177.2.1 646 = .ok (.if_icmp .le 32, 3) := by decide +kernel
theorem d177_649 : decode Y177.2.1 649 = .ok (.iload 11, 2) := by decide +kernel
theorem d177_651 : decode Y177.2.1 651 = .ok (.ifCond .ne 29, 3) := by decide +kernel
theorem d177_654 : decode Y177.2.1 654 = .ok (.iload 9, 2) := by decide +kernel
theorem d177_656 : decode Y177.2.1 656 = .ok (.iload 10, 2) := by decide +kernel
theorem d177_658 : decode Y177.2.1 658 = .ok (.ishr, 1) := by decide +kernel
theorem d177_659 : decode Y177.2.1 659 = .ok (.iconst 1, 1) := by decide +kernel
theorem d177_660 : decode Y177.2.1 660 = .ok (.iand, 1) := by decide +kernel
theorem d177_661 : decode Y177.2.1 661 = .ok (.ifCond .ne 19, 3) := by decide +kernel
theorem d177_664 : decode Y177.2.1 664 = .ok (.iload 15, 2) := by decide +kernel
theorem d177_666 : decode Y177.2.1 666 = .ok (.aload_n 0, 1) := by decide +kernel
theorem d177_667 : decode Y177.2.1 667 = .ok (.iload 10, 2) := by decide +kernel
theorem d177_669 : decode Y177.2.1 669 = .ok (.invokevirtual 70, 3) := by decide +kernel
theorem d177_672 : decode Y177.2.1 672 = .ok (.iadd, 1) := by decide +kernel
theorem d177_673 : decode Y177.2.1 673 = .ok (.iload 14, 2) := by decide +kernel
theorem d177_675 : decode Y177.2.1 675 = .ok (.if_icmp .le 5, 3) := by decide +kernel
theorem d177_678 : decode Y177.2.1 678 = .ok (.iconst 0, 1) := by decide +kernel
theorem d177_679 : decode Y177.2.1 679 = .ok (.ireturn, 1) := by decide +kernel
theorem d177_680 : decode Y177.2.1 680 = .ok (.iinc 10 1, 3) := by decide +kernel
theorem d177_683 : decode Y177.2.1 683 = .ok (.goto (-367), 3) := by decide +kernel
theorem d177_686 : decode Y177.2.1 686 = .ok (.iconst 1, 1) := by decide +kernel
theorem d177_687 : decode Y177.2.1 687 = .ok (.ireturn, 1) := by decide +kernel
noncomputable def L177_36 (d : Nat) (a0 : Nat) (x1 : Int32) (x2 : Int32) (x3 : Int32) (x4 : Int32) (x5 : Int32) (x7 : Int32) (x9 : Int32) (x10 : Int32) (o11 : Option ts_V) (m : lt_m) : Option lt_r := lt_run d Y177 36 [some (.inr (.inr (some a0))), some (.inl x1), some (.inl x2), some (.inl x3), some (.inl x4), some (.inl x5), some (.inl (0 : Int32)), some (.inl x7), some (.inl (0 : Int32)), some (.inl x9), some (.inl x10), o11, none, none, none, none, none, none, none, none] [] m
noncomputable def L177_107 (d : Nat) (a0 : Nat) (x1 : Int32) (x2 : Int32) (x3 : Int32) (x4 : Int32) (x5 : Int32) (x7 : Int32) (x9 : Int32) (x10 : Int32) (x11 : Int32) (m : lt_m) : Option lt_r := lt_run d Y177 107 [some (.inr (.inr (some a0))), some (.inl x1), some (.inl x2), some (.inl x3), some (.inl x4), some (.inl x5), some (.inl (0 : Int32)), some (.inl x7), some (.inl (0 : Int32)), some (.inl x9), some (.inl x10), some (.inl x11), none, none, none, none, none, none, none, none] [] m
noncomputable def L177_156 (d : Nat) (a0 : Nat) (x1 : Int32) (x2 : Int32) (x3 : Int32) (x4 : Int32) (x5 : Int32) (x6 : Int32) (x7 : Int32) (x8 : Int32) (x9 : Int32) (x10 : Int32) (o11 : Option ts_V) (o12 : Option ts_V) (o14 : Option ts_V) (m : lt_m) : Option lt_r := lt_run d Y177 156 [some (.inr (.inr (some a0))), some (.inl x1), some (.inl x2), some (.inl x3), some (.inl x4), some (.inl x5), some (.inl x6), some (.inl x7), some (.inl x8), some (.inl x9), some (.inl x10), o11, o12, none, o14, none, none, none, none, none] [] m
noncomputable def L177_316 (d : Nat) (a0 : Nat) (x1 : Int32) (x2 : Int32) (x3 : Int32) (x4 : Int32) (x5 : Int32) (x6 : Int32) (x7 : Int32) (x8 : Int32) (x9 : Int32) (x10 : Int32) (o11 : Option ts_V) (o12 : Option ts_V) (o13 : Option ts_V) (o14 : Option ts_V) (o15 : Option ts_V) (o16 : Option ts_V) (o17 : Option ts_V) (o18 : Option ts_V) (m : lt_m) : Option lt_r := lt_run d Y177 316 [some (.inr (.inr (some a0))), some (.inl x1), some (.inl x2), some (.inl x3), some (.inl x4), some (.inl x5), some (.inl x6), some (.inl x7), some (.inl x8), some (.inl x9), some (.inl x10), o11, o12, o13, o14, o15, o16, o17, o18, none] [] m
noncomputable def L177_367 (d : Nat) (a0 : Nat) (x1 : Int32) (x2 : Int32) (x3 : Int32) (x4 : Int32) (x5 : Int32) (x6 : Int32) (x7 : Int32) (x8 : Int32) (x9 : Int32) (x10 : Int32) (x11 : Int32) (x12 : Int32) (x13 : Int32) (x14 : Int32) (x15 : Int32) (x16 : Int32) (o17 : Option ts_V) (o18 : Option ts_V) (m : lt_m) : Option lt_r := lt_run d Y177 367 [some (.inr (.inr (some a0))), some (.inl x1), some (.inl x2), some (.inl x3), some (.inl x4), some (.inl x5), some (.inl x6), some (.inl x7), some (.inl x8), some (.inl x9), some (.inl x10), some (.inl x11), some (.inl x12), some (.inl x13), some (.inl x14), some (.inl x15), some (.inl x16), o17, o18, none] [] m
noncomputable def L177_403 (d : Nat) (a0 : Nat) (x1 : Int32) (x2 : Int32) (x3 : Int32) (x4 : Int32) (x5 : Int32) (x6 : Int32) (x7 : Int32) (x8 : Int32) (x9 : Int32) (x10 : Int32) (x11 : Int32) (x12 : Int32) (x13 : Int32) (x14 : Int32) (x15 : Int32) (x16 : Int32) (x17 : Int32) (x18 : Int64) (xt0 : Int32) (m : lt_m) : Option lt_r := lt_run d Y177 403 [some (.inr (.inr (some a0))), some (.inl x1), some (.inl x2), some (.inl x3), some (.inl x4), some (.inl x5), some (.inl x6), some (.inl x7), some (.inl x8), some (.inl x9), some (.inl x10), some (.inl x11), some (.inl x12), some (.inl x13), some (.inl x14), some (.inl x15), some (.inl x16), some (.inl x17), some (.inr (.inl x18)), none] [.inl xt0] m
noncomputable def L177_415 (d : Nat) (a0 : Nat) (x1 : Int32) (x2 : Int32) (x3 : Int32) (x4 : Int32) (x5 : Int32) (x6 : Int32) (x7 : Int32) (x8 : Int32) (x9 : Int32) (x10 : Int32) (x11 : Int32) (x12 : Int32) (x13 : Int32) (x14 : Int32) (x15 : Int32) (x16 : Int32) (x17 : Int32) (x18 : Int64) (xt0 : Int32) (xt1 : Int32) (m : lt_m) : Option lt_r := lt_run d Y177 415 [some (.inr (.inr (some a0))), some (.inl x1), some (.inl x2), some (.inl x3), some (.inl x4), some (.inl x5), some (.inl x6), some (.inl x7), some (.inl x8), some (.inl x9), some (.inl x10), some (.inl x11), some (.inl x12), some (.inl x13), some (.inl x14), some (.inl x15), some (.inl x16), some (.inl x17), some (.inr (.inl x18)), none] [.inl xt0, .inl xt1] m
noncomputable def L177_434 (d : Nat) (a0 : Nat) (x1 : Int32) (x2 : Int32) (x3 : Int32) (x4 : Int32) (x5 : Int32) (x6 : Int32) (x7 : Int32) (x8 : Int32) (x9 : Int32) (x10 : Int32) (x11 : Int32) (x12 : Int32) (x13 : Int32) (x14 : Int32) (x15 : Int32) (x16 : Int32) (x17 : Int32) (x18 : Int64) (m : lt_m) : Option lt_r := lt_run d Y177 434 [some (.inr (.inr (some a0))), some (.inl x1), some (.inl x2), some (.inl x3), some (.inl x4), some (.inl x5), some (.inl x6), some (.inl x7), some (.inl x8), some (.inl x9), some (.inl x10), some (.inl x11), some (.inl x12), some (.inl x13), some (.inl x14), some (.inl x15), some (.inl x16), some (.inl x17), some (.inr (.inl x18)), none] [] m
noncomputable def L177_466 (d : Nat) (a0 : Nat) (x1 : Int32) (x2 : Int32) (x3 : Int32) (x4 : Int32) (x5 : Int32) (x6 : Int32) (x7 : Int32) (x8 : Int32) (x9 : Int32) (x10 : Int32) (x11 : Int32) (x12 : Int32) (x13 : Int32) (x14 : Int32) (x15 : Int32) (x16 : Int32) (x17 : Int32) (x18 : Int64) (m : lt_m) : Option lt_r := lt_run d Y177 466 [some (.inr (.inr (some a0))), some (.inl x1), some (.inl x2), some (.inl x3), some (.inl x4), some (.inl x5), some (.inl x6), some (.inl x7), some (.inl x8), some (.inl x9), some (.inl x10), some (.inl x11), some (.inl x12), some (.inl x13), some (.inl x14), some (.inl x15), some (.inl x16), some (.inl x17), some (.inr (.inl x18)), none] [] m
noncomputable def L177_495 (d : Nat) (a0 : Nat) (x1 : Int32) (x2 : Int32) (x3 : Int32) (x4 : Int32) (x5 : Int32) (x6 : Int32) (x7 : Int32) (x8 : Int32) (x9 : Int32) (x10 : Int32) (x11 : Int32) (x12 : Int32) (x13 : Int32) (x14 : Int32) (x15 : Int32) (x16 : Int32) (o17 : Option ts_V) (o18 : Option ts_V) (m : lt_m) : Option lt_r := lt_run d Y177 495 [some (.inr (.inr (some a0))), some (.inl x1), some (.inl x2), some (.inl x3), some (.inl x4), some (.inl x5), some (.inl x6), some (.inl x7), some (.inl x8), some (.inl x9), some (.inl x10), some (.inl x11), some (.inl x12), some (.inl x13), some (.inl x14), some (.inl x15), some (.inl x16), o17, o18, none] [] m
noncomputable def L177_516 (d : Nat) (a0 : Nat) (x1 : Int32) (x2 : Int32) (x3 : Int32) (x4 : Int32) (x5 : Int32) (x6 : Int32) (x7 : Int32) (x8 : Int32) (x9 : Int32) (x10 : Int32) (x11 : Int32) (x12 : Int32) (x13 : Int32) (x14 : Int32) (x15 : Int32) (x16 : Int32) (o17 : Option ts_V) (o18 : Option ts_V) (m : lt_m) : Option lt_r := lt_run d Y177 516 [some (.inr (.inr (some a0))), some (.inl x1), some (.inl x2), some (.inl x3), some (.inl x4), some (.inl x5), some (.inl x6), some (.inl x7), some (.inl x8), some (.inl x9), some (.inl x10), some (.inl x11), some (.inl x12), some (.inl x13), some (.inl x14), some (.inl x15), some (.inl x16), o17, o18, none] [] m
noncomputable def L177_527 (d : Nat) (a0 : Nat) (x1 : Int32) (x2 : Int32) (x3 : Int32) (x4 : Int32) (x5 : Int32) (x6 : Int32) (x7 : Int32) (x8 : Int32) (x9 : Int32) (x10 : Int32) (x11 : Int32) (x12 : Int32) (x13 : Int32) (x14 : Int32) (x15 : Int32) (x16 : Int32) (o17 : Option ts_V) (o18 : Option ts_V) (xt0 : Int32) (m : lt_m) : Option lt_r := lt_run d Y177 527 [some (.inr (.inr (some a0))), some (.inl x1), some (.inl x2), some (.inl x3), some (.inl x4), some (.inl x5), some (.inl x6), some (.inl x7), some (.inl x8), some (.inl x9), some (.inl x10), some (.inl x11), some (.inl x12), some (.inl x13), some (.inl x14), some (.inl x15), some (.inl x16), o17, o18, none] [.inl xt0] m
noncomputable def L177_545 (d : Nat) (a0 : Nat) (x1 : Int32) (x2 : Int32) (x3 : Int32) (x4 : Int32) (x5 : Int32) (x6 : Int32) (x7 : Int32) (x8 : Int32) (x9 : Int32) (x10 : Int32) (x11 : Int32) (x12 : Int32) (x13 : Int32) (x14 : Int32) (x15 : Int32) (x16 : Int32) (o17 : Option ts_V) (o18 : Option ts_V) (xt0 : Int32) (xt1 : Int32) (m : lt_m) : Option lt_r := lt_run d Y177 545 [some (.inr (.inr (some a0))), some (.inl x1), some (.inl x2), some (.inl x3), some (.inl x4), some (.inl x5), some (.inl x6), some (.inl x7), some (.inl x8), some (.inl x9), some (.inl x10), some (.inl x11), some (.inl x12), some (.inl x13), some (.inl x14), some (.inl x15), some (.inl x16), o17, o18, none] [.inl xt0, .inl xt1] m
noncomputable def L177_563 (d : Nat) (a0 : Nat) (x1 : Int32) (x2 : Int32) (x3 : Int32) (x4 : Int32) (x5 : Int32) (x6 : Int32) (x7 : Int32) (x8 : Int32) (x9 : Int32) (x10 : Int32) (x11 : Int32) (x12 : Int32) (x13 : Int32) (x14 : Int32) (x15 : Int32) (x16 : Int32) (o17 : Option ts_V) (o18 : Option ts_V) (m : lt_m) : Option lt_r := lt_run d Y177 563 [some (.inr (.inr (some a0))), some (.inl x1), some (.inl x2), some (.inl x3), some (.inl x4), some (.inl x5), some (.inl x6), some (.inl x7), some (.inl x8), some (.inl x9), some (.inl x10), some (.inl x11), some (.inl x12), some (.inl x13), some (.inl x14), some (.inl x15), some (.inl x16), o17, o18, none] [] m
noncomputable def L177_579 (d : Nat) (a0 : Nat) (x1 : Int32) (x2 : Int32) (x3 : Int32) (x4 : Int32) (x5 : Int32) (x6 : Int32) (x7 : Int32) (x8 : Int32) (x9 : Int32) (x10 : Int32) (x11 : Int32) (x12 : Int32) (x13 : Int32) (x14 : Int32) (x15 : Int32) (x16 : Int32) (o17 : Option ts_V) (o18 : Option ts_V) (xt0 : Int32) (m : lt_m) : Option lt_r := lt_run d Y177 579 [some (.inr (.inr (some a0))), some (.inl x1), some (.inl x2), some (.inl x3), some (.inl x4), some (.inl x5), some (.inl x6), some (.inl x7), some (.inl x8), some (.inl x9), some (.inl x10), some (.inl x11), some (.inl x12), some (.inl x13), some (.inl x14), some (.inl x15), some (.inl x16), o17, o18, none] [.inl xt0] m
noncomputable def L177_590 (d : Nat) (a0 : Nat) (x1 : Int32) (x2 : Int32) (x3 : Int32) (x4 : Int32) (x5 : Int32) (x6 : Int32) (x7 : Int32) (x8 : Int32) (x9 : Int32) (x10 : Int32) (x11 : Int32) (x12 : Int32) (x13 : Int32) (x14 : Int32) (x15 : Int32) (x16 : Int32) (o17 : Option ts_V) (o18 : Option ts_V) (xt0 : Int32) (xt1 : Int32) (m : lt_m) : Option lt_r := lt_run d Y177 590 [some (.inr (.inr (some a0))), some (.inl x1), some (.inl x2), some (.inl x3), some (.inl x4), some (.inl x5), some (.inl x6), some (.inl x7), some (.inl x8), some (.inl x9), some (.inl x10), some (.inl x11), some (.inl x12), some (.inl x13), some (.inl x14), some (.inl x15), some (.inl x16), o17, o18, none] [.inl xt0, .inl xt1] m
noncomputable def L177_607 (d : Nat) (a0 : Nat) (x1 : Int32) (x2 : Int32) (x3 : Int32) (x4 : Int32) (x5 : Int32) (x6 : Int32) (x7 : Int32) (x8 : Int32) (x9 : Int32) (x10 : Int32) (x11 : Int32) (x12 : Int32) (x13 : Int32) (x14 : Int32) (x15 : Int32) (x16 : Int32) (o17 : Option ts_V) (o18 : Option ts_V) (xt0 : Int32) (m : lt_m) : Option lt_r := lt_run d Y177 607 [some (.inr (.inr (some a0))), some (.inl x1), some (.inl x2), some (.inl x3), some (.inl x4), some (.inl x5), some (.inl x6), some (.inl x7), some (.inl x8), some (.inl x9), some (.inl x10), some (.inl x11), some (.inl x12), some (.inl x13), some (.inl x14), some (.inl x15), some (.inl x16), o17, o18, none] [.inl xt0] m
noncomputable def L177_619 (d : Nat) (a0 : Nat) (x1 : Int32) (x2 : Int32) (x3 : Int32) (x4 : Int32) (x5 : Int32) (x6 : Int32) (x7 : Int32) (x8 : Int32) (x9 : Int32) (x10 : Int32) (x11 : Int32) (x12 : Int32) (x13 : Int32) (x14 : Int32) (x15 : Int32) (x16 : Int32) (o17 : Option ts_V) (o18 : Option ts_V) (xt0 : Int32) (xt1 : Int32) (m : lt_m) : Option lt_r := lt_run d Y177 619 [some (.inr (.inr (some a0))), some (.inl x1), some (.inl x2), some (.inl x3), some (.inl x4), some (.inl x5), some (.inl x6), some (.inl x7), some (.inl x8), some (.inl x9), some (.inl x10), some (.inl x11), some (.inl x12), some (.inl x13), some (.inl x14), some (.inl x15), some (.inl x16), o17, o18, none] [.inl xt0, .inl xt1] m
noncomputable def L177_649 (d : Nat) (a0 : Nat) (x1 : Int32) (x2 : Int32) (x3 : Int32) (x4 : Int32) (x5 : Int32) (x6 : Int32) (x7 : Int32) (x8 : Int32) (x9 : Int32) (x10 : Int32) (x11 : Int32) (x12 : Int32) (x13 : Int32) (x14 : Int32) (x15 : Int32) (x16 : Int32) (o17 : Option ts_V) (o18 : Option ts_V) (m : lt_m) : Option lt_r := lt_run d Y177 649 [some (.inr (.inr (some a0))), some (.inl x1), some (.inl x2), some (.inl x3), some (.inl x4), some (.inl x5), some (.inl x6), some (.inl x7), some (.inl x8), some (.inl x9), some (.inl x10), some (.inl x11), some (.inl x12), some (.inl x13), some (.inl x14), some (.inl x15), some (.inl x16), o17, o18, none] [] m
theorem E177 (d : Nat) (a0 : Nat) (x1 : Int32) (h0 : ts_sh a0 = (0, 11)) (m : lt_m) : lt_ev (d + 1) 177 [.inr (.inr (some a0)), .inl x1] m = lt_cI (lt_ev d 173 [.inr (.inr (some a0)), .inl (5 : Int32)] m) (fun v1 m1 => (lt_cI (lt_ev d 173 [.inr (.inr (some a0)), .inl (0 : Int32)] m1) (fun v2 m2 => (lt_cI (lt_ev d 140 [.inr (.inr (some a0))] m2) (fun v3 m3 => (L177_36 d a0 x1 v1 v2 (0 : Int32) (0 : Int32) (0 : Int32) v3 (0 : Int32) none m3)))))) := by
  refine Eq.trans (lt_enter2 (ls := [some (.inr (.inr (some a0))), some (.inl x1), none, none, none, none, none, none, none, none, none, none, none, none, none, none, none, none, none, none]) hY177 (Nat.le_of_ble_eq_true rfl) (by rfl)) ?_
  refine Eq.trans (li_aload_n d177_0 (by rfl)) ?_
  refine Eq.trans (li_iconst d177_1 ic_5) ?_
  refine Eq.trans (li_ivI d177_2 ca_14_27 kd_173 kl_173 (by rfl) (by rfl) h0 (Nat.le_of_ble_eq_true rfl) (Nat.le_of_ble_eq_true rfl)) ?_
  refine lt_cI_c (fun v1 m1 => ?_)
  refine Eq.trans (li_istore_n (ls' := [some (.inr (.inr (some a0))), some (.inl x1), some (.inl v1), none, none, none, none, none, none, none, none, none, none, none, none, none, none, none, none, none]) d177_5 (by decide) (by rfl)) ?_
  refine Eq.trans (li_aload_n d177_6 (by rfl)) ?_
  refine Eq.trans (li_iconst d177_7 ic_0) ?_
  refine Eq.trans (li_ivI d177_8 ca_14_27 kd_173 kl_173 (by rfl) (by rfl) h0 (Nat.le_of_ble_eq_true rfl) (Nat.le_of_ble_eq_true rfl)) ?_
  refine lt_cI_c (fun v2 m2 => ?_)
  refine Eq.trans (li_istore_n (ls' := [some (.inr (.inr (some a0))), some (.inl x1), some (.inl v1), some (.inl v2), none, none, none, none, none, none, none, none, none, none, none, none, none, none, none, none]) d177_11 (by decide) (by rfl)) ?_
  refine Eq.trans (li_iconst d177_12 ic_0) ?_
  refine Eq.trans (li_istore (ls' := [some (.inr (.inr (some a0))), some (.inl x1), some (.inl v1), some (.inl v2), some (.inl (0 : Int32)), none, none, none, none, none, none, none, none, none, none, none, none, none, none, none]) d177_13 (by decide) (by rfl)) ?_
  refine Eq.trans (li_iconst d177_15 ic_0) ?_
  refine Eq.trans (li_istore (ls' := [some (.inr (.inr (some a0))), some (.inl x1), some (.inl v1), some (.inl v2), some (.inl (0 : Int32)), some (.inl (0 : Int32)), none, none, none, none, none, none, none, none, none, none, none, none, none, none]) d177_16 (by decide) (by rfl)) ?_
  refine Eq.trans (li_iconst d177_18 ic_0) ?_
  refine Eq.trans (li_istore (ls' := [some (.inr (.inr (some a0))), some (.inl x1), some (.inl v1), some (.inl v2), some (.inl (0 : Int32)), some (.inl (0 : Int32)), some (.inl (0 : Int32)), none, none, none, none, none, none, none, none, none, none, none, none, none]) d177_19 (by decide) (by rfl)) ?_
  refine Eq.trans (li_iconst d177_21 ic_0) ?_
  refine Eq.trans (li_istore (ls' := [some (.inr (.inr (some a0))), some (.inl x1), some (.inl v1), some (.inl v2), some (.inl (0 : Int32)), some (.inl (0 : Int32)), some (.inl (0 : Int32)), some (.inl (0 : Int32)), none, none, none, none, none, none, none, none, none, none, none, none]) d177_22 (by decide) (by rfl)) ?_
  refine Eq.trans (li_iconst d177_24 ic_0) ?_
  refine Eq.trans (li_istore (ls' := [some (.inr (.inr (some a0))), some (.inl x1), some (.inl v1), some (.inl v2), some (.inl (0 : Int32)), some (.inl (0 : Int32)), some (.inl (0 : Int32)), some (.inl (0 : Int32)), some (.inl (0 : Int32)), none, none, none, none, none, none, none, none, none, none, none]) d177_25 (by decide) (by rfl)) ?_
  refine Eq.trans (li_aload_n d177_27 (by rfl)) ?_
  refine Eq.trans (li_ivI d177_28 ca_14_30 kd_140 kl_140 (by rfl) (by rfl) h0 (Nat.le_of_ble_eq_true rfl) (Nat.le_of_ble_eq_true rfl)) ?_
  refine lt_cI_c (fun v3 m3 => ?_)
  refine Eq.trans (li_istore (ls' := [some (.inr (.inr (some a0))), some (.inl x1), some (.inl v1), some (.inl v2), some (.inl (0 : Int32)), some (.inl (0 : Int32)), some (.inl (0 : Int32)), some (.inl (0 : Int32)), some (.inl (0 : Int32)), some (.inl v3), none, none, none, none, none, none, none, none, none, none]) d177_31 (by decide) (by rfl)) ?_
  refine Eq.trans (li_iconst d177_33 ic_0) ?_
  refine Eq.trans (li_istore (ls' := [some (.inr (.inr (some a0))), some (.inl x1), some (.inl v1), some (.inl v2), some (.inl (0 : Int32)), some (.inl (0 : Int32)), some (.inl (0 : Int32)), some (.inl (0 : Int32)), some (.inl (0 : Int32)), some (.inl v3), some (.inl (0 : Int32)), none, none, none, none, none, none, none, none, none]) d177_34 (by decide) (by rfl)) ?_
  rfl
theorem E177_36 (d : Nat) (a0 : Nat) (x1 : Int32) (x2 : Int32) (x3 : Int32) (x4 : Int32) (x5 : Int32) (x7 : Int32) (x9 : Int32) (x10 : Int32) (o11 : Option ts_V) (h0 : ts_sh a0 = (0, 11)) (m : lt_m) : L177_36 d a0 x1 x2 x3 x4 x5 x7 x9 x10 o11 m = if (6 : Int32) ≤ x10 then (if x4 = (((1 : Int32) <<< (x2 &&& 31)) - (1 : Int32)) then (L177_156 d a0 x1 x2 x3 x4 x5 (0 : Int32) x7 (0 : Int32) x9 (0 : Int32) (o11) none none m) else (some (some (.inl (0 : Int32)), m))) else (lt_cI (lt_ev d 137 [.inr (.inr (some a0)), .inl x10] m) (fun v1 m1 => (if ¬ (x4 &&& v1) = 0 then (some (some (.inl (0 : Int32)), m1)) else (lt_cL (lt_ev d 175 [.inr (.inr (some a0)), .inl (0 : Int32)] m1) (fun v2 m2 => (lt_cI (lt_ev d 60 [.inl v1] m2) (fun v3 m3 => (if (lg_cmp v2 ((v3).toInt64)) = 0 then (if x10 = (2 : Int32) then (L177_107 d a0 x1 x2 x3 (x4 ||| v1) x5 x7 x9 x10 v1 m3) else (if x10 = (5 : Int32) then (L177_107 d a0 x1 x2 x3 (x4 ||| v1) x5 x7 x9 x10 v1 m3) else (lt_cL (lt_ev d 175 [.inr (.inr (some a0)), .inl (1 : Int32)] m3) (fun v4 m4 => (L177_107 d a0 x1 x2 x3 (x4 ||| v1) (((((x5).toInt64) + v4)).toInt32) x7 x9 x10 v1 m4))))) else (some (some (.inl (0 : Int32)), m3)))))))))) := by
  show lt_run d Y177 36 [some (.inr (.inr (some a0))), some (.inl x1), some (.inl x2), some (.inl x3), some (.inl x4), some (.inl x5), some (.inl (0 : Int32)), some (.inl x7), some (.inl (0 : Int32)), some (.inl x9), some (.inl x10), o11, none, none, none, none, none, none, none, none] [] m = _
  refine Eq.trans (li_iload d177_36 (by rfl)) ?_
  refine Eq.trans (li_bipush d177_38 bi_6) ?_
  refine Eq.trans (li_icmp_ge (t := 141) d177_40 (by rfl)) ?_
  refine lt_ite (fun c1 => ?_) (fun c1 => ?_)
  · refine Eq.trans (li_iload d177_141 (by rfl)) ?_
    refine Eq.trans (li_iconst d177_143 ic_1) ?_
    refine Eq.trans (li_iload_n d177_144 (by rfl)) ?_
    refine Eq.trans (li_ishl d177_145) ?_
    refine Eq.trans (li_iconst d177_146 ic_1) ?_
    refine Eq.trans (li_isub d177_147) ?_
    refine Eq.trans (li_icmp_eq (t := 153) d177_148 (by rfl)) ?_
    refine lt_ite (fun c2 => ?_) (fun c2 => ?_)
    · refine Eq.trans (li_iconst d177_153 ic_0) ?_
      refine Eq.trans (li_istore (ls' := [some (.inr (.inr (some a0))), some (.inl x1), some (.inl x2), some (.inl x3), some (.inl x4), some (.inl x5), some (.inl (0 : Int32)), some (.inl x7), some (.inl (0 : Int32)), some (.inl x9), some (.inl (0 : Int32)), o11, none, none, none, none, none, none, none, none]) d177_154 (by decide) (by rfl)) ?_
      rfl
    · refine Eq.trans (li_iconst d177_151 ic_0) ?_
      exact li_zret d177_152 rfl (by decide)
  · refine Eq.trans (li_aload_n d177_43 (by rfl)) ?_
    refine Eq.trans (li_iload d177_44 (by rfl)) ?_
    refine Eq.trans (li_ivI d177_46 ca_14_33 kd_137 kl_137 (by rfl) (by rfl) h0 (Nat.le_of_ble_eq_true rfl) (Nat.le_of_ble_eq_true rfl)) ?_
    refine lt_cI_c (fun v1 m1 => ?_)
    refine Eq.trans (li_istore (ls' := [some (.inr (.inr (some a0))), some (.inl x1), some (.inl x2), some (.inl x3), some (.inl x4), some (.inl x5), some (.inl (0 : Int32)), some (.inl x7), some (.inl (0 : Int32)), some (.inl x9), some (.inl x10), some (.inl v1), none, none, none, none, none, none, none, none]) d177_49 (by decide) (by rfl)) ?_
    refine Eq.trans (li_iload d177_51 (by rfl)) ?_
    refine Eq.trans (li_iload d177_53 (by rfl)) ?_
    refine Eq.trans (li_iand d177_55) ?_
    refine Eq.trans (li_if_ne (t := 74) d177_56 (by rfl)) ?_
    refine lt_ite (fun c3 => ?_) (fun c3 => ?_)
    · refine Eq.trans (li_iconst d177_74 ic_0) ?_
      exact li_zret d177_75 rfl (by decide)
    · refine Eq.trans (li_aload_n d177_59 (by rfl)) ?_
      refine Eq.trans (li_iconst d177_60 ic_0) ?_
      refine Eq.trans (li_ivL d177_61 ca_14_36 kd_175 kl_175 (by rfl) (by rfl) h0 (Nat.le_of_ble_eq_true rfl) (Nat.le_of_ble_eq_true rfl)) ?_
      refine lt_cL_c (fun v2 m2 => ?_)
      refine Eq.trans (li_iload d177_64 (by rfl)) ?_
      refine Eq.trans (li_isI d177_66 bi_14_40 ca_14_40 kd_60 (by rfl) (by rfl) (Nat.le_of_ble_eq_true rfl) (Nat.le_of_ble_eq_true rfl)) ?_
      refine lt_cI_c (fun v3 m3 => ?_)
      refine Eq.trans (li_i2l d177_69) ?_
      refine Eq.trans (li_lcmp d177_70) ?_
      refine Eq.trans (li_if_eq (t := 76) d177_71 (by rfl)) ?_
      refine lt_ite (fun c4 => ?_) (fun c4 => ?_)
      · refine Eq.trans (li_iload d177_76 (by rfl)) ?_
        refine Eq.trans (li_iload d177_78 (by rfl)) ?_
        refine Eq.trans (li_ior d177_80) ?_
        refine Eq.trans (li_istore (ls' := [some (.inr (.inr (some a0))), some (.inl x1), some (.inl x2), some (.inl x3), some (.inl (x4 ||| v1)), some (.inl x5), some (.inl (0 : Int32)), some (.inl x7), some (.inl (0 : Int32)), some (.inl x9), some (.inl x10), some (.inl v1), none, none, none, none, none, none, none, none]) d177_81 (by decide) (by rfl)) ?_
        refine Eq.trans (li_iload d177_83 (by rfl)) ?_
        refine Eq.trans (li_iconst d177_85 ic_2) ?_
        refine Eq.trans (li_icmp_eq (t := 107) d177_86 (by rfl)) ?_
        refine lt_ite (fun c5 => ?_) (fun c5 => ?_)
        · rfl
        · refine Eq.trans (li_iload d177_89 (by rfl)) ?_
          refine Eq.trans (li_iconst d177_91 ic_5) ?_
          refine Eq.trans (li_icmp_eq (t := 107) d177_92 (by rfl)) ?_
          refine lt_ite (fun c6 => ?_) (fun c6 => ?_)
          · rfl
          · refine Eq.trans (li_iload d177_95 (by rfl)) ?_
            refine Eq.trans (li_i2l d177_97) ?_
            refine Eq.trans (li_aload_n d177_98 (by rfl)) ?_
            refine Eq.trans (li_iconst d177_99 ic_1) ?_
            refine Eq.trans (li_ivL d177_100 ca_14_36 kd_175 kl_175 (by rfl) (by rfl) h0 (Nat.le_of_ble_eq_true rfl) (Nat.le_of_ble_eq_true rfl)) ?_
            refine lt_cL_c (fun v4 m4 => ?_)
            refine Eq.trans (li_ladd d177_103) ?_
            refine Eq.trans (li_l2i d177_104) ?_
            refine Eq.trans (li_istore (ls' := [some (.inr (.inr (some a0))), some (.inl x1), some (.inl x2), some (.inl x3), some (.inl (x4 ||| v1)), some (.inl (((((x5).toInt64) + v4)).toInt32)), some (.inl (0 : Int32)), some (.inl x7), some (.inl (0 : Int32)), some (.inl x9), some (.inl x10), some (.inl v1), none, none, none, none, none, none, none, none]) d177_105 (by decide) (by rfl)) ?_
            rfl
      · refine Eq.trans (li_iconst d177_74 ic_0) ?_
        exact li_zret d177_75 rfl (by decide)
theorem E177_107 (d : Nat) (a0 : Nat) (x1 : Int32) (x2 : Int32) (x3 : Int32) (x4 : Int32) (x5 : Int32) (x7 : Int32) (x9 : Int32) (x10 : Int32) (x11 : Int32) (h0 : ts_sh a0 = (0, 11)) (m : lt_m) : L177_107 d a0 x1 x2 x3 x4 x5 x7 x9 x10 x11 m = if ¬ x10 = 0 then (lt_cI (lt_ev d 138 [.inr (.inr (some a0)), .inl x10] m) (fun v1 m1 => (L177_36 d a0 x1 x2 x3 x4 x5 (x7 + v1) x9 (x10 + (1 : Int32)) (some (.inl x11)) m1))) else (if (x9 &&& (x11 ^^^ (-1 : Int32))) = 0 then (lt_cI (lt_ev d 138 [.inr (.inr (some a0)), .inl x10] m) (fun v2 m2 => (L177_36 d a0 x1 x2 x3 x4 x5 (x7 + v2) x9 (x10 + (1 : Int32)) (some (.inl x11)) m2))) else (some (some (.inl (0 : Int32)), m))) := by
  show lt_run d Y177 107 [some (.inr (.inr (some a0))), some (.inl x1), some (.inl x2), some (.inl x3), some (.inl x4), some (.inl x5), some (.inl (0 : Int32)), some (.inl x7), some (.inl (0 : Int32)), some (.inl x9), some (.inl x10), some (.inl x11), none, none, none, none, none, none, none, none] [] m = _
  refine Eq.trans (li_iload d177_107 (by rfl)) ?_
  refine Eq.trans (li_if_ne (t := 124) d177_109 (by rfl)) ?_
  refine lt_ite (fun c1 => ?_) (fun c1 => ?_)
  · refine Eq.trans (li_iload d177_124 (by rfl)) ?_
    refine Eq.trans (li_aload_n d177_126 (by rfl)) ?_
    refine Eq.trans (li_iload d177_127 (by rfl)) ?_
    refine Eq.trans (li_ivI d177_129 ca_14_45 kd_138 kl_138 (by rfl) (by rfl) h0 (Nat.le_of_ble_eq_true rfl) (Nat.le_of_ble_eq_true rfl)) ?_
    refine lt_cI_c (fun v1 m1 => ?_)
    refine Eq.trans (li_iadd d177_132) ?_
    refine Eq.trans (li_istore (ls' := [some (.inr (.inr (some a0))), some (.inl x1), some (.inl x2), some (.inl x3), some (.inl x4), some (.inl x5), some (.inl (0 : Int32)), some (.inl (x7 + v1)), some (.inl (0 : Int32)), some (.inl x9), some (.inl x10), some (.inl x11), none, none, none, none, none, none, none, none]) d177_133 (by decide) (by rfl)) ?_
    refine Eq.trans (li_iinc (ls' := [some (.inr (.inr (some a0))), some (.inl x1), some (.inl x2), some (.inl x3), some (.inl x4), some (.inl x5), some (.inl (0 : Int32)), some (.inl (x7 + v1)), some (.inl (0 : Int32)), some (.inl x9), some (.inl (x10 + (1 : Int32))), some (.inl x11), none, none, none, none, none, none, none, none]) d177_135 (by rfl) (by decide) ic_1 (by rfl)) ?_
    refine Eq.trans (li_goto (t := 36) d177_138 (by rfl)) ?_
    rfl
  · refine Eq.trans (li_iload d177_112 (by rfl)) ?_
    refine Eq.trans (li_iload d177_114 (by rfl)) ?_
    refine Eq.trans (li_iconst d177_116 ic_n1) ?_
    refine Eq.trans (li_ixor d177_117) ?_
    refine Eq.trans (li_iand d177_118) ?_
    refine Eq.trans (li_if_eq (t := 124) d177_119 (by rfl)) ?_
    refine lt_ite (fun c2 => ?_) (fun c2 => ?_)
    · refine Eq.trans (li_iload d177_124 (by rfl)) ?_
      refine Eq.trans (li_aload_n d177_126 (by rfl)) ?_
      refine Eq.trans (li_iload d177_127 (by rfl)) ?_
      refine Eq.trans (li_ivI d177_129 ca_14_45 kd_138 kl_138 (by rfl) (by rfl) h0 (Nat.le_of_ble_eq_true rfl) (Nat.le_of_ble_eq_true rfl)) ?_
      refine lt_cI_c (fun v2 m2 => ?_)
      refine Eq.trans (li_iadd d177_132) ?_
      refine Eq.trans (li_istore (ls' := [some (.inr (.inr (some a0))), some (.inl x1), some (.inl x2), some (.inl x3), some (.inl x4), some (.inl x5), some (.inl (0 : Int32)), some (.inl (x7 + v2)), some (.inl (0 : Int32)), some (.inl x9), some (.inl x10), some (.inl x11), none, none, none, none, none, none, none, none]) d177_133 (by decide) (by rfl)) ?_
      refine Eq.trans (li_iinc (ls' := [some (.inr (.inr (some a0))), some (.inl x1), some (.inl x2), some (.inl x3), some (.inl x4), some (.inl x5), some (.inl (0 : Int32)), some (.inl (x7 + v2)), some (.inl (0 : Int32)), some (.inl x9), some (.inl (x10 + (1 : Int32))), some (.inl x11), none, none, none, none, none, none, none, none]) d177_135 (by rfl) (by decide) ic_1 (by rfl)) ?_
      refine Eq.trans (li_goto (t := 36) d177_138 (by rfl)) ?_
      rfl
    · refine Eq.trans (li_iconst d177_122 ic_0) ?_
      exact li_zret d177_123 rfl (by decide)
theorem E177_156 (d : Nat) (a0 : Nat) (x1 : Int32) (x2 : Int32) (x3 : Int32) (x4 : Int32) (x5 : Int32) (x6 : Int32) (x7 : Int32) (x8 : Int32) (x9 : Int32) (x10 : Int32) (o11 : Option ts_V) (o12 : Option ts_V) (o14 : Option ts_V) (h0 : ts_sh a0 = (0, 11)) (m : lt_m) : L177_156 d a0 x1 x2 x3 x4 x5 x6 x7 x8 x9 x10 o11 o12 o14 m = if x1 ≤ x10 then (if ¬ x6 = x5 then (some (some (.inl (0 : Int32)), m)) else (if x7 = x8 then (L177_316 d a0 x1 x2 x3 x4 x5 x6 x7 x8 x9 (0 : Int32) (o11) (o12) none (o14) none none none none m) else (some (some (.inl (0 : Int32)), m)))) else (lt_cI (lt_ev d 93 [.inr (.inr (some a0)), .inl x10] m) (fun v1 m1 => (lt_cL (lt_ev d 175 [.inr (.inr (some a0)), .inl (0 : Int32)] m1) (fun v2 m2 => (if 0 < (lg_cmp ((v1).toInt64) v2) then (some (some (.inl (0 : Int32)), m2)) else (lt_cL (lt_ev d 175 [.inr (.inr (some a0)), .inl (2 : Int32)] m2) (fun v3 m3 => (lt_cL (lt_ev d 175 [.inr (.inr (some a0)), .inl (0 : Int32)] m3) (fun v4 m4 => (if (lg_cmp v3 (v4 - ((v1).toInt64))) = 0 then (lt_cL (lt_ev d 175 [.inr (.inr (some a0)), .inl (2 : Int32)] m4) (fun v5 m5 => (lt_cI (lt_ev d 98 [.inr (.inr (some a0)), .inl x10] m5) (fun v6 m6 => (lt_cI (lt_ev d 147 [.inr (.inr (some a0)), .inl x10, .inl (0 : Int32)] m6) (fun v7 m7 => (lt_cL (lt_ev d 175 [.inr (.inr (some a0)), .inl (0 : Int32)] m7) (fun v8 m8 => (if (lg_cmp v8 v5) ≤ 0 then (if v7 < 0 then (some (some (.inl (0 : Int32)), m8)) else (lt_cI (lt_ev d 148 [.inr (.inr (some a0)), .inl x10, .inl ((v5).toInt32)] m8) (fun v9 m9 => (if ¬ v9 = 0 then (some (some (.inl (0 : Int32)), m9)) else (lt_cL (lt_ev d 175 [.inr (.inr (some a0)), .inl (0 : Int32)] m9) (fun v10 m10 => (if ¬ (lg_cmp v10 (0 : Int64)) = 0 then (some (some (.inl (0 : Int32)), m10)) else (lt_cI (lt_ev d 152 [.inr (.inr (some a0)), .inl x10, .inl ((v5).toInt32)] m10) (fun v11 m11 => (if v11 = x3 then (L177_156 d a0 x1 x2 x3 x4 x5 (x6 + v1) x7 (x8 + v6) x9 (x10 + (1 : Int32)) (some (.inl v1)) (some (.inr (.inl v5))) (some (.inl v7)) m11) else (some (some (.inl (0 : Int32)), m11)))))))))))) else (some (some (.inl (0 : Int32)), m8))))))))))) else (some (some (.inl (0 : Int32)), m4)))))))))))) := by
  show lt_run d Y177 156 [some (.inr (.inr (some a0))), some (.inl x1), some (.inl x2), some (.inl x3), some (.inl x4), some (.inl x5), some (.inl x6), some (.inl x7), some (.inl x8), some (.inl x9), some (.inl x10), o11, o12, none, o14, none, none, none, none, none] [] m = _
  refine Eq.trans (li_iload d177_156 (by rfl)) ?_
  refine Eq.trans (li_iload_n d177_158 (by rfl)) ?_
  refine Eq.trans (li_icmp_ge (t := 297) d177_159 (by rfl)) ?_
  refine lt_ite (fun c1 => ?_) (fun c1 => ?_)
  · refine Eq.trans (li_iload d177_297 (by rfl)) ?_
    refine Eq.trans (li_iload d177_299 (by rfl)) ?_
    refine Eq.trans (li_icmp_ne (t := 311) d177_301 (by rfl)) ?_
    refine lt_ite (fun c2 => ?_) (fun c2 => ?_)
    · refine Eq.trans (li_iconst d177_311 ic_0) ?_
      exact li_zret d177_312 rfl (by decide)
    · refine Eq.trans (li_iload d177_304 (by rfl)) ?_
      refine Eq.trans (li_iload d177_306 (by rfl)) ?_
      refine Eq.trans (li_icmp_eq (t := 313) d177_308 (by rfl)) ?_
      refine lt_ite (fun c3 => ?_) (fun c3 => ?_)
      · refine Eq.trans (li_iconst d177_313 ic_0) ?_
        refine Eq.trans (li_istore (ls' := [some (.inr (.inr (some a0))), some (.inl x1), some (.inl x2), some (.inl x3), some (.inl x4), some (.inl x5), some (.inl x6), some (.inl x7), some (.inl x8), some (.inl x9), some (.inl (0 : Int32)), o11, o12, none, o14, none, none, none, none, none]) d177_314 (by decide) (by rfl)) ?_
        rfl
      · refine Eq.trans (li_iconst d177_311 ic_0) ?_
        exact li_zret d177_312 rfl (by decide)
  · refine Eq.trans (li_aload_n d177_162 (by rfl)) ?_
    refine Eq.trans (li_iload d177_163 (by rfl)) ?_
    refine Eq.trans (li_ivI d177_165 ca_14_48 kd_93 kl_93 (by rfl) (by rfl) h0 (Nat.le_of_ble_eq_true rfl) (Nat.le_of_ble_eq_true rfl)) ?_
    refine lt_cI_c (fun v1 m1 => ?_)
    refine Eq.trans (li_istore (ls' := [some (.inr (.inr (some a0))), some (.inl x1), some (.inl x2), some (.inl x3), some (.inl x4), some (.inl x5), some (.inl x6), some (.inl x7), some (.inl x8), some (.inl x9), some (.inl x10), some (.inl v1), o12, none, o14, none, none, none, none, none]) d177_168 (by decide) (by rfl)) ?_
    refine Eq.trans (li_iload d177_170 (by rfl)) ?_
    refine Eq.trans (li_i2l d177_172) ?_
    refine Eq.trans (li_aload_n d177_173 (by rfl)) ?_
    refine Eq.trans (li_iconst d177_174 ic_0) ?_
    refine Eq.trans (li_ivL d177_175 ca_14_36 kd_175 kl_175 (by rfl) (by rfl) h0 (Nat.le_of_ble_eq_true rfl) (Nat.le_of_ble_eq_true rfl)) ?_
    refine lt_cL_c (fun v2 m2 => ?_)
    refine Eq.trans (li_lcmp d177_178) ?_
    refine Eq.trans (li_if_gt (t := 200) d177_179 (by rfl)) ?_
    refine lt_ite (fun c4 => ?_) (fun c4 => ?_)
    · refine Eq.trans (li_iconst d177_200 ic_0) ?_
      exact li_zret d177_201 rfl (by decide)
    · refine Eq.trans (li_aload_n d177_182 (by rfl)) ?_
      refine Eq.trans (li_iconst d177_183 ic_2) ?_
      refine Eq.trans (li_ivL d177_184 ca_14_36 kd_175 kl_175 (by rfl) (by rfl) h0 (Nat.le_of_ble_eq_true rfl) (Nat.le_of_ble_eq_true rfl)) ?_
      refine lt_cL_c (fun v3 m3 => ?_)
      refine Eq.trans (li_aload_n d177_187 (by rfl)) ?_
      refine Eq.trans (li_iconst d177_188 ic_0) ?_
      refine Eq.trans (li_ivL d177_189 ca_14_36 kd_175 kl_175 (by rfl) (by rfl) h0 (Nat.le_of_ble_eq_true rfl) (Nat.le_of_ble_eq_true rfl)) ?_
      refine lt_cL_c (fun v4 m4 => ?_)
      refine Eq.trans (li_iload d177_192 (by rfl)) ?_
      refine Eq.trans (li_i2l d177_194) ?_
      refine Eq.trans (li_lsub d177_195) ?_
      refine Eq.trans (li_lcmp d177_196) ?_
      refine Eq.trans (li_if_eq (t := 202) d177_197 (by rfl)) ?_
      refine lt_ite (fun c5 => ?_) (fun c5 => ?_)
      · refine Eq.trans (li_aload_n d177_202 (by rfl)) ?_
        refine Eq.trans (li_iconst d177_203 ic_2) ?_
        refine Eq.trans (li_ivL d177_204 ca_14_36 kd_175 kl_175 (by rfl) (by rfl) h0 (Nat.le_of_ble_eq_true rfl) (Nat.le_of_ble_eq_true rfl)) ?_
        refine lt_cL_c (fun v5 m5 => ?_)
        refine Eq.trans (li_lstore (ls' := [some (.inr (.inr (some a0))), some (.inl x1), some (.inl x2), some (.inl x3), some (.inl x4), some (.inl x5), some (.inl x6), some (.inl x7), some (.inl x8), some (.inl x9), some (.inl x10), some (.inl v1), some (.inr (.inl v5)), none, o14, none, none, none, none, none]) d177_207 (by decide) (by rfl)) ?_
        refine Eq.trans (li_iload d177_209 (by rfl)) ?_
        refine Eq.trans (li_iload d177_211 (by rfl)) ?_
        refine Eq.trans (li_iadd d177_213) ?_
        refine Eq.trans (li_istore (ls' := [some (.inr (.inr (some a0))), some (.inl x1), some (.inl x2), some (.inl x3), some (.inl x4), some (.inl x5), some (.inl (x6 + v1)), some (.inl x7), some (.inl x8), some (.inl x9), some (.inl x10), some (.inl v1), some (.inr (.inl v5)), none, o14, none, none, none, none, none]) d177_214 (by decide) (by rfl)) ?_
        refine Eq.trans (li_iload d177_216 (by rfl)) ?_
        refine Eq.trans (li_aload_n d177_218 (by rfl)) ?_
        refine Eq.trans (li_iload d177_219 (by rfl)) ?_
        refine Eq.trans (li_ivI d177_221 ca_14_51 kd_98 kl_98 (by rfl) (by rfl) h0 (Nat.le_of_ble_eq_true rfl) (Nat.le_of_ble_eq_true rfl)) ?_
        refine lt_cI_c (fun v6 m6 => ?_)
        refine Eq.trans (li_iadd d177_224) ?_
        refine Eq.trans (li_istore (ls' := [some (.inr (.inr (some a0))), some (.inl x1), some (.inl x2), some (.inl x3), some (.inl x4), some (.inl x5), some (.inl (x6 + v1)), some (.inl x7), some (.inl (x8 + v6)), some (.inl x9), some (.inl x10), some (.inl v1), some (.inr (.inl v5)), none, o14, none, none, none, none, none]) d177_225 (by decide) (by rfl)) ?_
        refine Eq.trans (li_aload_n d177_227 (by rfl)) ?_
        refine Eq.trans (li_iload d177_228 (by rfl)) ?_
        refine Eq.trans (li_iconst d177_230 ic_0) ?_
        refine Eq.trans (li_ivI d177_231 ca_14_54 kd_147 kl_147 (by rfl) (by rfl) h0 (Nat.le_of_ble_eq_true rfl) (Nat.le_of_ble_eq_true rfl)) ?_
        refine lt_cI_c (fun v7 m7 => ?_)
        refine Eq.trans (li_istore (ls' := [some (.inr (.inr (some a0))), some (.inl x1), some (.inl x2), some (.inl x3), some (.inl x4), some (.inl x5), some (.inl (x6 + v1)), some (.inl x7), some (.inl (x8 + v6)), some (.inl x9), some (.inl x10), some (.inl v1), some (.inr (.inl v5)), none, some (.inl v7), none, none, none, none, none]) d177_234 (by decide) (by rfl)) ?_
        refine Eq.trans (li_aload_n d177_236 (by rfl)) ?_
        refine Eq.trans (li_iconst d177_237 ic_0) ?_
        refine Eq.trans (li_ivL d177_238 ca_14_36 kd_175 kl_175 (by rfl) (by rfl) h0 (Nat.le_of_ble_eq_true rfl) (Nat.le_of_ble_eq_true rfl)) ?_
        refine lt_cL_c (fun v8 m8 => ?_)
        refine Eq.trans (li_lload d177_241 (by rfl)) ?_
        refine Eq.trans (li_lcmp d177_243) ?_
        refine Eq.trans (li_if_le (t := 249) d177_244 (by rfl)) ?_
        refine lt_ite (fun c6 => ?_) (fun c6 => ?_)
        · refine Eq.trans (li_iload d177_249 (by rfl)) ?_
          refine Eq.trans (li_if_lt (t := 289) d177_251 (by rfl)) ?_
          refine lt_ite (fun c7 => ?_) (fun c7 => ?_)
          · refine Eq.trans (li_iconst d177_289 ic_0) ?_
            exact li_zret d177_290 rfl (by decide)
          · refine Eq.trans (li_aload_n d177_254 (by rfl)) ?_
            refine Eq.trans (li_iload d177_255 (by rfl)) ?_
            refine Eq.trans (li_lload d177_257 (by rfl)) ?_
            refine Eq.trans (li_l2i d177_259) ?_
            refine Eq.trans (li_ivI d177_260 ca_14_58 kd_148 kl_148 (by rfl) (by rfl) h0 (Nat.le_of_ble_eq_true rfl) (Nat.le_of_ble_eq_true rfl)) ?_
            refine lt_cI_c (fun v9 m9 => ?_)
            refine Eq.trans (li_if_ne (t := 289) d177_263 (by rfl)) ?_
            refine lt_ite (fun c8 => ?_) (fun c8 => ?_)
            · refine Eq.trans (li_iconst d177_289 ic_0) ?_
              exact li_zret d177_290 rfl (by decide)
            · refine Eq.trans (li_aload_n d177_266 (by rfl)) ?_
              refine Eq.trans (li_iconst d177_267 ic_0) ?_
              refine Eq.trans (li_ivL d177_268 ca_14_36 kd_175 kl_175 (by rfl) (by rfl) h0 (Nat.le_of_ble_eq_true rfl) (Nat.le_of_ble_eq_true rfl)) ?_
              refine lt_cL_c (fun v10 m10 => ?_)
              refine Eq.trans (li_lconst (v := 0) d177_271 (by decide)) ?_
              refine Eq.trans (li_lcmp d177_272) ?_
              refine Eq.trans (li_if_ne (t := 289) d177_273 (by rfl)) ?_
              refine lt_ite (fun c9 => ?_) (fun c9 => ?_)
              · refine Eq.trans (li_iconst d177_289 ic_0) ?_
                exact li_zret d177_290 rfl (by decide)
              · refine Eq.trans (li_aload_n d177_276 (by rfl)) ?_
                refine Eq.trans (li_iload d177_277 (by rfl)) ?_
                refine Eq.trans (li_lload d177_279 (by rfl)) ?_
                refine Eq.trans (li_l2i d177_281) ?_
                refine Eq.trans (li_ivI d177_282 ca_14_61 kd_152 kl_152 (by rfl) (by rfl) h0 (Nat.le_of_ble_eq_true rfl) (Nat.le_of_ble_eq_true rfl)) ?_
                refine lt_cI_c (fun v11 m11 => ?_)
                refine Eq.trans (li_iload_n d177_285 (by rfl)) ?_
                refine Eq.trans (li_icmp_eq (t := 291) d177_286 (by rfl)) ?_
                refine lt_ite (fun c10 => ?_) (fun c10 => ?_)
                · refine Eq.trans (li_iinc (ls' := [some (.inr (.inr (some a0))), some (.inl x1), some (.inl x2), some (.inl x3), some (.inl x4), some (.inl x5), some (.inl (x6 + v1)), some (.inl x7), some (.inl (x8 + v6)), some (.inl x9), some (.inl (x10 + (1 : Int32))), some (.inl v1), some (.inr (.inl v5)), none, some (.inl v7), none, none, none, none, none]) d177_291 (by rfl) (by decide) ic_1 (by rfl)) ?_
                  refine Eq.trans (li_goto (t := 156) d177_294 (by rfl)) ?_
                  rfl
                · refine Eq.trans (li_iconst d177_289 ic_0) ?_
                  exact li_zret d177_290 rfl (by decide)
        · refine Eq.trans (li_iconst d177_247 ic_0) ?_
          exact li_zret d177_248 rfl (by decide)
      · refine Eq.trans (li_iconst d177_200 ic_0) ?_
        exact li_zret d177_201 rfl (by decide)
theorem E177_316 (d : Nat) (a0 : Nat) (x1 : Int32) (x2 : Int32) (x3 : Int32) (x4 : Int32) (x5 : Int32) (x6 : Int32) (x7 : Int32) (x8 : Int32) (x9 : Int32) (x10 : Int32) (o11 : Option ts_V) (o12 : Option ts_V) (o13 : Option ts_V) (o14 : Option ts_V) (o15 : Option ts_V) (o16 : Option ts_V) (o17 : Option ts_V) (o18 : Option ts_V) (h0 : ts_sh a0 = (0, 11)) (m : lt_m) : L177_316 d a0 x1 x2 x3 x4 x5 x6 x7 x8 x9 x10 o11 o12 o13 o14 o15 o16 o17 o18 m = if x2 ≤ x10 then (some (some (.inl (1 : Int32)), m)) else (lt_cI (lt_ev d 129 [.inr (.inr (some a0)), .inl x10, .inl (3 : Int32)] m) (fun v1 m1 => (lt_cI (lt_ev d 129 [.inr (.inr (some a0)), .inl x10, .inl (7 : Int32)] m1) (fun v2 m2 => (lt_cI (lt_ev d 129 [.inr (.inr (some a0)), .inl x10, .inl (12 : Int32)] m2) (fun v3 m3 => (lt_cI (lt_ev d 129 [.inr (.inr (some a0)), .inl x10, .inl (6 : Int32)] m3) (fun v4 m4 => (L177_367 d a0 x1 x2 x3 x4 x5 x6 x7 x8 x9 x10 v1 v2 v3 v4 (0 : Int32) (0 : Int32) (o17) (o18) m4))))))))) := by
  show lt_run d Y177 316 [some (.inr (.inr (some a0))), some (.inl x1), some (.inl x2), some (.inl x3), some (.inl x4), some (.inl x5), some (.inl x6), some (.inl x7), some (.inl x8), some (.inl x9), some (.inl x10), o11, o12, o13, o14, o15, o16, o17, o18, none] [] m = _
  refine Eq.trans (li_iload d177_316 (by rfl)) ?_
  refine Eq.trans (li_iload_n d177_318 (by rfl)) ?_
  refine Eq.trans (li_icmp_ge (t := 686) d177_319 (by rfl)) ?_
  refine lt_ite (fun c1 => ?_) (fun c1 => ?_)
  · refine Eq.trans (li_iconst d177_686 ic_1) ?_
    exact li_zret d177_687 rfl (by decide)
  · refine Eq.trans (li_aload_n d177_322 (by rfl)) ?_
    refine Eq.trans (li_iload d177_323 (by rfl)) ?_
    refine Eq.trans (li_iconst d177_325 ic_3) ?_
    refine Eq.trans (li_ivI d177_326 ca_14_64 kd_129 kl_129 (by rfl) (by rfl) h0 (Nat.le_of_ble_eq_true rfl) (Nat.le_of_ble_eq_true rfl)) ?_
    refine lt_cI_c (fun v1 m1 => ?_)
    refine Eq.trans (li_istore (ls' := [some (.inr (.inr (some a0))), some (.inl x1), some (.inl x2), some (.inl x3), some (.inl x4), some (.inl x5), some (.inl x6), some (.inl x7), some (.inl x8), some (.inl x9), some (.inl x10), some (.inl v1), o12, o13, o14, o15, o16, o17, o18, none]) d177_329 (by decide) (by rfl)) ?_
    refine Eq.trans (li_aload_n d177_331 (by rfl)) ?_
    refine Eq.trans (li_iload d177_332 (by rfl)) ?_
    refine Eq.trans (li_bipush d177_334 bi_7) ?_
    refine Eq.trans (li_ivI d177_336 ca_14_64 kd_129 kl_129 (by rfl) (by rfl) h0 (Nat.le_of_ble_eq_true rfl) (Nat.le_of_ble_eq_true rfl)) ?_
    refine lt_cI_c (fun v2 m2 => ?_)
    refine Eq.trans (li_istore (ls' := [some (.inr (.inr (some a0))), some (.inl x1), some (.inl x2), some (.inl x3), some (.inl x4), some (.inl x5), some (.inl x6), some (.inl x7), some (.inl x8), some (.inl x9), some (.inl x10), some (.inl v1), some (.inl v2), o13, o14, o15, o16, o17, o18, none]) d177_339 (by decide) (by rfl)) ?_
    refine Eq.trans (li_aload_n d177_341 (by rfl)) ?_
    refine Eq.trans (li_iload d177_342 (by rfl)) ?_
    refine Eq.trans (li_bipush d177_344 bi_12) ?_
    refine Eq.trans (li_ivI d177_346 ca_14_64 kd_129 kl_129 (by rfl) (by rfl) h0 (Nat.le_of_ble_eq_true rfl) (Nat.le_of_ble_eq_true rfl)) ?_
    refine lt_cI_c (fun v3 m3 => ?_)
    refine Eq.trans (li_istore (ls' := [some (.inr (.inr (some a0))), some (.inl x1), some (.inl x2), some (.inl x3), some (.inl x4), some (.inl x5), some (.inl x6), some (.inl x7), some (.inl x8), some (.inl x9), some (.inl x10), some (.inl v1), some (.inl v2), some (.inl v3), o14, o15, o16, o17, o18, none]) d177_349 (by decide) (by rfl)) ?_
    refine Eq.trans (li_aload_n d177_351 (by rfl)) ?_
    refine Eq.trans (li_iload d177_352 (by rfl)) ?_
    refine Eq.trans (li_bipush d177_354 bi_6) ?_
    refine Eq.trans (li_ivI d177_356 ca_14_64 kd_129 kl_129 (by rfl) (by rfl) h0 (Nat.le_of_ble_eq_true rfl) (Nat.le_of_ble_eq_true rfl)) ?_
    refine lt_cI_c (fun v4 m4 => ?_)
    refine Eq.trans (li_istore (ls' := [some (.inr (.inr (some a0))), some (.inl x1), some (.inl x2), some (.inl x3), some (.inl x4), some (.inl x5), some (.inl x6), some (.inl x7), some (.inl x8), some (.inl x9), some (.inl x10), some (.inl v1), some (.inl v2), some (.inl v3), some (.inl v4), o15, o16, o17, o18, none]) d177_359 (by decide) (by rfl)) ?_
    refine Eq.trans (li_iconst d177_361 ic_0) ?_
    refine Eq.trans (li_istore (ls' := [some (.inr (.inr (some a0))), some (.inl x1), some (.inl x2), some (.inl x3), some (.inl x4), some (.inl x5), some (.inl x6), some (.inl x7), some (.inl x8), some (.inl x9), some (.inl x10), some (.inl v1), some (.inl v2), some (.inl v3), some (.inl v4), some (.inl (0 : Int32)), o16, o17, o18, none]) d177_362 (by decide) (by rfl)) ?_
    refine Eq.trans (li_iconst d177_364 ic_0) ?_
    refine Eq.trans (li_istore (ls' := [some (.inr (.inr (some a0))), some (.inl x1), some (.inl x2), some (.inl x3), some (.inl x4), some (.inl x5), some (.inl x6), some (.inl x7), some (.inl x8), some (.inl x9), some (.inl x10), some (.inl v1), some (.inl v2), some (.inl v3), some (.inl v4), some (.inl (0 : Int32)), some (.inl (0 : Int32)), o17, o18, none]) d177_365 (by decide) (by rfl)) ?_
    rfl
theorem E177_367 (d : Nat) (a0 : Nat) (x1 : Int32) (x2 : Int32) (x3 : Int32) (x4 : Int32) (x5 : Int32) (x6 : Int32) (x7 : Int32) (x8 : Int32) (x9 : Int32) (x10 : Int32) (x11 : Int32) (x12 : Int32) (x13 : Int32) (x14 : Int32) (x15 : Int32) (x16 : Int32) (o17 : Option ts_V) (o18 : Option ts_V) (h0 : ts_sh a0 = (0, 11)) (m : lt_m) : L177_367 d a0 x1 x2 x3 x4 x5 x6 x7 x8 x9 x10 x11 x12 x13 x14 x15 x16 o17 o18 m = if x13 ≤ x16 then (if ¬ x11 = 0 then (L177_495 d a0 x1 x2 x3 x4 x5 x6 x7 x8 x9 x10 x11 x12 x13 x14 x15 x16 (o17) (o18) m) else (if x14 < x3 then (some (some (.inl (0 : Int32)), m)) else (L177_495 d a0 x1 x2 x3 x4 x5 x6 x7 x8 x9 x10 x11 x12 x13 x14 x15 x16 (o17) (o18) m))) else (lt_cI (lt_ev d 130 [.inr (.inr (some a0)), .inl x10, .inl x16] m) (fun v1 m1 => (lt_cL (lt_ev d 175 [.inr (.inr (some a0)), .inl (0 : Int32)] m1) (fun v2 m2 => (if (lg_cmp v2 (0 : Int64)) < 0 then (L177_403 d a0 x1 x2 x3 x4 x5 x6 x7 x8 x9 x10 x11 x12 x13 x14 x15 x16 v1 v2 (0 : Int32) m2) else (L177_403 d a0 x1 x2 x3 x4 x5 x6 x7 x8 x9 x10 x11 x12 x13 x14 x15 x16 v1 v2 (1 : Int32) m2)))))) := by
  show lt_run d Y177 367 [some (.inr (.inr (some a0))), some (.inl x1), some (.inl x2), some (.inl x3), some (.inl x4), some (.inl x5), some (.inl x6), some (.inl x7), some (.inl x8), some (.inl x9), some (.inl x10), some (.inl x11), some (.inl x12), some (.inl x13), some (.inl x14), some (.inl x15), some (.inl x16), o17, o18, none] [] m = _
  refine Eq.trans (li_iload d177_367 (by rfl)) ?_
  refine Eq.trans (li_iload d177_369 (by rfl)) ?_
  refine Eq.trans (li_icmp_ge (t := 484) d177_371 (by rfl)) ?_
  refine lt_ite (fun c1 => ?_) (fun c1 => ?_)
  · refine Eq.trans (li_iload d177_484 (by rfl)) ?_
    refine Eq.trans (li_if_ne (t := 495) d177_486 (by rfl)) ?_
    refine lt_ite (fun c2 => ?_) (fun c2 => ?_)
    · rfl
    · refine Eq.trans (li_iload_n d177_489 (by rfl)) ?_
      refine Eq.trans (li_iload d177_490 (by rfl)) ?_
      refine Eq.trans (li_icmp_gt (t := 561) d177_492 (by rfl)) ?_
      refine lt_ite (fun c3 => ?_) (fun c3 => ?_)
      · refine Eq.trans (li_iconst d177_561 ic_0) ?_
        exact li_zret d177_562 rfl (by decide)
      · rfl
  · refine Eq.trans (li_aload_n d177_374 (by rfl)) ?_
    refine Eq.trans (li_iload d177_375 (by rfl)) ?_
    refine Eq.trans (li_iload d177_377 (by rfl)) ?_
    refine Eq.trans (li_ivI d177_379 ca_14_67 kd_130 kl_130 (by rfl) (by rfl) h0 (Nat.le_of_ble_eq_true rfl) (Nat.le_of_ble_eq_true rfl)) ?_
    refine lt_cI_c (fun v1 m1 => ?_)
    refine Eq.trans (li_istore (ls' := [some (.inr (.inr (some a0))), some (.inl x1), some (.inl x2), some (.inl x3), some (.inl x4), some (.inl x5), some (.inl x6), some (.inl x7), some (.inl x8), some (.inl x9), some (.inl x10), some (.inl x11), some (.inl x12), some (.inl x13), some (.inl x14), some (.inl x15), some (.inl x16), some (.inl v1), o18, none]) d177_382 (by decide) (by rfl)) ?_
    refine Eq.trans (li_aload_n d177_384 (by rfl)) ?_
    refine Eq.trans (li_iconst d177_385 ic_0) ?_
    refine Eq.trans (li_ivL d177_386 ca_14_36 kd_175 kl_175 (by rfl) (by rfl) h0 (Nat.le_of_ble_eq_true rfl) (Nat.le_of_ble_eq_true rfl)) ?_
    refine lt_cL_c (fun v2 m2 => ?_)
    refine Eq.trans (li_lstore (ls' := [some (.inr (.inr (some a0))), some (.inl x1), some (.inl x2), some (.inl x3), some (.inl x4), some (.inl x5), some (.inl x6), some (.inl x7), some (.inl x8), some (.inl x9), some (.inl x10), some (.inl x11), some (.inl x12), some (.inl x13), some (.inl x14), some (.inl x15), some (.inl x16), some (.inl v1), some (.inr (.inl v2)), none]) d177_389 (by decide) (by rfl)) ?_
    refine Eq.trans (li_lload d177_391 (by rfl)) ?_
    refine Eq.trans (li_lconst (v := 0) d177_393 (by decide)) ?_
    refine Eq.trans (li_lcmp d177_394) ?_
    refine Eq.trans (li_if_lt (t := 402) d177_395 (by rfl)) ?_
    refine lt_ite (fun c4 => ?_) (fun c4 => ?_)
    · refine Eq.trans (li_iconst d177_402 ic_0) ?_
      rfl
    · refine Eq.trans (li_iconst d177_398 ic_1) ?_
      refine Eq.trans (li_goto (t := 403) d177_399 (by rfl)) ?_
      rfl
theorem E177_403 (d : Nat) (a0 : Nat) (x1 : Int32) (x2 : Int32) (x3 : Int32) (x4 : Int32) (x5 : Int32) (x6 : Int32) (x7 : Int32) (x8 : Int32) (x9 : Int32) (x10 : Int32) (x11 : Int32) (x12 : Int32) (x13 : Int32) (x14 : Int32) (x15 : Int32) (x16 : Int32) (x17 : Int32) (x18 : Int64) (xt0 : Int32)  (m : lt_m) : L177_403 d a0 x1 x2 x3 x4 x5 x6 x7 x8 x9 x10 x11 x12 x13 x14 x15 x16 x17 x18 xt0 m = if x12 ≤ x16 then (L177_415 d a0 x1 x2 x3 x4 x5 x6 x7 x8 x9 x10 x11 x12 x13 x14 x15 x16 x17 x18 (0 : Int32) xt0 m) else (L177_415 d a0 x1 x2 x3 x4 x5 x6 x7 x8 x9 x10 x11 x12 x13 x14 x15 x16 x17 x18 (1 : Int32) xt0 m) := by
  show lt_run d Y177 403 [some (.inr (.inr (some a0))), some (.inl x1), some (.inl x2), some (.inl x3), some (.inl x4), some (.inl x5), some (.inl x6), some (.inl x7), some (.inl x8), some (.inl x9), some (.inl x10), some (.inl x11), some (.inl x12), some (.inl x13), some (.inl x14), some (.inl x15), some (.inl x16), some (.inl x17), some (.inr (.inl x18)), none] [.inl xt0] m = _
  refine Eq.trans (li_iload d177_403 (by rfl)) ?_
  refine Eq.trans (li_iload d177_405 (by rfl)) ?_
  refine Eq.trans (li_icmp_ge (t := 414) d177_407 (by rfl)) ?_
  refine lt_ite (fun c1 => ?_) (fun c1 => ?_)
  · refine Eq.trans (li_iconst d177_414 ic_0) ?_
    rfl
  · refine Eq.trans (li_iconst d177_410 ic_1) ?_
    refine Eq.trans (li_goto (t := 415) d177_411 (by rfl)) ?_
    rfl
theorem E177_415 (d : Nat) (a0 : Nat) (x1 : Int32) (x2 : Int32) (x3 : Int32) (x4 : Int32) (x5 : Int32) (x6 : Int32) (x7 : Int32) (x8 : Int32) (x9 : Int32) (x10 : Int32) (x11 : Int32) (x12 : Int32) (x13 : Int32) (x14 : Int32) (x15 : Int32) (x16 : Int32) (x17 : Int32) (x18 : Int64) (xt0 : Int32) (xt1 : Int32)  (m : lt_m) : L177_415 d a0 x1 x2 x3 x4 x5 x6 x7 x8 x9 x10 x11 x12 x13 x14 x15 x16 x17 x18 xt0 xt1 m = if ¬ xt1 = xt0 then (some (some (.inl (0 : Int32)), m)) else (if x12 ≤ x16 then (L177_434 d a0 x1 x2 x3 x4 x5 x6 x7 x8 x9 x10 x11 x12 x13 x14 x15 x16 x17 x18 m) else (if (lg_cmp x18 ((x15).toInt64)) < 0 then (some (some (.inl (0 : Int32)), m)) else (L177_434 d a0 x1 x2 x3 x4 x5 x6 x7 x8 x9 x10 x11 x12 x13 x14 x15 x16 x17 x18 m))) := by
  show lt_run d Y177 415 [some (.inr (.inr (some a0))), some (.inl x1), some (.inl x2), some (.inl x3), some (.inl x4), some (.inl x5), some (.inl x6), some (.inl x7), some (.inl x8), some (.inl x9), some (.inl x10), some (.inl x11), some (.inl x12), some (.inl x13), some (.inl x14), some (.inl x15), some (.inl x16), some (.inl x17), some (.inr (.inl x18)), none] [.inl xt0, .inl xt1] m = _
  refine Eq.trans (li_icmp_ne (t := 464) d177_415 (by rfl)) ?_
  refine lt_ite (fun c1 => ?_) (fun c1 => ?_)
  · refine Eq.trans (li_iconst d177_464 ic_0) ?_
    exact li_zret d177_465 rfl (by decide)
  · refine Eq.trans (li_iload d177_418 (by rfl)) ?_
    refine Eq.trans (li_iload d177_420 (by rfl)) ?_
    refine Eq.trans (li_icmp_ge (t := 434) d177_422 (by rfl)) ?_
    refine lt_ite (fun c2 => ?_) (fun c2 => ?_)
    · rfl
    · refine Eq.trans (li_lload d177_425 (by rfl)) ?_
      refine Eq.trans (li_iload d177_427 (by rfl)) ?_
      refine Eq.trans (li_i2l d177_429) ?_
      refine Eq.trans (li_lcmp d177_430) ?_
      refine Eq.trans (li_if_lt (t := 464) d177_431 (by rfl)) ?_
      refine lt_ite (fun c3 => ?_) (fun c3 => ?_)
      · refine Eq.trans (li_iconst d177_464 ic_0) ?_
        exact li_zret d177_465 rfl (by decide)
      · rfl
theorem E177_434 (d : Nat) (a0 : Nat) (x1 : Int32) (x2 : Int32) (x3 : Int32) (x4 : Int32) (x5 : Int32) (x6 : Int32) (x7 : Int32) (x8 : Int32) (x9 : Int32) (x10 : Int32) (x11 : Int32) (x12 : Int32) (x13 : Int32) (x14 : Int32) (x15 : Int32) (x16 : Int32) (x17 : Int32) (x18 : Int64) (h0 : ts_sh a0 = (0, 11)) (m : lt_m) : L177_434 d a0 x1 x2 x3 x4 x5 x6 x7 x8 x9 x10 x11 x12 x13 x14 x15 x16 x17 x18 m = if 0 < (lg_cmp x18 ((x3).toInt64)) then (some (some (.inl (0 : Int32)), m)) else (if ¬ x16 = (x12 - (1 : Int32)) then (L177_466 d a0 x1 x2 x3 x4 x5 x6 x7 x8 x9 x10 x11 x12 x13 x14 x15 x16 x17 x18 m) else (lt_cI (lt_ev d 129 [.inr (.inr (some a0)), .inl x10, .inl (8 : Int32)] m) (fun v1 m1 => (if x17 = v1 then (L177_466 d a0 x1 x2 x3 x4 x5 x6 x7 x8 x9 x10 x11 x12 x13 x14 x15 x16 x17 x18 m1) else (some (some (.inl (0 : Int32)), m1)))))) := by
  show lt_run d Y177 434 [some (.inr (.inr (some a0))), some (.inl x1), some (.inl x2), some (.inl x3), some (.inl x4), some (.inl x5), some (.inl x6), some (.inl x7), some (.inl x8), some (.inl x9), some (.inl x10), some (.inl x11), some (.inl x12), some (.inl x13), some (.inl x14), some (.inl x15), some (.inl x16), some (.inl x17), some (.inr (.inl x18)), none] [] m = _
  refine Eq.trans (li_lload d177_434 (by rfl)) ?_
  refine Eq.trans (li_iload_n d177_436 (by rfl)) ?_
  refine Eq.trans (li_i2l d177_437) ?_
  refine Eq.trans (li_lcmp d177_438) ?_
  refine Eq.trans (li_if_gt (t := 464) d177_439 (by rfl)) ?_
  refine lt_ite (fun c1 => ?_) (fun c1 => ?_)
  · refine Eq.trans (li_iconst d177_464 ic_0) ?_
    exact li_zret d177_465 rfl (by decide)
  · refine Eq.trans (li_iload d177_442 (by rfl)) ?_
    refine Eq.trans (li_iload d177_444 (by rfl)) ?_
    refine Eq.trans (li_iconst d177_446 ic_1) ?_
    refine Eq.trans (li_isub d177_447) ?_
    refine Eq.trans (li_icmp_ne (t := 466) d177_448 (by rfl)) ?_
    refine lt_ite (fun c2 => ?_) (fun c2 => ?_)
    · rfl
    · refine Eq.trans (li_iload d177_451 (by rfl)) ?_
      refine Eq.trans (li_aload_n d177_453 (by rfl)) ?_
      refine Eq.trans (li_iload d177_454 (by rfl)) ?_
      refine Eq.trans (li_bipush d177_456 bi_8) ?_
      refine Eq.trans (li_ivI d177_458 ca_14_64 kd_129 kl_129 (by rfl) (by rfl) h0 (Nat.le_of_ble_eq_true rfl) (Nat.le_of_ble_eq_true rfl)) ?_
      refine lt_cI_c (fun v1 m1 => ?_)
      refine Eq.trans (li_icmp_eq (t := 466) d177_461 (by rfl)) ?_
      refine lt_ite (fun c3 => ?_) (fun c3 => ?_)
      · rfl
      · refine Eq.trans (li_iconst d177_464 ic_0) ?_
        exact li_zret d177_465 rfl (by decide)
theorem E177_466 (d : Nat) (a0 : Nat) (x1 : Int32) (x2 : Int32) (x3 : Int32) (x4 : Int32) (x5 : Int32) (x6 : Int32) (x7 : Int32) (x8 : Int32) (x9 : Int32) (x10 : Int32) (x11 : Int32) (x12 : Int32) (x13 : Int32) (x14 : Int32) (x15 : Int32) (x16 : Int32) (x17 : Int32) (x18 : Int64)  (m : lt_m) : L177_466 d a0 x1 x2 x3 x4 x5 x6 x7 x8 x9 x10 x11 x12 x13 x14 x15 x16 x17 x18 m = if x12 ≤ x16 then (L177_367 d a0 x1 x2 x3 x4 x5 x6 x7 x8 x9 x10 x11 x12 x13 x14 x15 (x16 + (1 : Int32)) (some (.inl x17)) (some (.inr (.inl x18))) m) else (L177_367 d a0 x1 x2 x3 x4 x5 x6 x7 x8 x9 x10 x11 x12 x13 x14 ((x18).toInt32) (x16 + (1 : Int32)) (some (.inl x17)) (some (.inr (.inl x18))) m) := by
  show lt_run d Y177 466 [some (.inr (.inr (some a0))), some (.inl x1), some (.inl x2), some (.inl x3), some (.inl x4), some (.inl x5), some (.inl x6), some (.inl x7), some (.inl x8), some (.inl x9), some (.inl x10), some (.inl x11), some (.inl x12), some (.inl x13), some (.inl x14), some (.inl x15), some (.inl x16), some (.inl x17), some (.inr (.inl x18)), none] [] m = _
  refine Eq.trans (li_iload d177_466 (by rfl)) ?_
  refine Eq.trans (li_iload d177_468 (by rfl)) ?_
  refine Eq.trans (li_icmp_ge (t := 478) d177_470 (by rfl)) ?_
  refine lt_ite (fun c1 => ?_) (fun c1 => ?_)
  · refine Eq.trans (li_iinc (ls' := [some (.inr (.inr (some a0))), some (.inl x1), some (.inl x2), some (.inl x3), some (.inl x4), some (.inl x5), some (.inl x6), some (.inl x7), some (.inl x8), some (.inl x9), some (.inl x10), some (.inl x11), some (.inl x12), some (.inl x13), some (.inl x14), some (.inl x15), some (.inl (x16 + (1 : Int32))), some (.inl x17), some (.inr (.inl x18)), none]) d177_478 (by rfl) (by decide) ic_1 (by rfl)) ?_
    refine Eq.trans (li_goto (t := 367) d177_481 (by rfl)) ?_
    rfl
  · refine Eq.trans (li_lload d177_473 (by rfl)) ?_
    refine Eq.trans (li_l2i d177_475) ?_
    refine Eq.trans (li_istore (ls' := [some (.inr (.inr (some a0))), some (.inl x1), some (.inl x2), some (.inl x3), some (.inl x4), some (.inl x5), some (.inl x6), some (.inl x7), some (.inl x8), some (.inl x9), some (.inl x10), some (.inl x11), some (.inl x12), some (.inl x13), some (.inl x14), some (.inl ((x18).toInt32)), some (.inl x16), some (.inl x17), some (.inr (.inl x18)), none]) d177_476 (by decide) (by rfl)) ?_
    refine Eq.trans (li_iinc (ls' := [some (.inr (.inr (some a0))), some (.inl x1), some (.inl x2), some (.inl x3), some (.inl x4), some (.inl x5), some (.inl x6), some (.inl x7), some (.inl x8), some (.inl x9), some (.inl x10), some (.inl x11), some (.inl x12), some (.inl x13), some (.inl x14), some (.inl ((x18).toInt32)), some (.inl (x16 + (1 : Int32))), some (.inl x17), some (.inr (.inl x18)), none]) d177_478 (by rfl) (by decide) ic_1 (by rfl)) ?_
    refine Eq.trans (li_goto (t := 367) d177_481 (by rfl)) ?_
    rfl
theorem E177_495 (d : Nat) (a0 : Nat) (x1 : Int32) (x2 : Int32) (x3 : Int32) (x4 : Int32) (x5 : Int32) (x6 : Int32) (x7 : Int32) (x8 : Int32) (x9 : Int32) (x10 : Int32) (x11 : Int32) (x12 : Int32) (x13 : Int32) (x14 : Int32) (x15 : Int32) (x16 : Int32) (o17 : Option ts_V) (o18 : Option ts_V)  (m : lt_m) : L177_495 d a0 x1 x2 x3 x4 x5 x6 x7 x8 x9 x10 x11 x12 x13 x14 x15 x16 o17 o18 m = if ¬ x11 = (3 : Int32) then (L177_516 d a0 x1 x2 x3 x4 x5 x6 x7 x8 x9 x10 x11 x12 x13 x14 x15 x16 (o17) (o18) m) else (if x3 ≤ x14 then (some (some (.inl (0 : Int32)), m)) else (if (x14 + (72 : Int32)) ≤ x3 then (some (some (.inl (0 : Int32)), m)) else (L177_516 d a0 x1 x2 x3 x4 x5 x6 x7 x8 x9 x10 x11 x12 x13 x14 x15 x16 (o17) (o18) m))) := by
  show lt_run d Y177 495 [some (.inr (.inr (some a0))), some (.inl x1), some (.inl x2), some (.inl x3), some (.inl x4), some (.inl x5), some (.inl x6), some (.inl x7), some (.inl x8), some (.inl x9), some (.inl x10), some (.inl x11), some (.inl x12), some (.inl x13), some (.inl x14), some (.inl x15), some (.inl x16), o17, o18, none] [] m = _
  refine Eq.trans (li_iload d177_495 (by rfl)) ?_
  refine Eq.trans (li_iconst d177_497 ic_3) ?_
  refine Eq.trans (li_icmp_ne (t := 516) d177_498 (by rfl)) ?_
  refine lt_ite (fun c1 => ?_) (fun c1 => ?_)
  · rfl
  · refine Eq.trans (li_iload_n d177_501 (by rfl)) ?_
    refine Eq.trans (li_iload d177_502 (by rfl)) ?_
    refine Eq.trans (li_icmp_le (t := 561) d177_504 (by rfl)) ?_
    refine lt_ite (fun c2 => ?_) (fun c2 => ?_)
    · refine Eq.trans (li_iconst d177_561 ic_0) ?_
      exact li_zret d177_562 rfl (by decide)
    · refine Eq.trans (li_iload_n d177_507 (by rfl)) ?_
      refine Eq.trans (li_iload d177_508 (by rfl)) ?_
      refine Eq.trans (li_bipush d177_510 bi_72) ?_
      refine Eq.trans (li_iadd d177_512) ?_
      refine Eq.trans (li_icmp_ge (t := 561) d177_513 (by rfl)) ?_
      refine lt_ite (fun c3 => ?_) (fun c3 => ?_)
      · refine Eq.trans (li_iconst d177_561 ic_0) ?_
        exact li_zret d177_562 rfl (by decide)
      · rfl
theorem E177_516 (d : Nat) (a0 : Nat) (x1 : Int32) (x2 : Int32) (x3 : Int32) (x4 : Int32) (x5 : Int32) (x6 : Int32) (x7 : Int32) (x8 : Int32) (x9 : Int32) (x10 : Int32) (x11 : Int32) (x12 : Int32) (x13 : Int32) (x14 : Int32) (x15 : Int32) (x16 : Int32) (o17 : Option ts_V) (o18 : Option ts_V)  (m : lt_m) : L177_516 d a0 x1 x2 x3 x4 x5 x6 x7 x8 x9 x10 x11 x12 x13 x14 x15 x16 o17 o18 m = if ¬ x11 = (1 : Int32) then (L177_527 d a0 x1 x2 x3 x4 x5 x6 x7 x8 x9 x10 x11 x12 x13 x14 x15 x16 (o17) (o18) (0 : Int32) m) else (L177_527 d a0 x1 x2 x3 x4 x5 x6 x7 x8 x9 x10 x11 x12 x13 x14 x15 x16 (o17) (o18) (1 : Int32) m) := by
  show lt_run d Y177 516 [some (.inr (.inr (some a0))), some (.inl x1), some (.inl x2), some (.inl x3), some (.inl x4), some (.inl x5), some (.inl x6), some (.inl x7), some (.inl x8), some (.inl x9), some (.inl x10), some (.inl x11), some (.inl x12), some (.inl x13), some (.inl x14), some (.inl x15), some (.inl x16), o17, o18, none] [] m = _
  refine Eq.trans (li_iload d177_516 (by rfl)) ?_
  refine Eq.trans (li_iconst d177_518 ic_1) ?_
  refine Eq.trans (li_icmp_ne (t := 526) d177_519 (by rfl)) ?_
  refine lt_ite (fun c1 => ?_) (fun c1 => ?_)
  · refine Eq.trans (li_iconst d177_526 ic_0) ?_
    rfl
  · refine Eq.trans (li_iconst d177_522 ic_1) ?_
    refine Eq.trans (li_goto (t := 527) d177_523 (by rfl)) ?_
    rfl
theorem E177_527 (d : Nat) (a0 : Nat) (x1 : Int32) (x2 : Int32) (x3 : Int32) (x4 : Int32) (x5 : Int32) (x6 : Int32) (x7 : Int32) (x8 : Int32) (x9 : Int32) (x10 : Int32) (x11 : Int32) (x12 : Int32) (x13 : Int32) (x14 : Int32) (x15 : Int32) (x16 : Int32) (o17 : Option ts_V) (o18 : Option ts_V) (xt0 : Int32)  (m : lt_m) : L177_527 d a0 x1 x2 x3 x4 x5 x6 x7 x8 x9 x10 x11 x12 x13 x14 x15 x16 o17 o18 xt0 m = if ¬ x11 = (1 : Int32) then (L177_545 d a0 x1 x2 x3 x4 x5 x6 x7 x8 x9 x10 x11 x12 x13 x14 x15 x16 (o17) (o18) (0 : Int32) xt0 m) else (if ¬ x12 = x13 then (L177_545 d a0 x1 x2 x3 x4 x5 x6 x7 x8 x9 x10 x11 x12 x13 x14 x15 x16 (o17) (o18) (0 : Int32) xt0 m) else (L177_545 d a0 x1 x2 x3 x4 x5 x6 x7 x8 x9 x10 x11 x12 x13 x14 x15 x16 (o17) (o18) (1 : Int32) xt0 m)) := by
  show lt_run d Y177 527 [some (.inr (.inr (some a0))), some (.inl x1), some (.inl x2), some (.inl x3), some (.inl x4), some (.inl x5), some (.inl x6), some (.inl x7), some (.inl x8), some (.inl x9), some (.inl x10), some (.inl x11), some (.inl x12), some (.inl x13), some (.inl x14), some (.inl x15), some (.inl x16), o17, o18, none] [.inl xt0] m = _
  refine Eq.trans (li_iload d177_527 (by rfl)) ?_
  refine Eq.trans (li_iconst d177_529 ic_1) ?_
  refine Eq.trans (li_icmp_ne (t := 544) d177_530 (by rfl)) ?_
  refine lt_ite (fun c1 => ?_) (fun c1 => ?_)
  · refine Eq.trans (li_iconst d177_544 ic_0) ?_
    rfl
  · refine Eq.trans (li_iload d177_533 (by rfl)) ?_
    refine Eq.trans (li_iload d177_535 (by rfl)) ?_
    refine Eq.trans (li_icmp_ne (t := 544) d177_537 (by rfl)) ?_
    refine lt_ite (fun c2 => ?_) (fun c2 => ?_)
    · refine Eq.trans (li_iconst d177_544 ic_0) ?_
      rfl
    · refine Eq.trans (li_iconst d177_540 ic_1) ?_
      refine Eq.trans (li_goto (t := 545) d177_541 (by rfl)) ?_
      rfl
theorem E177_545 (d : Nat) (a0 : Nat) (x1 : Int32) (x2 : Int32) (x3 : Int32) (x4 : Int32) (x5 : Int32) (x6 : Int32) (x7 : Int32) (x8 : Int32) (x9 : Int32) (x10 : Int32) (x11 : Int32) (x12 : Int32) (x13 : Int32) (x14 : Int32) (x15 : Int32) (x16 : Int32) (o17 : Option ts_V) (o18 : Option ts_V) (xt0 : Int32) (xt1 : Int32)  (m : lt_m) : L177_545 d a0 x1 x2 x3 x4 x5 x6 x7 x8 x9 x10 x11 x12 x13 x14 x15 x16 o17 o18 xt0 xt1 m = if ¬ xt1 = xt0 then (some (some (.inl (0 : Int32)), m)) else (if x13 ≤ x12 then (L177_563 d a0 x1 x2 x3 x4 x5 x6 x7 x8 x9 x10 x11 x12 x13 x14 x15 x16 (o17) (o18) m) else (if ¬ x11 = (1 : Int32) then (L177_563 d a0 x1 x2 x3 x4 x5 x6 x7 x8 x9 x10 x11 x12 x13 x14 x15 x16 (o17) (o18) m) else (some (some (.inl (0 : Int32)), m)))) := by
  show lt_run d Y177 545 [some (.inr (.inr (some a0))), some (.inl x1), some (.inl x2), some (.inl x3), some (.inl x4), some (.inl x5), some (.inl x6), some (.inl x7), some (.inl x8), some (.inl x9), some (.inl x10), some (.inl x11), some (.inl x12), some (.inl x13), some (.inl x14), some (.inl x15), some (.inl x16), o17, o18, none] [.inl xt0, .inl xt1] m = _
  refine Eq.trans (li_icmp_ne (t := 561) d177_545 (by rfl)) ?_
  refine lt_ite (fun c1 => ?_) (fun c1 => ?_)
  · refine Eq.trans (li_iconst d177_561 ic_0) ?_
    exact li_zret d177_562 rfl (by decide)
  · refine Eq.trans (li_iload d177_548 (by rfl)) ?_
    refine Eq.trans (li_iload d177_550 (by rfl)) ?_
    refine Eq.trans (li_icmp_ge (t := 563) d177_552 (by rfl)) ?_
    refine lt_ite (fun c2 => ?_) (fun c2 => ?_)
    · rfl
    · refine Eq.trans (li_iload d177_555 (by rfl)) ?_
      refine Eq.trans (li_iconst d177_557 ic_1) ?_
      refine Eq.trans (li_icmp_ne (t := 563) d177_558 (by rfl)) ?_
      refine lt_ite (fun c3 => ?_) (fun c3 => ?_)
      · rfl
      · refine Eq.trans (li_iconst d177_561 ic_0) ?_
        exact li_zret d177_562 rfl (by decide)
theorem E177_563 (d : Nat) (a0 : Nat) (x1 : Int32) (x2 : Int32) (x3 : Int32) (x4 : Int32) (x5 : Int32) (x6 : Int32) (x7 : Int32) (x8 : Int32) (x9 : Int32) (x10 : Int32) (x11 : Int32) (x12 : Int32) (x13 : Int32) (x14 : Int32) (x15 : Int32) (x16 : Int32) (o17 : Option ts_V) (o18 : Option ts_V) (h0 : ts_sh a0 = (0, 11)) (m : lt_m) : L177_563 d a0 x1 x2 x3 x4 x5 x6 x7 x8 x9 x10 x11 x12 x13 x14 x15 x16 o17 o18 m = lt_cI (lt_ev d 129 [.inr (.inr (some a0)), .inl x10, .inl (10 : Int32)] m) (fun v1 m1 => (if v1 ≤ 0 then (L177_579 d a0 x1 x2 x3 x4 x5 x6 x7 x8 x9 x10 x11 x12 x13 x14 x15 x16 (o17) (o18) (0 : Int32) m1) else (L177_579 d a0 x1 x2 x3 x4 x5 x6 x7 x8 x9 x10 x11 x12 x13 x14 x15 x16 (o17) (o18) (1 : Int32) m1))) := by
  show lt_run d Y177 563 [some (.inr (.inr (some a0))), some (.inl x1), some (.inl x2), some (.inl x3), some (.inl x4), some (.inl x5), some (.inl x6), some (.inl x7), some (.inl x8), some (.inl x9), some (.inl x10), some (.inl x11), some (.inl x12), some (.inl x13), some (.inl x14), some (.inl x15), some (.inl x16), o17, o18, none] [] m = _
  refine Eq.trans (li_aload_n d177_563 (by rfl)) ?_
  refine Eq.trans (li_iload d177_564 (by rfl)) ?_
  refine Eq.trans (li_bipush d177_566 bi_10) ?_
  refine Eq.trans (li_ivI d177_568 ca_14_64 kd_129 kl_129 (by rfl) (by rfl) h0 (Nat.le_of_ble_eq_true rfl) (Nat.le_of_ble_eq_true rfl)) ?_
  refine lt_cI_c (fun v1 m1 => ?_)
  refine Eq.trans (li_if_le (t := 578) d177_571 (by rfl)) ?_
  refine lt_ite (fun c1 => ?_) (fun c1 => ?_)
  · refine Eq.trans (li_iconst d177_578 ic_0) ?_
    rfl
  · refine Eq.trans (li_iconst d177_574 ic_1) ?_
    refine Eq.trans (li_goto (t := 579) d177_575 (by rfl)) ?_
    rfl
theorem E177_579 (d : Nat) (a0 : Nat) (x1 : Int32) (x2 : Int32) (x3 : Int32) (x4 : Int32) (x5 : Int32) (x6 : Int32) (x7 : Int32) (x8 : Int32) (x9 : Int32) (x10 : Int32) (x11 : Int32) (x12 : Int32) (x13 : Int32) (x14 : Int32) (x15 : Int32) (x16 : Int32) (o17 : Option ts_V) (o18 : Option ts_V) (xt0 : Int32)  (m : lt_m) : L177_579 d a0 x1 x2 x3 x4 x5 x6 x7 x8 x9 x10 x11 x12 x13 x14 x15 x16 o17 o18 xt0 m = if x11 ≤ (3 : Int32) then (L177_590 d a0 x1 x2 x3 x4 x5 x6 x7 x8 x9 x10 x11 x12 x13 x14 x15 x16 (o17) (o18) (0 : Int32) xt0 m) else (L177_590 d a0 x1 x2 x3 x4 x5 x6 x7 x8 x9 x10 x11 x12 x13 x14 x15 x16 (o17) (o18) (1 : Int32) xt0 m) := by
  show lt_run d Y177 579 [some (.inr (.inr (some a0))), some (.inl x1), some (.inl x2), some (.inl x3), some (.inl x4), some (.inl x5), some (.inl x6), some (.inl x7), some (.inl x8), some (.inl x9), some (.inl x10), some (.inl x11), some (.inl x12), some (.inl x13), some (.inl x14), some (.inl x15), some (.inl x16), o17, o18, none] [.inl xt0] m = _
  refine Eq.trans (li_iload d177_579 (by rfl)) ?_
  refine Eq.trans (li_iconst d177_581 ic_3) ?_
  refine Eq.trans (li_icmp_le (t := 589) d177_582 (by rfl)) ?_
  refine lt_ite (fun c1 => ?_) (fun c1 => ?_)
  · refine Eq.trans (li_iconst d177_589 ic_0) ?_
    rfl
  · refine Eq.trans (li_iconst d177_585 ic_1) ?_
    refine Eq.trans (li_goto (t := 590) d177_586 (by rfl)) ?_
    rfl
theorem E177_590 (d : Nat) (a0 : Nat) (x1 : Int32) (x2 : Int32) (x3 : Int32) (x4 : Int32) (x5 : Int32) (x6 : Int32) (x7 : Int32) (x8 : Int32) (x9 : Int32) (x10 : Int32) (x11 : Int32) (x12 : Int32) (x13 : Int32) (x14 : Int32) (x15 : Int32) (x16 : Int32) (o17 : Option ts_V) (o18 : Option ts_V) (xt0 : Int32) (xt1 : Int32) (h0 : ts_sh a0 = (0, 11)) (m : lt_m) : L177_590 d a0 x1 x2 x3 x4 x5 x6 x7 x8 x9 x10 x11 x12 x13 x14 x15 x16 o17 o18 xt0 xt1 m = if ¬ xt1 = xt0 then (some (some (.inl (0 : Int32)), m)) else (lt_cI (lt_ev d 132 [.inr (.inr (some a0)), .inl x10] m) (fun v1 m1 => (if v1 ≤ 0 then (L177_607 d a0 x1 x2 x3 x4 x5 x6 x7 x8 x9 x10 x11 x12 x13 x14 x15 x16 (o17) (o18) (0 : Int32) m1) else (L177_607 d a0 x1 x2 x3 x4 x5 x6 x7 x8 x9 x10 x11 x12 x13 x14 x15 x16 (o17) (o18) (1 : Int32) m1)))) := by
  show lt_run d Y177 590 [some (.inr (.inr (some a0))), some (.inl x1), some (.inl x2), some (.inl x3), some (.inl x4), some (.inl x5), some (.inl x6), some (.inl x7), some (.inl x8), some (.inl x9), some (.inl x10), some (.inl x11), some (.inl x12), some (.inl x13), some (.inl x14), some (.inl x15), some (.inl x16), o17, o18, none] [.inl xt0, .inl xt1] m = _
  refine Eq.trans (li_icmp_ne (t := 622) d177_590 (by rfl)) ?_
  refine lt_ite (fun c1 => ?_) (fun c1 => ?_)
  · refine Eq.trans (li_iconst d177_622 ic_0) ?_
    exact li_zret d177_623 rfl (by decide)
  · refine Eq.trans (li_aload_n d177_593 (by rfl)) ?_
    refine Eq.trans (li_iload d177_594 (by rfl)) ?_
    refine Eq.trans (li_ivI d177_596 ca_14_70 kd_132 kl_132 (by rfl) (by rfl) h0 (Nat.le_of_ble_eq_true rfl) (Nat.le_of_ble_eq_true rfl)) ?_
    refine lt_cI_c (fun v1 m1 => ?_)
    refine Eq.trans (li_if_le (t := 606) d177_599 (by rfl)) ?_
    refine lt_ite (fun c2 => ?_) (fun c2 => ?_)
    · refine Eq.trans (li_iconst d177_606 ic_0) ?_
      rfl
    · refine Eq.trans (li_iconst d177_602 ic_1) ?_
      refine Eq.trans (li_goto (t := 607) d177_603 (by rfl)) ?_
      rfl
theorem E177_607 (d : Nat) (a0 : Nat) (x1 : Int32) (x2 : Int32) (x3 : Int32) (x4 : Int32) (x5 : Int32) (x6 : Int32) (x7 : Int32) (x8 : Int32) (x9 : Int32) (x10 : Int32) (x11 : Int32) (x12 : Int32) (x13 : Int32) (x14 : Int32) (x15 : Int32) (x16 : Int32) (o17 : Option ts_V) (o18 : Option ts_V) (xt0 : Int32)  (m : lt_m) : L177_607 d a0 x1 x2 x3 x4 x5 x6 x7 x8 x9 x10 x11 x12 x13 x14 x15 x16 o17 o18 xt0 m = if x13 ≤ x12 then (L177_619 d a0 x1 x2 x3 x4 x5 x6 x7 x8 x9 x10 x11 x12 x13 x14 x15 x16 (o17) (o18) (0 : Int32) xt0 m) else (L177_619 d a0 x1 x2 x3 x4 x5 x6 x7 x8 x9 x10 x11 x12 x13 x14 x15 x16 (o17) (o18) (1 : Int32) xt0 m) := by
  show lt_run d Y177 607 [some (.inr (.inr (some a0))), some (.inl x1), some (.inl x2), some (.inl x3), some (.inl x4), some (.inl x5), some (.inl x6), some (.inl x7), some (.inl x8), some (.inl x9), some (.inl x10), some (.inl x11), some (.inl x12), some (.inl x13), some (.inl x14), some (.inl x15), some (.inl x16), o17, o18, none] [.inl xt0] m = _
  refine Eq.trans (li_iload d177_607 (by rfl)) ?_
  refine Eq.trans (li_iload d177_609 (by rfl)) ?_
  refine Eq.trans (li_icmp_ge (t := 618) d177_611 (by rfl)) ?_
  refine lt_ite (fun c1 => ?_) (fun c1 => ?_)
  · refine Eq.trans (li_iconst d177_618 ic_0) ?_
    rfl
  · refine Eq.trans (li_iconst d177_614 ic_1) ?_
    refine Eq.trans (li_goto (t := 619) d177_615 (by rfl)) ?_
    rfl
theorem E177_619 (d : Nat) (a0 : Nat) (x1 : Int32) (x2 : Int32) (x3 : Int32) (x4 : Int32) (x5 : Int32) (x6 : Int32) (x7 : Int32) (x8 : Int32) (x9 : Int32) (x10 : Int32) (x11 : Int32) (x12 : Int32) (x13 : Int32) (x14 : Int32) (x15 : Int32) (x16 : Int32) (o17 : Option ts_V) (o18 : Option ts_V) (xt0 : Int32) (xt1 : Int32) (h0 : ts_sh a0 = (0, 11)) (m : lt_m) : L177_619 d a0 x1 x2 x3 x4 x5 x6 x7 x8 x9 x10 x11 x12 x13 x14 x15 x16 o17 o18 xt0 xt1 m = if xt1 = xt0 then (if ¬ ((x9 >>> (x10 &&& 31)) &&& (1 : Int32)) = (1 : Int32) then (L177_649 d a0 x1 x2 x3 x4 x5 x6 x7 x8 x9 x10 x11 x12 x13 x14 x15 x16 (o17) (o18) m) else (lt_cI (lt_ev d 132 [.inr (.inr (some a0)), .inl x10] m) (fun v1 m1 => (if (x15 + v1) ≤ x14 then (some (some (.inl (0 : Int32)), m1)) else (L177_649 d a0 x1 x2 x3 x4 x5 x6 x7 x8 x9 x10 x11 x12 x13 x14 x15 x16 (o17) (o18) m1))))) else (some (some (.inl (0 : Int32)), m)) := by
  show lt_run d Y177 619 [some (.inr (.inr (some a0))), some (.inl x1), some (.inl x2), some (.inl x3), some (.inl x4), some (.inl x5), some (.inl x6), some (.inl x7), some (.inl x8), some (.inl x9), some (.inl x10), some (.inl x11), some (.inl x12), some (.inl x13), some (.inl x14), some (.inl x15), some (.inl x16), o17, o18, none] [.inl xt0, .inl xt1] m = _
  refine Eq.trans (li_icmp_eq (t := 624) d177_619 (by rfl)) ?_
  refine lt_ite (fun c1 => ?_) (fun c1 => ?_)
  · refine Eq.trans (li_iload d177_624 (by rfl)) ?_
    refine Eq.trans (li_iload d177_626 (by rfl)) ?_
    refine Eq.trans (li_ishr d177_628) ?_
    refine Eq.trans (li_iconst d177_629 ic_1) ?_
    refine Eq.trans (li_iand d177_630) ?_
    refine Eq.trans (li_iconst d177_631 ic_1) ?_
    refine Eq.trans (li_icmp_ne (t := 649) d177_632 (by rfl)) ?_
    refine lt_ite (fun c2 => ?_) (fun c2 => ?_)
    · rfl
    · refine Eq.trans (li_iload d177_635 (by rfl)) ?_
      refine Eq.trans (li_aload_n d177_637 (by rfl)) ?_
      refine Eq.trans (li_iload d177_638 (by rfl)) ?_
      refine Eq.trans (li_ivI d177_640 ca_14_70 kd_132 kl_132 (by rfl) (by rfl) h0 (Nat.le_of_ble_eq_true rfl) (Nat.le_of_ble_eq_true rfl)) ?_
      refine lt_cI_c (fun v1 m1 => ?_)
      refine Eq.trans (li_iadd d177_643) ?_
      refine Eq.trans (li_iload d177_644 (by rfl)) ?_
      refine Eq.trans (li_icmp_le (t := 678) d177_646 (by rfl)) ?_
      refine lt_ite (fun c3 => ?_) (fun c3 => ?_)
      · refine Eq.trans (li_iconst d177_678 ic_0) ?_
        exact li_zret d177_679 rfl (by decide)
      · rfl
  · refine Eq.trans (li_iconst d177_622 ic_0) ?_
    exact li_zret d177_623 rfl (by decide)
theorem E177_649 (d : Nat) (a0 : Nat) (x1 : Int32) (x2 : Int32) (x3 : Int32) (x4 : Int32) (x5 : Int32) (x6 : Int32) (x7 : Int32) (x8 : Int32) (x9 : Int32) (x10 : Int32) (x11 : Int32) (x12 : Int32) (x13 : Int32) (x14 : Int32) (x15 : Int32) (x16 : Int32) (o17 : Option ts_V) (o18 : Option ts_V) (h0 : ts_sh a0 = (0, 11)) (m : lt_m) : L177_649 d a0 x1 x2 x3 x4 x5 x6 x7 x8 x9 x10 x11 x12 x13 x14 x15 x16 o17 o18 m = if ¬ x11 = 0 then (L177_316 d a0 x1 x2 x3 x4 x5 x6 x7 x8 x9 (x10 + (1 : Int32)) (some (.inl x11)) (some (.inl x12)) (some (.inl x13)) (some (.inl x14)) (some (.inl x15)) (some (.inl x16)) (o17) (o18) m) else (if ¬ ((x9 >>> (x10 &&& 31)) &&& (1 : Int32)) = 0 then (L177_316 d a0 x1 x2 x3 x4 x5 x6 x7 x8 x9 (x10 + (1 : Int32)) (some (.inl x11)) (some (.inl x12)) (some (.inl x13)) (some (.inl x14)) (some (.inl x15)) (some (.inl x16)) (o17) (o18) m) else (lt_cI (lt_ev d 132 [.inr (.inr (some a0)), .inl x10] m) (fun v1 m1 => (if (x15 + v1) ≤ x14 then (L177_316 d a0 x1 x2 x3 x4 x5 x6 x7 x8 x9 (x10 + (1 : Int32)) (some (.inl x11)) (some (.inl x12)) (some (.inl x13)) (some (.inl x14)) (some (.inl x15)) (some (.inl x16)) (o17) (o18) m1) else (some (some (.inl (0 : Int32)), m1)))))) := by
  show lt_run d Y177 649 [some (.inr (.inr (some a0))), some (.inl x1), some (.inl x2), some (.inl x3), some (.inl x4), some (.inl x5), some (.inl x6), some (.inl x7), some (.inl x8), some (.inl x9), some (.inl x10), some (.inl x11), some (.inl x12), some (.inl x13), some (.inl x14), some (.inl x15), some (.inl x16), o17, o18, none] [] m = _
  refine Eq.trans (li_iload d177_649 (by rfl)) ?_
  refine Eq.trans (li_if_ne (t := 680) d177_651 (by rfl)) ?_
  refine lt_ite (fun c1 => ?_) (fun c1 => ?_)
  · refine Eq.trans (li_iinc (ls' := [some (.inr (.inr (some a0))), some (.inl x1), some (.inl x2), some (.inl x3), some (.inl x4), some (.inl x5), some (.inl x6), some (.inl x7), some (.inl x8), some (.inl x9), some (.inl (x10 + (1 : Int32))), some (.inl x11), some (.inl x12), some (.inl x13), some (.inl x14), some (.inl x15), some (.inl x16), o17, o18, none]) d177_680 (by rfl) (by decide) ic_1 (by rfl)) ?_
    refine Eq.trans (li_goto (t := 316) d177_683 (by rfl)) ?_
    rfl
  · refine Eq.trans (li_iload d177_654 (by rfl)) ?_
    refine Eq.trans (li_iload d177_656 (by rfl)) ?_
    refine Eq.trans (li_ishr d177_658) ?_
    refine Eq.trans (li_iconst d177_659 ic_1) ?_
    refine Eq.trans (li_iand d177_660) ?_
    refine Eq.trans (li_if_ne (t := 680) d177_661 (by rfl)) ?_
    refine lt_ite (fun c2 => ?_) (fun c2 => ?_)
    · refine Eq.trans (li_iinc (ls' := [some (.inr (.inr (some a0))), some (.inl x1), some (.inl x2), some (.inl x3), some (.inl x4), some (.inl x5), some (.inl x6), some (.inl x7), some (.inl x8), some (.inl x9), some (.inl (x10 + (1 : Int32))), some (.inl x11), some (.inl x12), some (.inl x13), some (.inl x14), some (.inl x15), some (.inl x16), o17, o18, none]) d177_680 (by rfl) (by decide) ic_1 (by rfl)) ?_
      refine Eq.trans (li_goto (t := 316) d177_683 (by rfl)) ?_
      rfl
    · refine Eq.trans (li_iload d177_664 (by rfl)) ?_
      refine Eq.trans (li_aload_n d177_666 (by rfl)) ?_
      refine Eq.trans (li_iload d177_667 (by rfl)) ?_
      refine Eq.trans (li_ivI d177_669 ca_14_70 kd_132 kl_132 (by rfl) (by rfl) h0 (Nat.le_of_ble_eq_true rfl) (Nat.le_of_ble_eq_true rfl)) ?_
      refine lt_cI_c (fun v1 m1 => ?_)
      refine Eq.trans (li_iadd d177_672) ?_
      refine Eq.trans (li_iload d177_673 (by rfl)) ?_
      refine Eq.trans (li_icmp_le (t := 680) d177_675 (by rfl)) ?_
      refine lt_ite (fun c3 => ?_) (fun c3 => ?_)
      · refine Eq.trans (li_iinc (ls' := [some (.inr (.inr (some a0))), some (.inl x1), some (.inl x2), some (.inl x3), some (.inl x4), some (.inl x5), some (.inl x6), some (.inl x7), some (.inl x8), some (.inl x9), some (.inl (x10 + (1 : Int32))), some (.inl x11), some (.inl x12), some (.inl x13), some (.inl x14), some (.inl x15), some (.inl x16), o17, o18, none]) d177_680 (by rfl) (by decide) ic_1 (by rfl)) ?_
        refine Eq.trans (li_goto (t := 316) d177_683 (by rfl)) ?_
        rfl
      · refine Eq.trans (li_iconst d177_678 ic_0) ?_
        exact li_zret d177_679 rfl (by decide)

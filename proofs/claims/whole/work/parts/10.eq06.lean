/-! ===== equations of methods ===== -/
/-! TransitSealsModel.isOnRoute(I)Z -/
theorem d225_0 : decode Y225.2.1 0 = .ok (.iconst 0, 1) := by decide +kernel
theorem d225_1 : decode Y225.2.1 1 = .ok (.istore_n 2, 1) := by decide +kernel
theorem d225_2 : decode Y225.2.1 2 = .ok (.iload_n 2, 1) := by decide +kernel
theorem d225_3 : decode Y225.2.1 3 = .ok (.aload_n 0, 1) := by decide +kernel
theorem d225_4 : decode Y225.2.1 4 = .ok (.getfield 161, 3) := by decide +kernel
theorem d225_7 : decode Y225.2.1 7 = .ok (.if_icmp .ge 21, 3) := by decide +kernel
theorem d225_10 : decode Y225.2.1 10 = .ok (.aload_n 0, 1) := by decide +kernel
theorem d225_11 : decode Y225.2.1 11 = .ok (.getfield 49, 3) := by decide +kernel
theorem d225_14 : decode Y225.2.1 14 = .ok (.iload_n 2, 1) := by decide +kernel
theorem d225_15 : decode Y225.2.1 15 = .ok (.iaload, 1) := by decide +kernel
theorem d225_16 : decode Y225.2.1 16 = .ok (.iload_n 1, 1) := by decide +kernel
theorem d225_17 : decode Y225.2.1 17 = .ok (.if_icmp .ne 5, 3) := by decide +kernel
theorem d225_20 : decode Y225.2.1 20 = .ok (.iconst 1, 1) := by decide +kernel
theorem d225_21 : decode Y225.2.1 21 = .ok (.ireturn, 1) := by decide +kernel
theorem d225_22 : decode Y225.2.1 22 = .ok (.iinc 2 1, 3) := by decide +kernel
theorem d225_25 : decode Y225.2.1 25 = .ok (.goto (-23), 3) := by decide +kernel
theorem d225_28 : decode Y225.2.1 28 = .ok (.iconst 0, 1) := by decide +kernel
theorem d225_29 : decode Y225.2.1 29 = .ok (.ireturn, 1) := by decide +kernel
noncomputable def L225_2 (d : Nat) (a0 : Nat) (x1 : Int32) (x2 : Int32) (m : lt_m) : Option lt_r := lt_run d Y225 2 [some (.inr (.inr (some a0))), some (.inl x1), some (.inl x2)] [] m
theorem E225 (d : Nat) (a0 : Nat) (x1 : Int32) (h0 : ts_sh a0 = (0, 12)) (m : lt_m) : lt_ev (d + 1) 225 [.inr (.inr (some a0)), .inl x1] m = L225_2 d a0 x1 (0 : Int32) m := by
  refine Eq.trans (lt_enter2 (ls := [some (.inr (.inr (some a0))), some (.inl x1), none]) hY225 (Nat.le_of_ble_eq_true rfl) (by rfl)) ?_
  refine Eq.trans (li_iconst d225_0 ic_0) ?_
  refine Eq.trans (li_istore_n (ls' := [some (.inr (.inr (some a0))), some (.inl x1), some (.inl (0 : Int32))]) d225_1 (by decide) (by rfl)) ?_
  rfl
theorem E225_2 (d : Nat) (a0 : Nat) (x1 : Int32) (x2 : Int32) (h0 : ts_sh a0 = (0, 12)) (m : lt_m) : L225_2 d a0 x1 x2 m = if (m.1 a0 26) ≤ x2 then (some (some (.inl (0 : Int32)), m)) else (lt_gd (0 ≤ x2 ∧ (x2).toNatClampNeg < 8) (if ¬ (m.1 (a0 + 12) (x2).toNatClampNeg) = x1 then (L225_2 d a0 x1 (x2 + (1 : Int32)) m) else (some (some (.inl (1 : Int32)), m)))) := by
  show lt_run d Y225 2 [some (.inr (.inr (some a0))), some (.inl x1), some (.inl x2)] [] m = _
  refine Eq.trans (li_iload_n d225_2 (by rfl)) ?_
  refine Eq.trans (li_aload_n d225_3 (by rfl)) ?_
  refine Eq.trans (li_geti d225_4 fa_12_161 h0 rfl) ?_
  refine Eq.trans (li_icmp_ge (t := 28) d225_7 (by rfl)) ?_
  refine lt_ite (fun c1 => ?_) (fun c1 => ?_)
  · refine Eq.trans (li_iconst d225_28 ic_0) ?_
    exact li_zret d225_29 rfl (by decide)
  · refine Eq.trans (li_aload_n d225_10 (by rfl)) ?_
    refine Eq.trans (li_getr d225_11 fa_12_49 h0 rfl rfl rfl (by decide)) ?_
    refine Eq.trans (li_iload_n d225_14 (by rfl)) ?_
    refine Eq.trans (li_iald d225_15 (sf_of h0 25 (by decide) (by decide))) ?_
    refine lt_gd_c (fun g1 => ?_)
    refine Eq.trans (li_iload_n d225_16 (by rfl)) ?_
    refine Eq.trans (li_icmp_ne (t := 22) d225_17 (by rfl)) ?_
    refine lt_ite (fun c2 => ?_) (fun c2 => ?_)
    · refine Eq.trans (li_iinc (ls' := [some (.inr (.inr (some a0))), some (.inl x1), some (.inl (x2 + (1 : Int32)))]) d225_22 (by rfl) (by decide) ic_1 (by rfl)) ?_
      refine Eq.trans (li_goto (t := 2) d225_25 (by rfl)) ?_
      rfl
    · refine Eq.trans (li_iconst d225_20 ic_1) ?_
      exact li_zret d225_21 rfl (by decide)
/-! TransitSealsModel.isGoods(I)Z -/
theorem d226_0 : decode Y226.2.1 0 = .ok (.iload_n 1, 1) := by decide +kernel
theorem d226_1 : decode Y226.2.1 1 = .ok (.i2l, 1) := by decide +kernel
theorem d226_2 : decode Y226.2.1 2 = .ok (.lconst 0, 1) := by decide +kernel
theorem d226_3 : decode Y226.2.1 3 = .ok (.aload_n 0, 1) := by decide +kernel
theorem d226_4 : decode Y226.2.1 4 = .ok (.getfield 80, 3) := by decide +kernel
theorem d226_7 : decode Y226.2.1 7 = .ok (.iconst 1, 1) := by decide +kernel
theorem d226_8 : decode Y226.2.1 8 = .ok (.isub, 1) := by decide +kernel
theorem d226_9 : decode Y226.2.1 9 = .ok (.i2l, 1) := by decide +kernel
theorem d226_10 : decode Y226.2.1 10 = .ok (.invokestatic 76, 3) := by decide +kernel
theorem d226_13 : decode Y226.2.1 13 = .ok (.ireturn, 1) := by decide +kernel
theorem E226 (d : Nat) (a0 : Nat) (x1 : Int32) (h0 : ts_sh a0 = (0, 12)) (m : lt_m) : lt_ev (d + 1) 226 [.inr (.inr (some a0)), .inl x1] m = lt_cI (lt_ev d 181 [.inr (.inl ((x1).toInt64)), .inr (.inl (0 : Int64)), .inr (.inl ((((m.1 a0 10) - (1 : Int32))).toInt64))] m) (fun v1 m1 => (lt_gd (v1 = 0 ∨ v1 = 1) (some (some (.inl v1), m1)))) := by
  refine Eq.trans (lt_enter2 (ls := [some (.inr (.inr (some a0))), some (.inl x1)]) hY226 (Nat.le_of_ble_eq_true rfl) (by rfl)) ?_
  refine Eq.trans (li_iload_n d226_0 (by rfl)) ?_
  refine Eq.trans (li_i2l d226_1) ?_
  refine Eq.trans (li_lconst (v := 0) d226_2 (by decide)) ?_
  refine Eq.trans (li_aload_n d226_3 (by rfl)) ?_
  refine Eq.trans (li_geti d226_4 fa_12_80 h0 rfl) ?_
  refine Eq.trans (li_iconst d226_7 ic_1) ?_
  refine Eq.trans (li_isub d226_8) ?_
  refine Eq.trans (li_i2l d226_9) ?_
  refine Eq.trans (li_isI d226_10 bi_12_76 ca_12_76 kd_181 (by rfl) (by rfl) (Nat.le_of_ble_eq_true rfl) (Nat.le_of_ble_eq_true rfl)) ?_
  refine lt_cI_c (fun v1 m1 => ?_)
  exact li_zretg d226_13 rfl
/-! TransitSealsModel.shareBy(II)I -/
theorem d227_0 : decode Y227.2.1 0 = .ok (.iload_n 0, 1) := by decide +kernel
theorem d227_1 : decode Y227.2.1 1 = .ok (.ifCond .ne 7, 3) := by decide +kernel
theorem d227_4 : decode Y227.2.1 4 = .ok (.iload_n 1, 1) := by decide +kernel
theorem d227_5 : decode Y227.2.1 5 = .ok (.goto 32, 3) := by decide +kernel
theorem d227_8 : decode Y227.2.1 8 = .ok (.iload_n 0, 1) := by decide +kernel
theorem d227_9 : decode Y227.2.1 9 = .ok (.iconst 1, 1) := by decide +kernel
theorem d227_10 : decode Y227.2.1 10 = .ok (.if_icmp .ne 11, 3) := by decide +kernel
theorem d227_13 : decode Y227.2.1 13 = .ok (.iload_n 1, 1) := by decide +kernel
theorem d227_14 : decode Y227.2.1 14 = .ok (.iconst 1, 1) := by decide +kernel
theorem d227_15 : decode Y227.2.1 15 = .ok (.iadd, 1) := by decide +kernel
theorem d227_16 : decode Y227.2.1 16 = .ok (.iconst 2, 1) := by decide +kernel
theorem d227_17 : decode Y227.2.1 17 = .ok (.idiv, 1) := by decide +kernel
theorem d227_18 : decode Y227.2.1 18 = .ok (.goto 19, 3) := by decide +kernel
theorem d227_21 : decode Y227.2.1 21 = .ok (.iload_n 0, 1) := by decide +kernel
theorem d227_22 : decode Y227.2.1 22 = .ok (.iconst 2, 1) := by decide +kernel
theorem d227_23 : decode Y227.2.1 23 = .ok (.if_icmp .ne 13, 3) := by decide +kernel
theorem d227_26 : decode Y227.2.1 26 = .ok (.iload_n 1, 1) := by decide +kernel
theorem d227_27 : decode Y227.2.1 27 = .ok (.bipush 9, 2) := by decide +kernel
theorem d227_29 : decode Y227.2.1 29 = .ok (.iadd, 1) := by decide +kernel
theorem d227_30 : decode Y227.2.1 30 = .ok (.bipush 10, 2) := by decide +kernel
theorem d227_32 : decode Y227.2.1 32 = .ok (.idiv, 1) := by decide +kernel
theorem d227_33 : decode Y227.2.1 33 = .ok (.goto 4, 3) := by decide +kernel
theorem d227_36 : decode Y227.2.1 36 = .ok (.iconst 0, 1) := by decide +kernel
theorem d227_37 : decode Y227.2.1 37 = .ok (.ireturn, 1) := by decide +kernel
theorem E227 (d : Nat) (x0 : Int32) (x1 : Int32)  (m : lt_m) : lt_ev (d + 1) 227 [.inl x0, .inl x1] m = if ¬ x0 = 0 then (if ¬ x0 = (1 : Int32) then (if ¬ x0 = (2 : Int32) then (some (some (.inl (0 : Int32)), m)) else (some (some (.inl ((x1 + (9 : Int32)) / (10 : Int32))), m))) else (some (some (.inl ((x1 + (1 : Int32)) / (2 : Int32))), m))) else (some (some (.inl x1), m)) := by
  refine Eq.trans (lt_enter2 (ls := [some (.inl x0), some (.inl x1)]) hY227 (Nat.le_of_ble_eq_true rfl) (by rfl)) ?_
  refine Eq.trans (li_iload_n d227_0 (by rfl)) ?_
  refine Eq.trans (li_if_ne (t := 8) d227_1 (by rfl)) ?_
  refine lt_ite (fun c1 => ?_) (fun c1 => ?_)
  · refine Eq.trans (li_iload_n d227_8 (by rfl)) ?_
    refine Eq.trans (li_iconst d227_9 ic_1) ?_
    refine Eq.trans (li_icmp_ne (t := 21) d227_10 (by rfl)) ?_
    refine lt_ite (fun c2 => ?_) (fun c2 => ?_)
    · refine Eq.trans (li_iload_n d227_21 (by rfl)) ?_
      refine Eq.trans (li_iconst d227_22 ic_2) ?_
      refine Eq.trans (li_icmp_ne (t := 36) d227_23 (by rfl)) ?_
      refine lt_ite (fun c3 => ?_) (fun c3 => ?_)
      · refine Eq.trans (li_iconst d227_36 ic_0) ?_
        exact li_iret d227_37 rfl
      · refine Eq.trans (li_iload_n d227_26 (by rfl)) ?_
        refine Eq.trans (li_bipush d227_27 bi_9) ?_
        refine Eq.trans (li_iadd d227_29) ?_
        refine Eq.trans (li_bipush d227_30 bi_10) ?_
        refine Eq.trans (li_idiv d227_32) ?_
        refine Eq.trans (lt_gd_t (by decide)) ?_
        refine Eq.trans (li_goto (t := 37) d227_33 (by rfl)) ?_
        exact li_iret d227_37 rfl
    · refine Eq.trans (li_iload_n d227_13 (by rfl)) ?_
      refine Eq.trans (li_iconst d227_14 ic_1) ?_
      refine Eq.trans (li_iadd d227_15) ?_
      refine Eq.trans (li_iconst d227_16 ic_2) ?_
      refine Eq.trans (li_idiv d227_17) ?_
      refine Eq.trans (lt_gd_t (by decide)) ?_
      refine Eq.trans (li_goto (t := 37) d227_18 (by rfl)) ?_
      exact li_iret d227_37 rfl
  · refine Eq.trans (li_iload_n d227_4 (by rfl)) ?_
    refine Eq.trans (li_goto (t := 37) d227_5 (by rfl)) ?_
    exact li_iret d227_37 rfl
/-! TransitSealsModel.sets(III)V -/
theorem d228_0 : decode Y228.2.1 0 = .ok (.aload_n 0, 1) := by decide +kernel
theorem d228_1 : decode Y228.2.1 1 = .ok (.getfield 7, 3) := by decide +kernel
theorem d228_4 : decode Y228.2.1 4 = .ok (.bipush 16, 2) := by decide +kernel
theorem d228_6 : decode Y228.2.1 6 = .ok (.bipush 26, 2) := by decide +kernel
theorem d228_8 : decode Y228.2.1 8 = .ok (.iload_n 1, 1) := by decide +kernel
theorem d228_9 : decode Y228.2.1 9 = .ok (.imul, 1) := by decide +kernel
theorem d228_10 : decode Y228.2.1 10 = .ok (.iadd, 1) := by decide +kernel
theorem d228_11 : decode Y228.2.1 11 = .ok (.iload_n 2, 1) := by decide +kernel
theorem d228_12 : decode Y228.2.1 12 = .ok (.iadd, 1) := by decide +kernel
theorem d228_13 : decode Y228.2.1 13 = .ok (.iload_n 3, 1) := by decide +kernel
theorem d228_14 : decode Y228.2.1 14 = .ok (.iastore, 1) := by decide +kernel
theorem d228_15 : decode Y228.2.1 15 = .ok (.return_, 1) := by decide +kernel
theorem E228 (d : Nat) (a0 : Nat) (x1 : Int32) (x2 : Int32) (x3 : Int32) (h0 : ts_sh a0 = (0, 12)) (m : lt_m) : lt_ev (d + 1) 228 [.inr (.inr (some a0)), .inl x1, .inl x2, .inl x3] m = lt_gd (0 ≤ (((16 : Int32) + ((26 : Int32) * x1)) + x2) ∧ ((((16 : Int32) + ((26 : Int32) * x1)) + x2)).toNatClampNeg < 626) (some (none, (lm_i m (a0 + 1) ((((16 : Int32) + ((26 : Int32) * x1)) + x2)).toNatClampNeg x3))) := by
  refine Eq.trans (lt_enter2 (ls := [some (.inr (.inr (some a0))), some (.inl x1), some (.inl x2), some (.inl x3)]) hY228 (Nat.le_of_ble_eq_true rfl) (by rfl)) ?_
  refine Eq.trans (li_aload_n d228_0 (by rfl)) ?_
  refine Eq.trans (li_getr d228_1 fa_12_7 h0 rfl rfl rfl (by decide)) ?_
  refine Eq.trans (li_bipush d228_4 bi_16) ?_
  refine Eq.trans (li_bipush d228_6 bi_26) ?_
  refine Eq.trans (li_iload_n d228_8 (by rfl)) ?_
  refine Eq.trans (li_imul d228_9) ?_
  refine Eq.trans (li_iadd d228_10) ?_
  refine Eq.trans (li_iload_n d228_11 (by rfl)) ?_
  refine Eq.trans (li_iadd d228_12) ?_
  refine Eq.trans (li_iload_n d228_13 (by rfl)) ?_
  refine Eq.trans (li_iast d228_14 (sf_of h0 0 (by decide) (by decide))) ?_
  refine lt_gd_c (fun g1 => ?_)
  exact li_vret d228_15 rfl
/-! TransitSealsModel.notes(III)V -/
theorem d229_0 : decode Y229.2.1 0 = .ok (.aload_n 0, 1) := by decide +kernel
theorem d229_1 : decode Y229.2.1 1 = .ok (.getfield 7, 3) := by decide +kernel
theorem d229_4 : decode Y229.2.1 4 = .ok (.iconst 3, 1) := by decide +kernel
theorem d229_5 : decode Y229.2.1 5 = .ok (.iaload, 1) := by decide +kernel
theorem d229_6 : decode Y229.2.1 6 = .ok (.bipush 30, 2) := by decide +kernel
theorem d229_8 : decode Y229.2.1 8 = .ok (.if_icmp .ne 48, 3) := by decide +kernel
theorem d229_11 : decode Y229.2.1 11 = .ok (.sipush 536, 3) := by decide +kernel
theorem d229_14 : decode Y229.2.1 14 = .ok (.istore 4, 2) := by decide +kernel
theorem d229_16 : decode Y229.2.1 16 = .ok (.iload 4, 2) := by decide +kernel
theorem d229_18 : decode Y229.2.1 18 = .ok (.sipush 623, 3) := by decide +kernel
theorem d229_21 : decode Y229.2.1 21 = .ok (.if_icmp .ge 25, 3) := by decide +kernel
theorem d229_24 : decode Y229.2.1 24 = .ok (.aload_n 0, 1) := by decide +kernel
theorem d229_25 : decode Y229.2.1 25 = .ok (.getfield 7, 3) := by decide +kernel
theorem d229_28 : decode Y229.2.1 28 = .ok (.iload 4, 2) := by decide +kernel
theorem d229_30 : decode Y229.2.1 30 = .ok (.aload_n 0, 1) := by decide +kernel
theorem d229_31 : decode Y229.2.1 31 = .ok (.getfield 7, 3) := by decide +kernel
theorem d229_34 : decode Y229.2.1 34 = .ok (.iload 4, 2) := by decide +kernel
theorem d229_36 : decode Y229.2.1 36 = .ok (.iconst 3, 1) := by decide +kernel
theorem d229_37 : decode Y229.2.1 37 = .ok (.iadd, 1) := by decide +kernel
theorem d229_38 : decode Y229.2.1 38 = .ok (.iaload, 1) := by decide +kernel
theorem d229_39 : decode Y229.2.1 39 = .ok (.iastore, 1) := by decide +kernel
theorem d229_40 : decode Y229.2.1 40 = .ok (.iinc 4 1, 3) := by decide +kernel
theorem d229_43 : decode Y229.2.1 43 = .ok (.goto (-27), 3) := by decide +kernel
theorem d229_46 : decode Y229.2.1 46 = .ok (.aload_n 0, 1) := by decide +kernel
theorem d229_47 : decode Y229.2.1 47 = .ok (.getfield 7, 3) := by decide +kernel
theorem d229_50 : decode Y229.2.1 50 = .ok (.iconst 3, 1) := by decide +kernel
theorem d229_51 : decode Y229.2.1 51 = .ok (.dup2, 1) := by decide +kernel
theorem d229_52 : decode Y229.2.1 52 = .ok (.iaload, 1) := by decide +kernel
theorem d229_53 : decode Y229.2.1 53 = .ok (.iconst 1, 1) := by decide +kernel
theorem d229_54 : decode Y229.2.1 54 = .ok (.isub, 1) := by decide +kernel
theorem d229_55 : decode Y229.2.1 55 = .ok (.iastore, 1) := by decide +kernel
theorem d229_56 : decode Y229.2.1 56 = .ok (.sipush 536, 3) := by decide +kernel
theorem d229_59 : decode Y229.2.1 59 = .ok (.iconst 3, 1) := by decide +kernel
theorem d229_60 : decode Y229.2.1 60 = .ok (.aload_n 0, 1) := by decide +kernel
theorem d229_61 : decode Y229.2.1 61 = .ok (.getfield 7, 3) := by decide +kernel
theorem d229_64 : decode Y229.2.1 64 = .ok (.iconst 3, 1) := by decide +kernel
theorem d229_65 : decode Y229.2.1 65 = .ok (.iaload, 1) := by decide +kernel
theorem d229_66 : decode Y229.2.1 66 = .ok (.imul, 1) := by decide +kernel
theorem d229_67 : decode Y229.2.1 67 = .ok (.iadd, 1) := by decide +kernel
theorem d229_68 : decode Y229.2.1 68 = .ok (.istore 4, 2) := by decide +kernel
theorem d229_70 : decode Y229.2.1 70 = .ok (.aload_n 0, 1) := by decide +kernel
theorem d229_71 : decode Y229.2.1 71 = .ok (.getfield 7, 3) := by decide +kernel
theorem d229_74 : decode Y229.2.1 74 = .ok (.iload 4, 2) := by decide +kernel
theorem d229_76 : decode Y229.2.1 76 = .ok (.iload_n 1, 1) := by decide +kernel
theorem d229_77 : decode Y229.2.1 77 = .ok (.iastore, 1) := by decide +kernel
theorem d229_78 : decode Y229.2.1 78 = .ok (.aload_n 0, 1) := by decide +kernel
theorem d229_79 : decode Y229.2.1 79 = .ok (.getfield 7, 3) := by decide +kernel
theorem d229_82 : decode Y229.2.1 82 = .ok (.iload 4, 2) := by decide +kernel
theorem d229_84 : decode Y229.2.1 84 = .ok (.iconst 1, 1) := by decide +kernel
theorem d229_85 : decode Y229.2.1 85 = .ok (.iadd, 1) := by decide +kernel
theorem d229_86 : decode Y229.2.1 86 = .ok (.iload_n 2, 1) := by decide +kernel
theorem d229_87 : decode Y229.2.1 87 = .ok (.iastore, 1) := by decide +kernel
theorem d229_88 : decode Y229.2.1 88 = .ok (.aload_n 0, 1) := by decide +kernel
theorem d229_89 : decode Y229.2.1 89 = .ok (.getfield 7, 3) := by decide +kernel
theorem d229_92 : decode Y229.2.1 92 = .ok (.iload 4, 2) := by decide +kernel
theorem d229_94 : decode Y229.2.1 94 = .ok (.iconst 2, 1) := by decide +kernel
theorem d229_95 : decode Y229.2.1 95 = .ok (.iadd, 1) := by decide +kernel
theorem d229_96 : decode Y229.2.1 96 = .ok (.iload_n 3, 1) := by decide +kernel
theorem d229_97 : decode Y229.2.1 97 = .ok (.iastore, 1) := by decide +kernel
theorem d229_98 : decode Y229.2.1 98 = .ok (.aload_n 0, 1) := by decide +kernel
theorem d229_99 : decode Y229.2.1 99 = .ok (.getfield 7, 3) := by decide +kernel
theorem d229_102 : decode Y229.2.1 102 = .ok (.iconst 3, 1) := by decide +kernel
theorem d229_103 : decode Y229.2.1 103 = .ok (.dup2, 1) := by decide +kernel
theorem d229_104 : decode Y229.2.1 104 = .ok (.iaload, 1) := by decide +kernel
theorem d229_105 : decode Y229.2.1 105 = .ok (.iconst 1, 1) := by decide +kernel
theorem d229_106 : decode Y229.2.1 106 = .ok (.iadd, 1) := by decide +kernel
theorem d229_107 : decode Y229.2.1 107 = .ok (.iastore, 1) := by decide +kernel
theorem d229_108 : decode Y229.2.1 108 = .ok (.return_, 1) := by decide +kernel
noncomputable def L229_16 (d : Nat) (a0 : Nat) (x1 : Int32) (x2 : Int32) (x3 : Int32) (x4 : Int32) (m : lt_m) : Option lt_r := lt_run d Y229 16 [some (.inr (.inr (some a0))), some (.inl x1), some (.inl x2), some (.inl x3), some (.inl x4)] [] m
noncomputable def L229_56 (d : Nat) (a0 : Nat) (x1 : Int32) (x2 : Int32) (x3 : Int32) (o4 : Option ts_V) (m : lt_m) : Option lt_r := lt_run d Y229 56 [some (.inr (.inr (some a0))), some (.inl x1), some (.inl x2), some (.inl x3), o4] [] m
theorem E229 (d : Nat) (a0 : Nat) (x1 : Int32) (x2 : Int32) (x3 : Int32) (h0 : ts_sh a0 = (0, 12)) (m : lt_m) : lt_ev (d + 1) 229 [.inr (.inr (some a0)), .inl x1, .inl x2, .inl x3] m = lt_gd (0 ≤ (3 : Int32) ∧ ((3 : Int32)).toNatClampNeg < 626) (if ¬ (m.1 (a0 + 1) ((3 : Int32)).toNatClampNeg) = (30 : Int32) then (L229_56 d a0 x1 x2 x3 none m) else (L229_16 d a0 x1 x2 x3 (536 : Int32) m)) := by
  refine Eq.trans (lt_enter2 (ls := [some (.inr (.inr (some a0))), some (.inl x1), some (.inl x2), some (.inl x3), none]) hY229 (Nat.le_of_ble_eq_true rfl) (by rfl)) ?_
  refine Eq.trans (li_aload_n d229_0 (by rfl)) ?_
  refine Eq.trans (li_getr d229_1 fa_12_7 h0 rfl rfl rfl (by decide)) ?_
  refine Eq.trans (li_iconst d229_4 ic_3) ?_
  refine Eq.trans (li_iald d229_5 (sf_of h0 0 (by decide) (by decide))) ?_
  refine lt_gd_c (fun g1 => ?_)
  refine Eq.trans (li_bipush d229_6 bi_30) ?_
  refine Eq.trans (li_icmp_ne (t := 56) d229_8 (by rfl)) ?_
  refine lt_ite (fun c1 => ?_) (fun c1 => ?_)
  · rfl
  · refine Eq.trans (li_sipush d229_11 si_536) ?_
    refine Eq.trans (li_istore (ls' := [some (.inr (.inr (some a0))), some (.inl x1), some (.inl x2), some (.inl x3), some (.inl (536 : Int32))]) d229_14 (by decide) (by rfl)) ?_
    rfl
theorem E229_16 (d : Nat) (a0 : Nat) (x1 : Int32) (x2 : Int32) (x3 : Int32) (x4 : Int32) (h0 : ts_sh a0 = (0, 12)) (m : lt_m) : L229_16 d a0 x1 x2 x3 x4 m = if (623 : Int32) ≤ x4 then (lt_gd (0 ≤ (3 : Int32) ∧ ((3 : Int32)).toNatClampNeg < 626) (lt_gd (0 ≤ (3 : Int32) ∧ ((3 : Int32)).toNatClampNeg < 626) (L229_56 d a0 x1 x2 x3 (some (.inl x4)) (lm_i m (a0 + 1) ((3 : Int32)).toNatClampNeg ((m.1 (a0 + 1) ((3 : Int32)).toNatClampNeg) - (1 : Int32)))))) else (lt_gd (0 ≤ (x4 + (3 : Int32)) ∧ ((x4 + (3 : Int32))).toNatClampNeg < 626) (lt_gd (0 ≤ x4 ∧ (x4).toNatClampNeg < 626) (L229_16 d a0 x1 x2 x3 (x4 + (1 : Int32)) (lm_i m (a0 + 1) (x4).toNatClampNeg (m.1 (a0 + 1) ((x4 + (3 : Int32))).toNatClampNeg))))) := by
  show lt_run d Y229 16 [some (.inr (.inr (some a0))), some (.inl x1), some (.inl x2), some (.inl x3), some (.inl x4)] [] m = _
  refine Eq.trans (li_iload d229_16 (by rfl)) ?_
  refine Eq.trans (li_sipush d229_18 si_623) ?_
  refine Eq.trans (li_icmp_ge (t := 46) d229_21 (by rfl)) ?_
  refine lt_ite (fun c1 => ?_) (fun c1 => ?_)
  · refine Eq.trans (li_aload_n d229_46 (by rfl)) ?_
    refine Eq.trans (li_getr d229_47 fa_12_7 h0 rfl rfl rfl (by decide)) ?_
    refine Eq.trans (li_iconst d229_50 ic_3) ?_
    refine Eq.trans (li_dup2 d229_51 rfl rfl) ?_
    refine Eq.trans (li_iald d229_52 (sf_of h0 0 (by decide) (by decide))) ?_
    refine lt_gd_c (fun g1 => ?_)
    refine Eq.trans (li_iconst d229_53 ic_1) ?_
    refine Eq.trans (li_isub d229_54) ?_
    refine Eq.trans (li_iast d229_55 (sf_of h0 0 (by decide) (by decide))) ?_
    refine lt_gd_c (fun g2 => ?_)
    rfl
  · refine Eq.trans (li_aload_n d229_24 (by rfl)) ?_
    refine Eq.trans (li_getr d229_25 fa_12_7 h0 rfl rfl rfl (by decide)) ?_
    refine Eq.trans (li_iload d229_28 (by rfl)) ?_
    refine Eq.trans (li_aload_n d229_30 (by rfl)) ?_
    refine Eq.trans (li_getr d229_31 fa_12_7 h0 rfl rfl rfl (by decide)) ?_
    refine Eq.trans (li_iload d229_34 (by rfl)) ?_
    refine Eq.trans (li_iconst d229_36 ic_3) ?_
    refine Eq.trans (li_iadd d229_37) ?_
    refine Eq.trans (li_iald d229_38 (sf_of h0 0 (by decide) (by decide))) ?_
    refine lt_gd_c (fun g3 => ?_)
    refine Eq.trans (li_iast d229_39 (sf_of h0 0 (by decide) (by decide))) ?_
    refine lt_gd_c (fun g4 => ?_)
    refine Eq.trans (li_iinc (ls' := [some (.inr (.inr (some a0))), some (.inl x1), some (.inl x2), some (.inl x3), some (.inl (x4 + (1 : Int32)))]) d229_40 (by rfl) (by decide) ic_1 (by rfl)) ?_
    refine Eq.trans (li_goto (t := 16) d229_43 (by rfl)) ?_
    rfl
theorem E229_56 (d : Nat) (a0 : Nat) (x1 : Int32) (x2 : Int32) (x3 : Int32) (o4 : Option ts_V) (h0 : ts_sh a0 = (0, 12)) (m : lt_m) : L229_56 d a0 x1 x2 x3 o4 m = lt_gd (0 ≤ (3 : Int32) ∧ ((3 : Int32)).toNatClampNeg < 626) (lt_gd (0 ≤ ((536 : Int32) + ((3 : Int32) * (m.1 (a0 + 1) ((3 : Int32)).toNatClampNeg))) ∧ (((536 : Int32) + ((3 : Int32) * (m.1 (a0 + 1) ((3 : Int32)).toNatClampNeg)))).toNatClampNeg < 626) (lt_gd (0 ≤ (((536 : Int32) + ((3 : Int32) * (m.1 (a0 + 1) ((3 : Int32)).toNatClampNeg))) + (1 : Int32)) ∧ ((((536 : Int32) + ((3 : Int32) * (m.1 (a0 + 1) ((3 : Int32)).toNatClampNeg))) + (1 : Int32))).toNatClampNeg < 626) (lt_gd (0 ≤ (((536 : Int32) + ((3 : Int32) * (m.1 (a0 + 1) ((3 : Int32)).toNatClampNeg))) + (2 : Int32)) ∧ ((((536 : Int32) + ((3 : Int32) * (m.1 (a0 + 1) ((3 : Int32)).toNatClampNeg))) + (2 : Int32))).toNatClampNeg < 626) (lt_gd (0 ≤ (3 : Int32) ∧ ((3 : Int32)).toNatClampNeg < 626) (lt_gd (0 ≤ (3 : Int32) ∧ ((3 : Int32)).toNatClampNeg < 626) (some (none, (lm_i (lm_i (lm_i (lm_i m (a0 + 1) (((536 : Int32) + ((3 : Int32) * (m.1 (a0 + 1) ((3 : Int32)).toNatClampNeg)))).toNatClampNeg x1) (a0 + 1) ((((536 : Int32) + ((3 : Int32) * (m.1 (a0 + 1) ((3 : Int32)).toNatClampNeg))) + (1 : Int32))).toNatClampNeg x2) (a0 + 1) ((((536 : Int32) + ((3 : Int32) * (m.1 (a0 + 1) ((3 : Int32)).toNatClampNeg))) + (2 : Int32))).toNatClampNeg x3) (a0 + 1) ((3 : Int32)).toNatClampNeg (((lm_i (lm_i (lm_i m (a0 + 1) (((536 : Int32) + ((3 : Int32) * (m.1 (a0 + 1) ((3 : Int32)).toNatClampNeg)))).toNatClampNeg x1) (a0 + 1) ((((536 : Int32) + ((3 : Int32) * (m.1 (a0 + 1) ((3 : Int32)).toNatClampNeg))) + (1 : Int32))).toNatClampNeg x2) (a0 + 1) ((((536 : Int32) + ((3 : Int32) * (m.1 (a0 + 1) ((3 : Int32)).toNatClampNeg))) + (2 : Int32))).toNatClampNeg x3).1 (a0 + 1) ((3 : Int32)).toNatClampNeg) + (1 : Int32)))))))))) := by
  show lt_run d Y229 56 [some (.inr (.inr (some a0))), some (.inl x1), some (.inl x2), some (.inl x3), o4] [] m = _
  refine Eq.trans (li_sipush d229_56 si_536) ?_
  refine Eq.trans (li_iconst d229_59 ic_3) ?_
  refine Eq.trans (li_aload_n d229_60 (by rfl)) ?_
  refine Eq.trans (li_getr d229_61 fa_12_7 h0 rfl rfl rfl (by decide)) ?_
  refine Eq.trans (li_iconst d229_64 ic_3) ?_
  refine Eq.trans (li_iald d229_65 (sf_of h0 0 (by decide) (by decide))) ?_
  refine lt_gd_c (fun g1 => ?_)
  refine Eq.trans (li_imul d229_66) ?_
  refine Eq.trans (li_iadd d229_67) ?_
  refine Eq.trans (li_istore (ls' := [some (.inr (.inr (some a0))), some (.inl x1), some (.inl x2), some (.inl x3), some (.inl ((536 : Int32) + ((3 : Int32) * (m.1 (a0 + 1) ((3 : Int32)).toNatClampNeg))))]) d229_68 (by decide) (by rfl)) ?_
  refine Eq.trans (li_aload_n d229_70 (by rfl)) ?_
  refine Eq.trans (li_getr d229_71 fa_12_7 h0 rfl rfl rfl (by decide)) ?_
  refine Eq.trans (li_iload d229_74 (by rfl)) ?_
  refine Eq.trans (li_iload_n d229_76 (by rfl)) ?_
  refine Eq.trans (li_iast d229_77 (sf_of h0 0 (by decide) (by decide))) ?_
  refine lt_gd_c (fun g2 => ?_)
  refine Eq.trans (li_aload_n d229_78 (by rfl)) ?_
  refine Eq.trans (li_getr d229_79 fa_12_7 h0 rfl rfl rfl (by decide)) ?_
  refine Eq.trans (li_iload d229_82 (by rfl)) ?_
  refine Eq.trans (li_iconst d229_84 ic_1) ?_
  refine Eq.trans (li_iadd d229_85) ?_
  refine Eq.trans (li_iload_n d229_86 (by rfl)) ?_
  refine Eq.trans (li_iast d229_87 (sf_of h0 0 (by decide) (by decide))) ?_
  refine lt_gd_c (fun g3 => ?_)
  refine Eq.trans (li_aload_n d229_88 (by rfl)) ?_
  refine Eq.trans (li_getr d229_89 fa_12_7 h0 rfl rfl rfl (by decide)) ?_
  refine Eq.trans (li_iload d229_92 (by rfl)) ?_
  refine Eq.trans (li_iconst d229_94 ic_2) ?_
  refine Eq.trans (li_iadd d229_95) ?_
  refine Eq.trans (li_iload_n d229_96 (by rfl)) ?_
  refine Eq.trans (li_iast d229_97 (sf_of h0 0 (by decide) (by decide))) ?_
  refine lt_gd_c (fun g4 => ?_)
  refine Eq.trans (li_aload_n d229_98 (by rfl)) ?_
  refine Eq.trans (li_getr d229_99 fa_12_7 h0 rfl rfl rfl (by decide)) ?_
  refine Eq.trans (li_iconst d229_102 ic_3) ?_
  refine Eq.trans (li_dup2 d229_103 rfl rfl) ?_
  refine Eq.trans (li_iald d229_104 (sf_of h0 0 (by decide) (by decide))) ?_
  refine lt_gd_c (fun g5 => ?_)
  refine Eq.trans (li_iconst d229_105 ic_1) ?_
  refine Eq.trans (li_iadd d229_106) ?_
  refine Eq.trans (li_iast d229_107 (sf_of h0 0 (by decide) (by decide))) ?_
  refine lt_gd_c (fun g6 => ?_)
  exact li_vret d229_108 rfl
/-! TransitSealsModel.stamps(II)I -/
theorem d230_0 : decode Y230.2.1 0 = .ok (.aload_n 0, 1) := by decide +kernel
theorem d230_1 : decode Y230.2.1 1 = .ok (.iconst 0, 1) := by decide +kernel
theorem d230_2 : decode Y230.2.1 2 = .ok (.putfield 67, 3) := by decide +kernel
theorem d230_5 : decode Y230.2.1 5 = .ok (.aload_n 0, 1) := by decide +kernel
theorem d230_6 : decode Y230.2.1 6 = .ok (.iload_n 1, 1) := by decide +kernel
theorem d230_7 : decode Y230.2.1 7 = .ok (.invokevirtual 272, 3) := by decide +kernel
theorem d230_10 : decode Y230.2.1 10 = .ok (.ifCond .eq 11, 3) := by decide +kernel
theorem d230_13 : decode Y230.2.1 13 = .ok (.aload_n 0, 1) := by decide +kernel
theorem d230_14 : decode Y230.2.1 14 = .ok (.iload_n 2, 1) := by decide +kernel
theorem d230_15 : decode Y230.2.1 15 = .ok (.invokevirtual 174, 3) := by decide +kernel
theorem d230_18 : decode Y230.2.1 18 = .ok (.ifCond .ne 5, 3) := by decide +kernel
theorem d230_21 : decode Y230.2.1 21 = .ok (.iconst (-1), 1) := by decide +kernel
theorem d230_22 : decode Y230.2.1 22 = .ok (.ireturn, 1) := by decide +kernel
theorem d230_23 : decode Y230.2.1 23 = .ok (.aload_n 0, 1) := by decide +kernel
theorem d230_24 : decode Y230.2.1 24 = .ok (.iload_n 1, 1) := by decide +kernel
theorem d230_25 : decode Y230.2.1 25 = .ok (.invokevirtual 179, 3) := by decide +kernel
theorem d230_28 : decode Y230.2.1 28 = .ok (.ifCond .ne 6, 3) := by decide +kernel
theorem d230_31 : decode Y230.2.1 31 = .ok (.bipush (-2), 2) := by decide +kernel
theorem d230_33 : decode Y230.2.1 33 = .ok (.ireturn, 1) := by decide +kernel
theorem d230_34 : decode Y230.2.1 34 = .ok (.aload_n 0, 1) := by decide +kernel
theorem d230_35 : decode Y230.2.1 35 = .ok (.iload_n 1, 1) := by decide +kernel
theorem d230_36 : decode Y230.2.1 36 = .ok (.bipush 6, 2) := by decide +kernel
theorem d230_38 : decode Y230.2.1 38 = .ok (.invokevirtual 83, 3) := by decide +kernel
theorem d230_41 : decode Y230.2.1 41 = .ok (.istore_n 3, 1) := by decide +kernel
theorem d230_42 : decode Y230.2.1 42 = .ok (.aload_n 0, 1) := by decide +kernel
theorem d230_43 : decode Y230.2.1 43 = .ok (.iload_n 1, 1) := by decide +kernel
theorem d230_44 : decode Y230.2.1 44 = .ok (.bipush 10, 2) := by decide +kernel
theorem d230_46 : decode Y230.2.1 46 = .ok (.iload_n 3, 1) := by decide +kernel
theorem d230_47 : decode Y230.2.1 47 = .ok (.iadd, 1) := by decide +kernel
theorem d230_48 : decode Y230.2.1 48 = .ok (.invokevirtual 83, 3) := by decide +kernel
theorem d230_51 : decode Y230.2.1 51 = .ok (.iload_n 2, 1) := by decide +kernel
theorem d230_52 : decode Y230.2.1 52 = .ok (.if_icmp .eq 6, 3) := by decide +kernel
theorem d230_55 : decode Y230.2.1 55 = .ok (.bipush (-3), 2) := by decide +kernel
theorem d230_57 : decode Y230.2.1 57 = .ok (.ireturn, 1) := by decide +kernel
theorem d230_58 : decode Y230.2.1 58 = .ok (.aload_n 0, 1) := by decide +kernel
theorem d230_59 : decode Y230.2.1 59 = .ok (.invokevirtual 243, 3) := by decide +kernel
theorem d230_62 : decode Y230.2.1 62 = .ok (.aload_n 0, 1) := by decide +kernel
theorem d230_63 : decode Y230.2.1 63 = .ok (.iload_n 1, 1) := by decide +kernel
theorem d230_64 : decode Y230.2.1 64 = .ok (.bipush 18, 2) := by decide +kernel
theorem d230_66 : decode Y230.2.1 66 = .ok (.iload_n 3, 1) := by decide +kernel
theorem d230_67 : decode Y230.2.1 67 = .ok (.iadd, 1) := by decide +kernel
theorem d230_68 : decode Y230.2.1 68 = .ok (.aload_n 0, 1) := by decide +kernel
theorem d230_69 : decode Y230.2.1 69 = .ok (.getfield 7, 3) := by decide +kernel
theorem d230_72 : decode Y230.2.1 72 = .ok (.iconst 0, 1) := by decide +kernel
theorem d230_73 : decode Y230.2.1 73 = .ok (.iaload, 1) := by decide +kernel
theorem d230_74 : decode Y230.2.1 74 = .ok (.invokevirtual 94, 3) := by decide +kernel
theorem d230_77 : decode Y230.2.1 77 = .ok (.aload_n 0, 1) := by decide +kernel
theorem d230_78 : decode Y230.2.1 78 = .ok (.iload_n 1, 1) := by decide +kernel
theorem d230_79 : decode Y230.2.1 79 = .ok (.bipush 6, 2) := by decide +kernel
theorem d230_81 : decode Y230.2.1 81 = .ok (.iload_n 3, 1) := by decide +kernel
theorem d230_82 : decode Y230.2.1 82 = .ok (.iconst 1, 1) := by decide +kernel
theorem d230_83 : decode Y230.2.1 83 = .ok (.iadd, 1) := by decide +kernel
theorem d230_84 : decode Y230.2.1 84 = .ok (.invokevirtual 94, 3) := by decide +kernel
theorem d230_87 : decode Y230.2.1 87 = .ok (.aload_n 0, 1) := by decide +kernel
theorem d230_88 : decode Y230.2.1 88 = .ok (.iconst 1, 1) := by decide +kernel
theorem d230_89 : decode Y230.2.1 89 = .ok (.iload_n 1, 1) := by decide +kernel
theorem d230_90 : decode Y230.2.1 90 = .ok (.aload_n 0, 1) := by decide +kernel
theorem d230_91 : decode Y230.2.1 91 = .ok (.getfield 7, 3) := by decide +kernel
theorem d230_94 : decode Y230.2.1 94 = .ok (.iconst 0, 1) := by decide +kernel
theorem d230_95 : decode Y230.2.1 95 = .ok (.iaload, 1) := by decide +kernel
theorem d230_96 : decode Y230.2.1 96 = .ok (.invokevirtual 98, 3) := by decide +kernel
theorem d230_99 : decode Y230.2.1 99 = .ok (.aload_n 0, 1) := by decide +kernel
theorem d230_100 : decode Y230.2.1 100 = .ok (.iload_n 1, 1) := by decide +kernel
theorem d230_101 : decode Y230.2.1 101 = .ok (.bipush 9, 2) := by decide +kernel
theorem d230_103 : decode Y230.2.1 103 = .ok (.invokevirtual 83, 3) := by decide +kernel
theorem d230_106 : decode Y230.2.1 106 = .ok (.iload_n 3, 1) := by decide +kernel
theorem d230_107 : decode Y230.2.1 107 = .ok (.isub, 1) := by decide +kernel
theorem d230_108 : decode Y230.2.1 108 = .ok (.iconst 1, 1) := by decide +kernel
theorem d230_109 : decode Y230.2.1 109 = .ok (.isub, 1) := by decide +kernel
theorem d230_110 : decode Y230.2.1 110 = .ok (.istore 4, 2) := by decide +kernel
theorem d230_112 : decode Y230.2.1 112 = .ok (.iload 4, 2) := by decide +kernel
theorem d230_114 : decode Y230.2.1 114 = .ok (.ifCond .ne 10, 3) := by decide +kernel
theorem d230_117 : decode Y230.2.1 117 = .ok (.aload_n 0, 1) := by decide +kernel
theorem d230_118 : decode Y230.2.1 118 = .ok (.iload_n 1, 1) := by decide +kernel
theorem d230_119 : decode Y230.2.1 119 = .ok (.iconst 3, 1) := by decide +kernel
theorem d230_120 : decode Y230.2.1 120 = .ok (.iconst 1, 1) := by decide +kernel
theorem d230_121 : decode Y230.2.1 121 = .ok (.invokevirtual 94, 3) := by decide +kernel
theorem d230_124 : decode Y230.2.1 124 = .ok (.iload 4, 2) := by decide +kernel
theorem d230_126 : decode Y230.2.1 126 = .ok (.ireturn, 1) := by decide +kernel
theorem E230 (d : Nat) (a0 : Nat) (x1 : Int32) (x2 : Int32) (h0 : ts_sh a0 = (0, 12)) (m : lt_m) : lt_ev (d + 1) 230 [.inr (.inr (some a0)), .inl x1, .inl x2] m = lt_cI (lt_ev d 231 [.inr (.inr (some a0)), .inl x1] (lm_i m a0 15 (0 : Int32))) (fun v1 m1 => (if v1 = 0 then (some (some (.inl (-1 : Int32)), m1)) else (lt_cI (lt_ev d 193 [.inr (.inr (some a0)), .inl x2] m1) (fun v2 m2 => (if ¬ v2 = 0 then (lt_cI (lt_ev d 196 [.inr (.inr (some a0)), .inl x1] m2) (fun v3 m3 => (if ¬ v3 = 0 then (lt_cI (lt_ev d 198 [.inr (.inr (some a0)), .inl x1, .inl (6 : Int32)] m3) (fun v4 m4 => (lt_cI (lt_ev d 198 [.inr (.inr (some a0)), .inl x1, .inl ((10 : Int32) + v4)] m4) (fun v5 m5 => (if v5 = x2 then (lt_cV (lt_ev d 211 [.inr (.inr (some a0))] m5) (fun m6 => (lt_gd (0 ≤ (0 : Int32) ∧ ((0 : Int32)).toNatClampNeg < 626) (lt_cV (lt_ev d 228 [.inr (.inr (some a0)), .inl x1, .inl ((18 : Int32) + v4), .inl (m6.1 (a0 + 1) ((0 : Int32)).toNatClampNeg)] m6) (fun m7 => (lt_cV (lt_ev d 228 [.inr (.inr (some a0)), .inl x1, .inl (6 : Int32), .inl (v4 + (1 : Int32))] m7) (fun m8 => (lt_gd (0 ≤ (0 : Int32) ∧ ((0 : Int32)).toNatClampNeg < 626) (lt_cV (lt_ev d 229 [.inr (.inr (some a0)), .inl (1 : Int32), .inl x1, .inl (m8.1 (a0 + 1) ((0 : Int32)).toNatClampNeg)] m8) (fun m9 => (lt_cI (lt_ev d 198 [.inr (.inr (some a0)), .inl x1, .inl (9 : Int32)] m9) (fun v6 m10 => (if ¬ ((v6 - v4) - (1 : Int32)) = 0 then (some (some (.inl ((v6 - v4) - (1 : Int32))), m10)) else (lt_cV (lt_ev d 228 [.inr (.inr (some a0)), .inl x1, .inl (3 : Int32), .inl (1 : Int32)] m10) (fun m11 => (some (some (.inl ((v6 - v4) - (1 : Int32))), m11))))))))))))))))) else (some (some (.inl (-3 : Int32)), m5))))))) else (some (some (.inl (-2 : Int32)), m3))))) else (some (some (.inl (-1 : Int32)), m2))))))) := by
  refine Eq.trans (lt_enter2 (ls := [some (.inr (.inr (some a0))), some (.inl x1), some (.inl x2), none, none]) hY230 (Nat.le_of_ble_eq_true rfl) (by rfl)) ?_
  refine Eq.trans (li_aload_n d230_0 (by rfl)) ?_
  refine Eq.trans (li_iconst d230_1 ic_0) ?_
  refine Eq.trans (li_puti d230_2 fa_12_67 h0 rfl rfl) ?_
  refine Eq.trans (li_aload_n d230_5 (by rfl)) ?_
  refine Eq.trans (li_iload_n d230_6 (by rfl)) ?_
  refine Eq.trans (li_ivI d230_7 ca_12_272 kd_231 kl_231 (by rfl) (by rfl) h0 (Nat.le_of_ble_eq_true rfl) (Nat.le_of_ble_eq_true rfl)) ?_
  refine lt_cI_c (fun v1 m1 => ?_)
  refine Eq.trans (li_if_eq (t := 21) d230_10 (by rfl)) ?_
  refine lt_ite (fun c1 => ?_) (fun c1 => ?_)
  · refine Eq.trans (li_iconst d230_21 ic_n1) ?_
    exact li_iret d230_22 rfl
  · refine Eq.trans (li_aload_n d230_13 (by rfl)) ?_
    refine Eq.trans (li_iload_n d230_14 (by rfl)) ?_
    refine Eq.trans (li_ivI d230_15 ca_12_174 kd_193 kl_193 (by rfl) (by rfl) h0 (Nat.le_of_ble_eq_true rfl) (Nat.le_of_ble_eq_true rfl)) ?_
    refine lt_cI_c (fun v2 m2 => ?_)
    refine Eq.trans (li_if_ne (t := 23) d230_18 (by rfl)) ?_
    refine lt_ite (fun c2 => ?_) (fun c2 => ?_)
    · refine Eq.trans (li_aload_n d230_23 (by rfl)) ?_
      refine Eq.trans (li_iload_n d230_24 (by rfl)) ?_
      refine Eq.trans (li_ivI d230_25 ca_12_179 kd_196 kl_196 (by rfl) (by rfl) h0 (Nat.le_of_ble_eq_true rfl) (Nat.le_of_ble_eq_true rfl)) ?_
      refine lt_cI_c (fun v3 m3 => ?_)
      refine Eq.trans (li_if_ne (t := 34) d230_28 (by rfl)) ?_
      refine lt_ite (fun c3 => ?_) (fun c3 => ?_)
      · refine Eq.trans (li_aload_n d230_34 (by rfl)) ?_
        refine Eq.trans (li_iload_n d230_35 (by rfl)) ?_
        refine Eq.trans (li_bipush d230_36 bi_6) ?_
        refine Eq.trans (li_ivI d230_38 ca_12_83 kd_198 kl_198 (by rfl) (by rfl) h0 (Nat.le_of_ble_eq_true rfl) (Nat.le_of_ble_eq_true rfl)) ?_
        refine lt_cI_c (fun v4 m4 => ?_)
        refine Eq.trans (li_istore_n (ls' := [some (.inr (.inr (some a0))), some (.inl x1), some (.inl x2), some (.inl v4), none]) d230_41 (by decide) (by rfl)) ?_
        refine Eq.trans (li_aload_n d230_42 (by rfl)) ?_
        refine Eq.trans (li_iload_n d230_43 (by rfl)) ?_
        refine Eq.trans (li_bipush d230_44 bi_10) ?_
        refine Eq.trans (li_iload_n d230_46 (by rfl)) ?_
        refine Eq.trans (li_iadd d230_47) ?_
        refine Eq.trans (li_ivI d230_48 ca_12_83 kd_198 kl_198 (by rfl) (by rfl) h0 (Nat.le_of_ble_eq_true rfl) (Nat.le_of_ble_eq_true rfl)) ?_
        refine lt_cI_c (fun v5 m5 => ?_)
        refine Eq.trans (li_iload_n d230_51 (by rfl)) ?_
        refine Eq.trans (li_icmp_eq (t := 58) d230_52 (by rfl)) ?_
        refine lt_ite (fun c4 => ?_) (fun c4 => ?_)
        · refine Eq.trans (li_aload_n d230_58 (by rfl)) ?_
          refine Eq.trans (li_ivV d230_59 ca_12_243 kd_211 kl_211 (by rfl) (by rfl) h0 (Nat.le_of_ble_eq_true rfl) (Nat.le_of_ble_eq_true rfl)) ?_
          refine lt_cV_c (fun m6 => ?_)
          refine Eq.trans (li_aload_n d230_62 (by rfl)) ?_
          refine Eq.trans (li_iload_n d230_63 (by rfl)) ?_
          refine Eq.trans (li_bipush d230_64 bi_18) ?_
          refine Eq.trans (li_iload_n d230_66 (by rfl)) ?_
          refine Eq.trans (li_iadd d230_67) ?_
          refine Eq.trans (li_aload_n d230_68 (by rfl)) ?_
          refine Eq.trans (li_getr d230_69 fa_12_7 h0 rfl rfl rfl (by decide)) ?_
          refine Eq.trans (li_iconst d230_72 ic_0) ?_
          refine Eq.trans (li_iald d230_73 (sf_of h0 0 (by decide) (by decide))) ?_
          refine lt_gd_c (fun g1 => ?_)
          refine Eq.trans (li_ivV d230_74 ca_12_94 kd_228 kl_228 (by rfl) (by rfl) h0 (Nat.le_of_ble_eq_true rfl) (Nat.le_of_ble_eq_true rfl)) ?_
          refine lt_cV_c (fun m7 => ?_)
          refine Eq.trans (li_aload_n d230_77 (by rfl)) ?_
          refine Eq.trans (li_iload_n d230_78 (by rfl)) ?_
          refine Eq.trans (li_bipush d230_79 bi_6) ?_
          refine Eq.trans (li_iload_n d230_81 (by rfl)) ?_
          refine Eq.trans (li_iconst d230_82 ic_1) ?_
          refine Eq.trans (li_iadd d230_83) ?_
          refine Eq.trans (li_ivV d230_84 ca_12_94 kd_228 kl_228 (by rfl) (by rfl) h0 (Nat.le_of_ble_eq_true rfl) (Nat.le_of_ble_eq_true rfl)) ?_
          refine lt_cV_c (fun m8 => ?_)
          refine Eq.trans (li_aload_n d230_87 (by rfl)) ?_
          refine Eq.trans (li_iconst d230_88 ic_1) ?_
          refine Eq.trans (li_iload_n d230_89 (by rfl)) ?_
          refine Eq.trans (li_aload_n d230_90 (by rfl)) ?_
          refine Eq.trans (li_getr d230_91 fa_12_7 h0 rfl rfl rfl (by decide)) ?_
          refine Eq.trans (li_iconst d230_94 ic_0) ?_
          refine Eq.trans (li_iald d230_95 (sf_of h0 0 (by decide) (by decide))) ?_
          refine lt_gd_c (fun g2 => ?_)
          refine Eq.trans (li_ivV d230_96 ca_12_98 kd_229 kl_229 (by rfl) (by rfl) h0 (Nat.le_of_ble_eq_true rfl) (Nat.le_of_ble_eq_true rfl)) ?_
          refine lt_cV_c (fun m9 => ?_)
          refine Eq.trans (li_aload_n d230_99 (by rfl)) ?_
          refine Eq.trans (li_iload_n d230_100 (by rfl)) ?_
          refine Eq.trans (li_bipush d230_101 bi_9) ?_
          refine Eq.trans (li_ivI d230_103 ca_12_83 kd_198 kl_198 (by rfl) (by rfl) h0 (Nat.le_of_ble_eq_true rfl) (Nat.le_of_ble_eq_true rfl)) ?_
          refine lt_cI_c (fun v6 m10 => ?_)
          refine Eq.trans (li_iload_n d230_106 (by rfl)) ?_
          refine Eq.trans (li_isub d230_107) ?_
          refine Eq.trans (li_iconst d230_108 ic_1) ?_
          refine Eq.trans (li_isub d230_109) ?_
          refine Eq.trans (li_istore (ls' := [some (.inr (.inr (some a0))), some (.inl x1), some (.inl x2), some (.inl v4), some (.inl ((v6 - v4) - (1 : Int32)))]) d230_110 (by decide) (by rfl)) ?_
          refine Eq.trans (li_iload d230_112 (by rfl)) ?_
          refine Eq.trans (li_if_ne (t := 124) d230_114 (by rfl)) ?_
          refine lt_ite (fun c5 => ?_) (fun c5 => ?_)
          · refine Eq.trans (li_iload d230_124 (by rfl)) ?_
            exact li_iret d230_126 rfl
          · refine Eq.trans (li_aload_n d230_117 (by rfl)) ?_
            refine Eq.trans (li_iload_n d230_118 (by rfl)) ?_
            refine Eq.trans (li_iconst d230_119 ic_3) ?_
            refine Eq.trans (li_iconst d230_120 ic_1) ?_
            refine Eq.trans (li_ivV d230_121 ca_12_94 kd_228 kl_228 (by rfl) (by rfl) h0 (Nat.le_of_ble_eq_true rfl) (Nat.le_of_ble_eq_true rfl)) ?_
            refine lt_cV_c (fun m11 => ?_)
            refine Eq.trans (li_iload d230_124 (by rfl)) ?_
            exact li_iret d230_126 rfl
        · refine Eq.trans (li_bipush d230_55 bi_n3) ?_
          exact li_iret d230_57 rfl
      · refine Eq.trans (li_bipush d230_31 bi_n2) ?_
        exact li_iret d230_33 rfl
    · refine Eq.trans (li_iconst d230_21 ic_n1) ?_
      exact li_iret d230_22 rfl
/-! TransitSealsModel.isMove(I)Z -/
theorem d231_0 : decode Y231.2.1 0 = .ok (.iload_n 1, 1) := by decide +kernel
theorem d231_1 : decode Y231.2.1 1 = .ok (.i2l, 1) := by decide +kernel
theorem d231_2 : decode Y231.2.1 2 = .ok (.lconst 0, 1) := by decide +kernel
theorem d231_3 : decode Y231.2.1 3 = .ok (.aload_n 0, 1) := by decide +kernel
theorem d231_4 : decode Y231.2.1 4 = .ok (.getfield 7, 3) := by decide +kernel
theorem d231_7 : decode Y231.2.1 7 = .ok (.iconst 2, 1) := by decide +kernel
theorem d231_8 : decode Y231.2.1 8 = .ok (.iaload, 1) := by decide +kernel
theorem d231_9 : decode Y231.2.1 9 = .ok (.iconst 1, 1) := by decide +kernel
theorem d231_10 : decode Y231.2.1 10 = .ok (.isub, 1) := by decide +kernel
theorem d231_11 : decode Y231.2.1 11 = .ok (.i2l, 1) := by decide +kernel
theorem d231_12 : decode Y231.2.1 12 = .ok (.invokestatic 76, 3) := by decide +kernel
theorem d231_15 : decode Y231.2.1 15 = .ok (.ireturn, 1) := by decide +kernel
theorem E231 (d : Nat) (a0 : Nat) (x1 : Int32) (h0 : ts_sh a0 = (0, 12)) (m : lt_m) : lt_ev (d + 1) 231 [.inr (.inr (some a0)), .inl x1] m = lt_gd (0 ≤ (2 : Int32) ∧ ((2 : Int32)).toNatClampNeg < 626) (lt_cI (lt_ev d 181 [.inr (.inl ((x1).toInt64)), .inr (.inl (0 : Int64)), .inr (.inl ((((m.1 (a0 + 1) ((2 : Int32)).toNatClampNeg) - (1 : Int32))).toInt64))] m) (fun v1 m1 => (lt_gd (v1 = 0 ∨ v1 = 1) (some (some (.inl v1), m1))))) := by
  refine Eq.trans (lt_enter2 (ls := [some (.inr (.inr (some a0))), some (.inl x1)]) hY231 (Nat.le_of_ble_eq_true rfl) (by rfl)) ?_
  refine Eq.trans (li_iload_n d231_0 (by rfl)) ?_
  refine Eq.trans (li_i2l d231_1) ?_
  refine Eq.trans (li_lconst (v := 0) d231_2 (by decide)) ?_
  refine Eq.trans (li_aload_n d231_3 (by rfl)) ?_
  refine Eq.trans (li_getr d231_4 fa_12_7 h0 rfl rfl rfl (by decide)) ?_
  refine Eq.trans (li_iconst d231_7 ic_2) ?_
  refine Eq.trans (li_iald d231_8 (sf_of h0 0 (by decide) (by decide))) ?_
  refine lt_gd_c (fun g1 => ?_)
  refine Eq.trans (li_iconst d231_9 ic_1) ?_
  refine Eq.trans (li_isub d231_10) ?_
  refine Eq.trans (li_i2l d231_11) ?_
  refine Eq.trans (li_isI d231_12 bi_12_76 ca_12_76 kd_181 (by rfl) (by rfl) (Nat.le_of_ble_eq_true rfl) (Nat.le_of_ble_eq_true rfl)) ?_
  refine lt_cI_c (fun v1 m1 => ?_)
  exact li_zretg d231_15 rfl
/-! TransitSealsModel.breaks(I)I -/
theorem d232_0 : decode Y232.2.1 0 = .ok (.aload_n 0, 1) := by decide +kernel
theorem d232_1 : decode Y232.2.1 1 = .ok (.iconst 0, 1) := by decide +kernel
theorem d232_2 : decode Y232.2.1 2 = .ok (.putfield 67, 3) := by decide +kernel
theorem d232_5 : decode Y232.2.1 5 = .ok (.aload_n 0, 1) := by decide +kernel
theorem d232_6 : decode Y232.2.1 6 = .ok (.iload_n 1, 1) := by decide +kernel
theorem d232_7 : decode Y232.2.1 7 = .ok (.invokevirtual 272, 3) := by decide +kernel
theorem d232_10 : decode Y232.2.1 10 = .ok (.ifCond .ne 5, 3) := by decide +kernel
theorem d232_13 : decode Y232.2.1 13 = .ok (.iconst (-1), 1) := by decide +kernel
theorem d232_14 : decode Y232.2.1 14 = .ok (.ireturn, 1) := by decide +kernel
theorem d232_15 : decode Y232.2.1 15 = .ok (.aload_n 0, 1) := by decide +kernel
theorem d232_16 : decode Y232.2.1 16 = .ok (.iload_n 1, 1) := by decide +kernel
theorem d232_17 : decode Y232.2.1 17 = .ok (.invokevirtual 179, 3) := by decide +kernel
theorem d232_20 : decode Y232.2.1 20 = .ok (.ifCond .ne 6, 3) := by decide +kernel
theorem d232_23 : decode Y232.2.1 23 = .ok (.bipush (-2), 2) := by decide +kernel
theorem d232_25 : decode Y232.2.1 25 = .ok (.ireturn, 1) := by decide +kernel
theorem d232_26 : decode Y232.2.1 26 = .ok (.aload_n 0, 1) := by decide +kernel
theorem d232_27 : decode Y232.2.1 27 = .ok (.iload_n 1, 1) := by decide +kernel
theorem d232_28 : decode Y232.2.1 28 = .ok (.bipush 7, 2) := by decide +kernel
theorem d232_30 : decode Y232.2.1 30 = .ok (.invokevirtual 83, 3) := by decide +kernel
theorem d232_33 : decode Y232.2.1 33 = .ok (.iconst 1, 1) := by decide +kernel
theorem d232_34 : decode Y232.2.1 34 = .ok (.if_icmp .ne 6, 3) := by decide +kernel
theorem d232_37 : decode Y232.2.1 37 = .ok (.bipush (-3), 2) := by decide +kernel
theorem d232_39 : decode Y232.2.1 39 = .ok (.ireturn, 1) := by decide +kernel
theorem d232_40 : decode Y232.2.1 40 = .ok (.aload_n 0, 1) := by decide +kernel
theorem d232_41 : decode Y232.2.1 41 = .ok (.invokevirtual 243, 3) := by decide +kernel
theorem d232_44 : decode Y232.2.1 44 = .ok (.aload_n 0, 1) := by decide +kernel
theorem d232_45 : decode Y232.2.1 45 = .ok (.iload_n 1, 1) := by decide +kernel
theorem d232_46 : decode Y232.2.1 46 = .ok (.bipush 7, 2) := by decide +kernel
theorem d232_48 : decode Y232.2.1 48 = .ok (.iconst 1, 1) := by decide +kernel
theorem d232_49 : decode Y232.2.1 49 = .ok (.invokevirtual 94, 3) := by decide +kernel
theorem d232_52 : decode Y232.2.1 52 = .ok (.aload_n 0, 1) := by decide +kernel
theorem d232_53 : decode Y232.2.1 53 = .ok (.iconst 2, 1) := by decide +kernel
theorem d232_54 : decode Y232.2.1 54 = .ok (.iload_n 1, 1) := by decide +kernel
theorem d232_55 : decode Y232.2.1 55 = .ok (.aload_n 0, 1) := by decide +kernel
theorem d232_56 : decode Y232.2.1 56 = .ok (.getfield 7, 3) := by decide +kernel
theorem d232_59 : decode Y232.2.1 59 = .ok (.iconst 0, 1) := by decide +kernel
theorem d232_60 : decode Y232.2.1 60 = .ok (.iaload, 1) := by decide +kernel
theorem d232_61 : decode Y232.2.1 61 = .ok (.invokevirtual 98, 3) := by decide +kernel
theorem d232_64 : decode Y232.2.1 64 = .ok (.aload_n 0, 1) := by decide +kernel
theorem d232_65 : decode Y232.2.1 65 = .ok (.invokevirtual 275, 3) := by decide +kernel
theorem d232_68 : decode Y232.2.1 68 = .ok (.ireturn, 1) := by decide +kernel
theorem E232 (d : Nat) (a0 : Nat) (x1 : Int32) (h0 : ts_sh a0 = (0, 12)) (m : lt_m) : lt_ev (d + 1) 232 [.inr (.inr (some a0)), .inl x1] m = lt_cI (lt_ev d 231 [.inr (.inr (some a0)), .inl x1] (lm_i m a0 15 (0 : Int32))) (fun v1 m1 => (if ¬ v1 = 0 then (lt_cI (lt_ev d 196 [.inr (.inr (some a0)), .inl x1] m1) (fun v2 m2 => (if ¬ v2 = 0 then (lt_cI (lt_ev d 198 [.inr (.inr (some a0)), .inl x1, .inl (7 : Int32)] m2) (fun v3 m3 => (if ¬ v3 = (1 : Int32) then (lt_cV (lt_ev d 211 [.inr (.inr (some a0))] m3) (fun m4 => (lt_cV (lt_ev d 228 [.inr (.inr (some a0)), .inl x1, .inl (7 : Int32), .inl (1 : Int32)] m4) (fun m5 => (lt_gd (0 ≤ (0 : Int32) ∧ ((0 : Int32)).toNatClampNeg < 626) (lt_cV (lt_ev d 229 [.inr (.inr (some a0)), .inl (2 : Int32), .inl x1, .inl (m5.1 (a0 + 1) ((0 : Int32)).toNatClampNeg)] m5) (fun m6 => (lt_cI (lt_ev d 233 [.inr (.inr (some a0))] m6) (fun v4 m7 => (some (some (.inl v4), m7))))))))))) else (some (some (.inl (-3 : Int32)), m3))))) else (some (some (.inl (-2 : Int32)), m2))))) else (some (some (.inl (-1 : Int32)), m1)))) := by
  refine Eq.trans (lt_enter2 (ls := [some (.inr (.inr (some a0))), some (.inl x1)]) hY232 (Nat.le_of_ble_eq_true rfl) (by rfl)) ?_
  refine Eq.trans (li_aload_n d232_0 (by rfl)) ?_
  refine Eq.trans (li_iconst d232_1 ic_0) ?_
  refine Eq.trans (li_puti d232_2 fa_12_67 h0 rfl rfl) ?_
  refine Eq.trans (li_aload_n d232_5 (by rfl)) ?_
  refine Eq.trans (li_iload_n d232_6 (by rfl)) ?_
  refine Eq.trans (li_ivI d232_7 ca_12_272 kd_231 kl_231 (by rfl) (by rfl) h0 (Nat.le_of_ble_eq_true rfl) (Nat.le_of_ble_eq_true rfl)) ?_
  refine lt_cI_c (fun v1 m1 => ?_)
  refine Eq.trans (li_if_ne (t := 15) d232_10 (by rfl)) ?_
  refine lt_ite (fun c1 => ?_) (fun c1 => ?_)
  · refine Eq.trans (li_aload_n d232_15 (by rfl)) ?_
    refine Eq.trans (li_iload_n d232_16 (by rfl)) ?_
    refine Eq.trans (li_ivI d232_17 ca_12_179 kd_196 kl_196 (by rfl) (by rfl) h0 (Nat.le_of_ble_eq_true rfl) (Nat.le_of_ble_eq_true rfl)) ?_
    refine lt_cI_c (fun v2 m2 => ?_)
    refine Eq.trans (li_if_ne (t := 26) d232_20 (by rfl)) ?_
    refine lt_ite (fun c2 => ?_) (fun c2 => ?_)
    · refine Eq.trans (li_aload_n d232_26 (by rfl)) ?_
      refine Eq.trans (li_iload_n d232_27 (by rfl)) ?_
      refine Eq.trans (li_bipush d232_28 bi_7) ?_
      refine Eq.trans (li_ivI d232_30 ca_12_83 kd_198 kl_198 (by rfl) (by rfl) h0 (Nat.le_of_ble_eq_true rfl) (Nat.le_of_ble_eq_true rfl)) ?_
      refine lt_cI_c (fun v3 m3 => ?_)
      refine Eq.trans (li_iconst d232_33 ic_1) ?_
      refine Eq.trans (li_icmp_ne (t := 40) d232_34 (by rfl)) ?_
      refine lt_ite (fun c3 => ?_) (fun c3 => ?_)
      · refine Eq.trans (li_aload_n d232_40 (by rfl)) ?_
        refine Eq.trans (li_ivV d232_41 ca_12_243 kd_211 kl_211 (by rfl) (by rfl) h0 (Nat.le_of_ble_eq_true rfl) (Nat.le_of_ble_eq_true rfl)) ?_
        refine lt_cV_c (fun m4 => ?_)
        refine Eq.trans (li_aload_n d232_44 (by rfl)) ?_
        refine Eq.trans (li_iload_n d232_45 (by rfl)) ?_
        refine Eq.trans (li_bipush d232_46 bi_7) ?_
        refine Eq.trans (li_iconst d232_48 ic_1) ?_
        refine Eq.trans (li_ivV d232_49 ca_12_94 kd_228 kl_228 (by rfl) (by rfl) h0 (Nat.le_of_ble_eq_true rfl) (Nat.le_of_ble_eq_true rfl)) ?_
        refine lt_cV_c (fun m5 => ?_)
        refine Eq.trans (li_aload_n d232_52 (by rfl)) ?_
        refine Eq.trans (li_iconst d232_53 ic_2) ?_
        refine Eq.trans (li_iload_n d232_54 (by rfl)) ?_
        refine Eq.trans (li_aload_n d232_55 (by rfl)) ?_
        refine Eq.trans (li_getr d232_56 fa_12_7 h0 rfl rfl rfl (by decide)) ?_
        refine Eq.trans (li_iconst d232_59 ic_0) ?_
        refine Eq.trans (li_iald d232_60 (sf_of h0 0 (by decide) (by decide))) ?_
        refine lt_gd_c (fun g1 => ?_)
        refine Eq.trans (li_ivV d232_61 ca_12_98 kd_229 kl_229 (by rfl) (by rfl) h0 (Nat.le_of_ble_eq_true rfl) (Nat.le_of_ble_eq_true rfl)) ?_
        refine lt_cV_c (fun m6 => ?_)
        refine Eq.trans (li_aload_n d232_64 (by rfl)) ?_
        refine Eq.trans (li_ivI d232_65 ca_12_275 kd_233 kl_233 (by rfl) (by rfl) h0 (Nat.le_of_ble_eq_true rfl) (Nat.le_of_ble_eq_true rfl)) ?_
        refine lt_cI_c (fun v4 m7 => ?_)
        exact li_iret d232_68 rfl
      · refine Eq.trans (li_bipush d232_37 bi_n3) ?_
        exact li_iret d232_39 rfl
    · refine Eq.trans (li_bipush d232_23 bi_n2) ?_
      exact li_iret d232_25 rfl
  · refine Eq.trans (li_iconst d232_13 ic_n1) ?_
    exact li_iret d232_14 rfl
/-! TransitSealsModel.brokenSeals()I -/
theorem d233_0 : decode Y233.2.1 0 = .ok (.iconst 0, 1) := by decide +kernel
theorem d233_1 : decode Y233.2.1 1 = .ok (.istore_n 1, 1) := by decide +kernel
theorem d233_2 : decode Y233.2.1 2 = .ok (.iconst 0, 1) := by decide +kernel
theorem d233_3 : decode Y233.2.1 3 = .ok (.istore_n 2, 1) := by decide +kernel
theorem d233_4 : decode Y233.2.1 4 = .ok (.iload_n 2, 1) := by decide +kernel
theorem d233_5 : decode Y233.2.1 5 = .ok (.aload_n 0, 1) := by decide +kernel
theorem d233_6 : decode Y233.2.1 6 = .ok (.getfield 7, 3) := by decide +kernel
theorem d233_9 : decode Y233.2.1 9 = .ok (.iconst 2, 1) := by decide +kernel
theorem d233_10 : decode Y233.2.1 10 = .ok (.iaload, 1) := by decide +kernel
theorem d233_11 : decode Y233.2.1 11 = .ok (.if_icmp .ge 19, 3) := by decide +kernel
theorem d233_14 : decode Y233.2.1 14 = .ok (.iload_n 1, 1) := by decide +kernel
theorem d233_15 : decode Y233.2.1 15 = .ok (.aload_n 0, 1) := by decide +kernel
theorem d233_16 : decode Y233.2.1 16 = .ok (.iload_n 2, 1) := by decide +kernel
theorem d233_17 : decode Y233.2.1 17 = .ok (.bipush 7, 2) := by decide +kernel
theorem d233_19 : decode Y233.2.1 19 = .ok (.invokevirtual 83, 3) := by decide +kernel
theorem d233_22 : decode Y233.2.1 22 = .ok (.iadd, 1) := by decide +kernel
theorem d233_23 : decode Y233.2.1 23 = .ok (.istore_n 1, 1) := by decide +kernel
theorem d233_24 : decode Y233.2.1 24 = .ok (.iinc 2 1, 3) := by decide +kernel
theorem d233_27 : decode Y233.2.1 27 = .ok (.goto (-23), 3) := by decide +kernel
theorem d233_30 : decode Y233.2.1 30 = .ok (.iload_n 1, 1) := by decide +kernel
theorem d233_31 : decode Y233.2.1 31 = .ok (.ireturn, 1) := by decide +kernel
noncomputable def L233_4 (d : Nat) (a0 : Nat) (x1 : Int32) (x2 : Int32) (m : lt_m) : Option lt_r := lt_run d Y233 4 [some (.inr (.inr (some a0))), some (.inl x1), some (.inl x2)] [] m
theorem E233 (d : Nat) (a0 : Nat) (h0 : ts_sh a0 = (0, 12)) (m : lt_m) : lt_ev (d + 1) 233 [.inr (.inr (some a0))] m = L233_4 d a0 (0 : Int32) (0 : Int32) m := by
  refine Eq.trans (lt_enter2 (ls := [some (.inr (.inr (some a0))), none, none]) hY233 (Nat.le_of_ble_eq_true rfl) (by rfl)) ?_
  refine Eq.trans (li_iconst d233_0 ic_0) ?_
  refine Eq.trans (li_istore_n (ls' := [some (.inr (.inr (some a0))), some (.inl (0 : Int32)), none]) d233_1 (by decide) (by rfl)) ?_
  refine Eq.trans (li_iconst d233_2 ic_0) ?_
  refine Eq.trans (li_istore_n (ls' := [some (.inr (.inr (some a0))), some (.inl (0 : Int32)), some (.inl (0 : Int32))]) d233_3 (by decide) (by rfl)) ?_
  rfl
theorem E233_4 (d : Nat) (a0 : Nat) (x1 : Int32) (x2 : Int32) (h0 : ts_sh a0 = (0, 12)) (m : lt_m) : L233_4 d a0 x1 x2 m = lt_gd (0 ≤ (2 : Int32) ∧ ((2 : Int32)).toNatClampNeg < 626) (if (m.1 (a0 + 1) ((2 : Int32)).toNatClampNeg) ≤ x2 then (some (some (.inl x1), m)) else (lt_cI (lt_ev d 198 [.inr (.inr (some a0)), .inl x2, .inl (7 : Int32)] m) (fun v1 m1 => (L233_4 d a0 (x1 + v1) (x2 + (1 : Int32)) m1)))) := by
  show lt_run d Y233 4 [some (.inr (.inr (some a0))), some (.inl x1), some (.inl x2)] [] m = _
  refine Eq.trans (li_iload_n d233_4 (by rfl)) ?_
  refine Eq.trans (li_aload_n d233_5 (by rfl)) ?_
  refine Eq.trans (li_getr d233_6 fa_12_7 h0 rfl rfl rfl (by decide)) ?_
  refine Eq.trans (li_iconst d233_9 ic_2) ?_
  refine Eq.trans (li_iald d233_10 (sf_of h0 0 (by decide) (by decide))) ?_
  refine lt_gd_c (fun g1 => ?_)
  refine Eq.trans (li_icmp_ge (t := 30) d233_11 (by rfl)) ?_
  refine lt_ite (fun c1 => ?_) (fun c1 => ?_)
  · refine Eq.trans (li_iload_n d233_30 (by rfl)) ?_
    exact li_iret d233_31 rfl
  · refine Eq.trans (li_iload_n d233_14 (by rfl)) ?_
    refine Eq.trans (li_aload_n d233_15 (by rfl)) ?_
    refine Eq.trans (li_iload_n d233_16 (by rfl)) ?_
    refine Eq.trans (li_bipush d233_17 bi_7) ?_
    refine Eq.trans (li_ivI d233_19 ca_12_83 kd_198 kl_198 (by rfl) (by rfl) h0 (Nat.le_of_ble_eq_true rfl) (Nat.le_of_ble_eq_true rfl)) ?_
    refine lt_cI_c (fun v1 m1 => ?_)
    refine Eq.trans (li_iadd d233_22) ?_
    refine Eq.trans (li_istore_n (ls' := [some (.inr (.inr (some a0))), some (.inl (x1 + v1)), some (.inl x2)]) d233_23 (by decide) (by rfl)) ?_
    refine Eq.trans (li_iinc (ls' := [some (.inr (.inr (some a0))), some (.inl (x1 + v1)), some (.inl (x2 + (1 : Int32)))]) d233_24 (by rfl) (by decide) ic_1 (by rfl)) ?_
    refine Eq.trans (li_goto (t := 4) d233_27 (by rfl)) ?_
    rfl
/-! TransitSealsModel.controls(II)I -/
theorem d234_0 : decode Y234.2.1 0 = .ok (.aload_n 0, 1) := by decide +kernel
theorem d234_1 : decode Y234.2.1 1 = .ok (.iconst 0, 1) := by decide +kernel
theorem d234_2 : decode Y234.2.1 2 = .ok (.putfield 67, 3) := by decide +kernel
theorem d234_5 : decode Y234.2.1 5 = .ok (.aload_n 0, 1) := by decide +kernel
theorem d234_6 : decode Y234.2.1 6 = .ok (.iload_n 1, 1) := by decide +kernel
theorem d234_7 : decode Y234.2.1 7 = .ok (.invokevirtual 272, 3) := by decide +kernel
theorem d234_10 : decode Y234.2.1 10 = .ok (.ifCond .eq 19, 3) := by decide +kernel
theorem d234_13 : decode Y234.2.1 13 = .ok (.iload_n 2, 1) := by decide +kernel
theorem d234_14 : decode Y234.2.1 14 = .ok (.i2l, 1) := by decide +kernel
theorem d234_15 : decode Y234.2.1 15 = .ok (.lconst 0, 1) := by decide +kernel
theorem d234_16 : decode Y234.2.1 16 = .ok (.aload_n 0, 1) := by decide +kernel
theorem d234_17 : decode Y234.2.1 17 = .ok (.iload_n 1, 1) := by decide +kernel
theorem d234_18 : decode Y234.2.1 18 = .ok (.iconst 2, 1) := by decide +kernel
theorem d234_19 : decode Y234.2.1 19 = .ok (.invokevirtual 83, 3) := by decide +kernel
theorem d234_22 : decode Y234.2.1 22 = .ok (.i2l, 1) := by decide +kernel
theorem d234_23 : decode Y234.2.1 23 = .ok (.invokestatic 76, 3) := by decide +kernel
theorem d234_26 : decode Y234.2.1 26 = .ok (.ifCond .ne 5, 3) := by decide +kernel
theorem d234_29 : decode Y234.2.1 29 = .ok (.iconst (-1), 1) := by decide +kernel
theorem d234_30 : decode Y234.2.1 30 = .ok (.ireturn, 1) := by decide +kernel
theorem d234_31 : decode Y234.2.1 31 = .ok (.aload_n 0, 1) := by decide +kernel
theorem d234_32 : decode Y234.2.1 32 = .ok (.iload_n 1, 1) := by decide +kernel
theorem d234_33 : decode Y234.2.1 33 = .ok (.invokevirtual 87, 3) := by decide +kernel
theorem d234_36 : decode Y234.2.1 36 = .ok (.iconst 1, 1) := by decide +kernel
theorem d234_37 : decode Y234.2.1 37 = .ok (.if_icmp .eq 6, 3) := by decide +kernel
theorem d234_40 : decode Y234.2.1 40 = .ok (.bipush (-2), 2) := by decide +kernel
theorem d234_42 : decode Y234.2.1 42 = .ok (.ireturn, 1) := by decide +kernel
theorem d234_43 : decode Y234.2.1 43 = .ok (.aload_n 0, 1) := by decide +kernel
theorem d234_44 : decode Y234.2.1 44 = .ok (.invokevirtual 243, 3) := by decide +kernel
theorem d234_47 : decode Y234.2.1 47 = .ok (.aload_n 0, 1) := by decide +kernel
theorem d234_48 : decode Y234.2.1 48 = .ok (.iload_n 1, 1) := by decide +kernel
theorem d234_49 : decode Y234.2.1 49 = .ok (.iconst 2, 1) := by decide +kernel
theorem d234_50 : decode Y234.2.1 50 = .ok (.invokevirtual 83, 3) := by decide +kernel
theorem d234_53 : decode Y234.2.1 53 = .ok (.iload_n 2, 1) := by decide +kernel
theorem d234_54 : decode Y234.2.1 54 = .ok (.isub, 1) := by decide +kernel
theorem d234_55 : decode Y234.2.1 55 = .ok (.aload_n 0, 1) := by decide +kernel
theorem d234_56 : decode Y234.2.1 56 = .ok (.getfield 25, 3) := by decide +kernel
theorem d234_59 : decode Y234.2.1 59 = .ok (.aload_n 0, 1) := by decide +kernel
theorem d234_60 : decode Y234.2.1 60 = .ok (.iload_n 1, 1) := by decide +kernel
theorem d234_61 : decode Y234.2.1 61 = .ok (.iconst 1, 1) := by decide +kernel
theorem d234_62 : decode Y234.2.1 62 = .ok (.invokevirtual 83, 3) := by decide +kernel
theorem d234_65 : decode Y234.2.1 65 = .ok (.iaload, 1) := by decide +kernel
theorem d234_66 : decode Y234.2.1 66 = .ok (.imul, 1) := by decide +kernel
theorem d234_67 : decode Y234.2.1 67 = .ok (.iconst 1, 1) := by decide +kernel
theorem d234_68 : decode Y234.2.1 68 = .ok (.aload_n 0, 1) := by decide +kernel
theorem d234_69 : decode Y234.2.1 69 = .ok (.iload_n 1, 1) := by decide +kernel
theorem d234_70 : decode Y234.2.1 70 = .ok (.bipush 7, 2) := by decide +kernel
theorem d234_72 : decode Y234.2.1 72 = .ok (.invokevirtual 83, 3) := by decide +kernel
theorem d234_75 : decode Y234.2.1 75 = .ok (.iadd, 1) := by decide +kernel
theorem d234_76 : decode Y234.2.1 76 = .ok (.imul, 1) := by decide +kernel
theorem d234_77 : decode Y234.2.1 77 = .ok (.istore_n 3, 1) := by decide +kernel
theorem d234_78 : decode Y234.2.1 78 = .ok (.aload_n 0, 1) := by decide +kernel
theorem d234_79 : decode Y234.2.1 79 = .ok (.iload_n 1, 1) := by decide +kernel
theorem d234_80 : decode Y234.2.1 80 = .ok (.bipush 8, 2) := by decide +kernel
theorem d234_82 : decode Y234.2.1 82 = .ok (.iload_n 3, 1) := by decide +kernel
theorem d234_83 : decode Y234.2.1 83 = .ok (.invokevirtual 94, 3) := by decide +kernel
theorem d234_86 : decode Y234.2.1 86 = .ok (.aload_n 0, 1) := by decide +kernel
theorem d234_87 : decode Y234.2.1 87 = .ok (.iload_n 1, 1) := by decide +kernel
theorem d234_88 : decode Y234.2.1 88 = .ok (.iload_n 3, 1) := by decide +kernel
theorem d234_89 : decode Y234.2.1 89 = .ok (.ifCond .ne 7, 3) := by decide +kernel
theorem d234_92 : decode Y234.2.1 92 = .ok (.iconst 2, 1) := by decide +kernel
theorem d234_93 : decode Y234.2.1 93 = .ok (.goto 4, 3) := by decide +kernel
theorem d234_96 : decode Y234.2.1 96 = .ok (.iconst 4, 1) := by decide +kernel
theorem d234_97 : decode Y234.2.1 97 = .ok (.aload_n 0, 1) := by decide +kernel
theorem d234_98 : decode Y234.2.1 98 = .ok (.getfield 7, 3) := by decide +kernel
theorem d234_101 : decode Y234.2.1 101 = .ok (.iconst 0, 1) := by decide +kernel
theorem d234_102 : decode Y234.2.1 102 = .ok (.iaload, 1) := by decide +kernel
theorem d234_103 : decode Y234.2.1 103 = .ok (.invokevirtual 278, 3) := by decide +kernel
theorem d234_106 : decode Y234.2.1 106 = .ok (.iload_n 3, 1) := by decide +kernel
theorem d234_107 : decode Y234.2.1 107 = .ok (.ireturn, 1) := by decide +kernel
theorem E234 (d : Nat) (a0 : Nat) (x1 : Int32) (x2 : Int32) (h0 : ts_sh a0 = (0, 12)) (m : lt_m) : lt_ev (d + 1) 234 [.inr (.inr (some a0)), .inl x1, .inl x2] m = lt_cI (lt_ev d 231 [.inr (.inr (some a0)), .inl x1] (lm_i m a0 15 (0 : Int32))) (fun v1 m1 => (if v1 = 0 then (some (some (.inl (-1 : Int32)), m1)) else (lt_cI (lt_ev d 198 [.inr (.inr (some a0)), .inl x1, .inl (2 : Int32)] m1) (fun v2 m2 => (lt_cI (lt_ev d 181 [.inr (.inl ((x2).toInt64)), .inr (.inl (0 : Int64)), .inr (.inl ((v2).toInt64))] m2) (fun v3 m3 => (if ¬ v3 = 0 then (lt_cI (lt_ev d 197 [.inr (.inr (some a0)), .inl x1] m3) (fun v4 m4 => (if v4 = (1 : Int32) then (lt_cV (lt_ev d 211 [.inr (.inr (some a0))] m4) (fun m5 => (lt_cI (lt_ev d 198 [.inr (.inr (some a0)), .inl x1, .inl (2 : Int32)] m5) (fun v5 m6 => (lt_cI (lt_ev d 198 [.inr (.inr (some a0)), .inl x1, .inl (1 : Int32)] m6) (fun v6 m7 => (lt_gd (0 ≤ v6 ∧ (v6).toNatClampNeg < 6) (lt_cI (lt_ev d 198 [.inr (.inr (some a0)), .inl x1, .inl (7 : Int32)] m7) (fun v7 m8 => (lt_cV (lt_ev d 228 [.inr (.inr (some a0)), .inl x1, .inl (8 : Int32), .inl (((v5 - x2) * (m7.1 (a0 + 6) (v6).toNatClampNeg)) * ((1 : Int32) + v7))] m8) (fun m9 => (if ¬ (((v5 - x2) * (m7.1 (a0 + 6) (v6).toNatClampNeg)) * ((1 : Int32) + v7)) = 0 then (lt_gd (0 ≤ (0 : Int32) ∧ ((0 : Int32)).toNatClampNeg < 626) (lt_cV (lt_ev d 235 [.inr (.inr (some a0)), .inl x1, .inl (4 : Int32), .inl (m9.1 (a0 + 1) ((0 : Int32)).toNatClampNeg)] m9) (fun m10 => (some (some (.inl (((v5 - x2) * (m7.1 (a0 + 6) (v6).toNatClampNeg)) * ((1 : Int32) + v7))), m10))))) else (lt_gd (0 ≤ (0 : Int32) ∧ ((0 : Int32)).toNatClampNeg < 626) (lt_cV (lt_ev d 235 [.inr (.inr (some a0)), .inl x1, .inl (2 : Int32), .inl (m9.1 (a0 + 1) ((0 : Int32)).toNatClampNeg)] m9) (fun m11 => (some (some (.inl (((v5 - x2) * (m7.1 (a0 + 6) (v6).toNatClampNeg)) * ((1 : Int32) + v7))), m11))))))))))))))))) else (some (some (.inl (-2 : Int32)), m4))))) else (some (some (.inl (-1 : Int32)), m3))))))))) := by
  refine Eq.trans (lt_enter2 (ls := [some (.inr (.inr (some a0))), some (.inl x1), some (.inl x2), none]) hY234 (Nat.le_of_ble_eq_true rfl) (by rfl)) ?_
  refine Eq.trans (li_aload_n d234_0 (by rfl)) ?_
  refine Eq.trans (li_iconst d234_1 ic_0) ?_
  refine Eq.trans (li_puti d234_2 fa_12_67 h0 rfl rfl) ?_
  refine Eq.trans (li_aload_n d234_5 (by rfl)) ?_
  refine Eq.trans (li_iload_n d234_6 (by rfl)) ?_
  refine Eq.trans (li_ivI d234_7 ca_12_272 kd_231 kl_231 (by rfl) (by rfl) h0 (Nat.le_of_ble_eq_true rfl) (Nat.le_of_ble_eq_true rfl)) ?_
  refine lt_cI_c (fun v1 m1 => ?_)
  refine Eq.trans (li_if_eq (t := 29) d234_10 (by rfl)) ?_
  refine lt_ite (fun c1 => ?_) (fun c1 => ?_)
  · refine Eq.trans (li_iconst d234_29 ic_n1) ?_
    exact li_iret d234_30 rfl
  · refine Eq.trans (li_iload_n d234_13 (by rfl)) ?_
    refine Eq.trans (li_i2l d234_14) ?_
    refine Eq.trans (li_lconst (v := 0) d234_15 (by decide)) ?_
    refine Eq.trans (li_aload_n d234_16 (by rfl)) ?_
    refine Eq.trans (li_iload_n d234_17 (by rfl)) ?_
    refine Eq.trans (li_iconst d234_18 ic_2) ?_
    refine Eq.trans (li_ivI d234_19 ca_12_83 kd_198 kl_198 (by rfl) (by rfl) h0 (Nat.le_of_ble_eq_true rfl) (Nat.le_of_ble_eq_true rfl)) ?_
    refine lt_cI_c (fun v2 m2 => ?_)
    refine Eq.trans (li_i2l d234_22) ?_
    refine Eq.trans (li_isI d234_23 bi_12_76 ca_12_76 kd_181 (by rfl) (by rfl) (Nat.le_of_ble_eq_true rfl) (Nat.le_of_ble_eq_true rfl)) ?_
    refine lt_cI_c (fun v3 m3 => ?_)
    refine Eq.trans (li_if_ne (t := 31) d234_26 (by rfl)) ?_
    refine lt_ite (fun c2 => ?_) (fun c2 => ?_)
    · refine Eq.trans (li_aload_n d234_31 (by rfl)) ?_
      refine Eq.trans (li_iload_n d234_32 (by rfl)) ?_
      refine Eq.trans (li_ivI d234_33 ca_12_87 kd_197 kl_197 (by rfl) (by rfl) h0 (Nat.le_of_ble_eq_true rfl) (Nat.le_of_ble_eq_true rfl)) ?_
      refine lt_cI_c (fun v4 m4 => ?_)
      refine Eq.trans (li_iconst d234_36 ic_1) ?_
      refine Eq.trans (li_icmp_eq (t := 43) d234_37 (by rfl)) ?_
      refine lt_ite (fun c3 => ?_) (fun c3 => ?_)
      · refine Eq.trans (li_aload_n d234_43 (by rfl)) ?_
        refine Eq.trans (li_ivV d234_44 ca_12_243 kd_211 kl_211 (by rfl) (by rfl) h0 (Nat.le_of_ble_eq_true rfl) (Nat.le_of_ble_eq_true rfl)) ?_
        refine lt_cV_c (fun m5 => ?_)
        refine Eq.trans (li_aload_n d234_47 (by rfl)) ?_
        refine Eq.trans (li_iload_n d234_48 (by rfl)) ?_
        refine Eq.trans (li_iconst d234_49 ic_2) ?_
        refine Eq.trans (li_ivI d234_50 ca_12_83 kd_198 kl_198 (by rfl) (by rfl) h0 (Nat.le_of_ble_eq_true rfl) (Nat.le_of_ble_eq_true rfl)) ?_
        refine lt_cI_c (fun v5 m6 => ?_)
        refine Eq.trans (li_iload_n d234_53 (by rfl)) ?_
        refine Eq.trans (li_isub d234_54) ?_
        refine Eq.trans (li_aload_n d234_55 (by rfl)) ?_
        refine Eq.trans (li_getr d234_56 fa_12_25 h0 rfl rfl rfl (by decide)) ?_
        refine Eq.trans (li_aload_n d234_59 (by rfl)) ?_
        refine Eq.trans (li_iload_n d234_60 (by rfl)) ?_
        refine Eq.trans (li_iconst d234_61 ic_1) ?_
        refine Eq.trans (li_ivI d234_62 ca_12_83 kd_198 kl_198 (by rfl) (by rfl) h0 (Nat.le_of_ble_eq_true rfl) (Nat.le_of_ble_eq_true rfl)) ?_
        refine lt_cI_c (fun v6 m7 => ?_)
        refine Eq.trans (li_iald d234_65 (sf_of h0 7 (by decide) (by decide))) ?_
        refine lt_gd_c (fun g1 => ?_)
        refine Eq.trans (li_imul d234_66) ?_
        refine Eq.trans (li_iconst d234_67 ic_1) ?_
        refine Eq.trans (li_aload_n d234_68 (by rfl)) ?_
        refine Eq.trans (li_iload_n d234_69 (by rfl)) ?_
        refine Eq.trans (li_bipush d234_70 bi_7) ?_
        refine Eq.trans (li_ivI d234_72 ca_12_83 kd_198 kl_198 (by rfl) (by rfl) h0 (Nat.le_of_ble_eq_true rfl) (Nat.le_of_ble_eq_true rfl)) ?_
        refine lt_cI_c (fun v7 m8 => ?_)
        refine Eq.trans (li_iadd d234_75) ?_
        refine Eq.trans (li_imul d234_76) ?_
        refine Eq.trans (li_istore_n (ls' := [some (.inr (.inr (some a0))), some (.inl x1), some (.inl x2), some (.inl (((v5 - x2) * (m7.1 (a0 + 6) (v6).toNatClampNeg)) * ((1 : Int32) + v7)))]) d234_77 (by decide) (by rfl)) ?_
        refine Eq.trans (li_aload_n d234_78 (by rfl)) ?_
        refine Eq.trans (li_iload_n d234_79 (by rfl)) ?_
        refine Eq.trans (li_bipush d234_80 bi_8) ?_
        refine Eq.trans (li_iload_n d234_82 (by rfl)) ?_
        refine Eq.trans (li_ivV d234_83 ca_12_94 kd_228 kl_228 (by rfl) (by rfl) h0 (Nat.le_of_ble_eq_true rfl) (Nat.le_of_ble_eq_true rfl)) ?_
        refine lt_cV_c (fun m9 => ?_)
        refine Eq.trans (li_aload_n d234_86 (by rfl)) ?_
        refine Eq.trans (li_iload_n d234_87 (by rfl)) ?_
        refine Eq.trans (li_iload_n d234_88 (by rfl)) ?_
        refine Eq.trans (li_if_ne (t := 96) d234_89 (by rfl)) ?_
        refine lt_ite (fun c4 => ?_) (fun c4 => ?_)
        · refine Eq.trans (li_iconst d234_96 ic_4) ?_
          refine Eq.trans (li_aload_n d234_97 (by rfl)) ?_
          refine Eq.trans (li_getr d234_98 fa_12_7 h0 rfl rfl rfl (by decide)) ?_
          refine Eq.trans (li_iconst d234_101 ic_0) ?_
          refine Eq.trans (li_iald d234_102 (sf_of h0 0 (by decide) (by decide))) ?_
          refine lt_gd_c (fun g2 => ?_)
          refine Eq.trans (li_ivV d234_103 ca_12_278 kd_235 kl_235 (by rfl) (by rfl) h0 (Nat.le_of_ble_eq_true rfl) (Nat.le_of_ble_eq_true rfl)) ?_
          refine lt_cV_c (fun m10 => ?_)
          refine Eq.trans (li_iload_n d234_106 (by rfl)) ?_
          exact li_iret d234_107 rfl
        · refine Eq.trans (li_iconst d234_92 ic_2) ?_
          refine Eq.trans (li_goto (t := 97) d234_93 (by rfl)) ?_
          refine Eq.trans (li_aload_n d234_97 (by rfl)) ?_
          refine Eq.trans (li_getr d234_98 fa_12_7 h0 rfl rfl rfl (by decide)) ?_
          refine Eq.trans (li_iconst d234_101 ic_0) ?_
          refine Eq.trans (li_iald d234_102 (sf_of h0 0 (by decide) (by decide))) ?_
          refine lt_gd_c (fun g3 => ?_)
          refine Eq.trans (li_ivV d234_103 ca_12_278 kd_235 kl_235 (by rfl) (by rfl) h0 (Nat.le_of_ble_eq_true rfl) (Nat.le_of_ble_eq_true rfl)) ?_
          refine lt_cV_c (fun m11 => ?_)
          refine Eq.trans (li_iload_n d234_106 (by rfl)) ?_
          exact li_iret d234_107 rfl
      · refine Eq.trans (li_bipush d234_40 bi_n2) ?_
        exact li_iret d234_42 rfl
    · refine Eq.trans (li_iconst d234_29 ic_n1) ?_
      exact li_iret d234_30 rfl
/-! TransitSealsModel.becomes(III)V -/
theorem d235_0 : decode Y235.2.1 0 = .ok (.aload_n 0, 1) := by decide +kernel
theorem d235_1 : decode Y235.2.1 1 = .ok (.iload_n 1, 1) := by decide +kernel
theorem d235_2 : decode Y235.2.1 2 = .ok (.iconst 3, 1) := by decide +kernel
theorem d235_3 : decode Y235.2.1 3 = .ok (.iload_n 2, 1) := by decide +kernel
theorem d235_4 : decode Y235.2.1 4 = .ok (.invokevirtual 94, 3) := by decide +kernel
theorem d235_7 : decode Y235.2.1 7 = .ok (.aload_n 0, 1) := by decide +kernel
theorem d235_8 : decode Y235.2.1 8 = .ok (.iload_n 2, 1) := by decide +kernel
theorem d235_9 : decode Y235.2.1 9 = .ok (.iconst 1, 1) := by decide +kernel
theorem d235_10 : decode Y235.2.1 10 = .ok (.iadd, 1) := by decide +kernel
theorem d235_11 : decode Y235.2.1 11 = .ok (.iload_n 1, 1) := by decide +kernel
theorem d235_12 : decode Y235.2.1 12 = .ok (.iload_n 3, 1) := by decide +kernel
theorem d235_13 : decode Y235.2.1 13 = .ok (.invokevirtual 98, 3) := by decide +kernel
theorem d235_16 : decode Y235.2.1 16 = .ok (.return_, 1) := by decide +kernel
theorem E235 (d : Nat) (a0 : Nat) (x1 : Int32) (x2 : Int32) (x3 : Int32) (h0 : ts_sh a0 = (0, 12)) (m : lt_m) : lt_ev (d + 1) 235 [.inr (.inr (some a0)), .inl x1, .inl x2, .inl x3] m = lt_cV (lt_ev d 228 [.inr (.inr (some a0)), .inl x1, .inl (3 : Int32), .inl x2] m) (fun m1 => (lt_cV (lt_ev d 229 [.inr (.inr (some a0)), .inl (x2 + (1 : Int32)), .inl x1, .inl x3] m1) (fun m2 => (some (none, m2))))) := by
  refine Eq.trans (lt_enter2 (ls := [some (.inr (.inr (some a0))), some (.inl x1), some (.inl x2), some (.inl x3)]) hY235 (Nat.le_of_ble_eq_true rfl) (by rfl)) ?_
  refine Eq.trans (li_aload_n d235_0 (by rfl)) ?_
  refine Eq.trans (li_iload_n d235_1 (by rfl)) ?_
  refine Eq.trans (li_iconst d235_2 ic_3) ?_
  refine Eq.trans (li_iload_n d235_3 (by rfl)) ?_
  refine Eq.trans (li_ivV d235_4 ca_12_94 kd_228 kl_228 (by rfl) (by rfl) h0 (Nat.le_of_ble_eq_true rfl) (Nat.le_of_ble_eq_true rfl)) ?_
  refine lt_cV_c (fun m1 => ?_)
  refine Eq.trans (li_aload_n d235_7 (by rfl)) ?_
  refine Eq.trans (li_iload_n d235_8 (by rfl)) ?_
  refine Eq.trans (li_iconst d235_9 ic_1) ?_
  refine Eq.trans (li_iadd d235_10) ?_
  refine Eq.trans (li_iload_n d235_11 (by rfl)) ?_
  refine Eq.trans (li_iload_n d235_12 (by rfl)) ?_
  refine Eq.trans (li_ivV d235_13 ca_12_98 kd_229 kl_229 (by rfl) (by rfl) h0 (Nat.le_of_ble_eq_true rfl) (Nat.le_of_ble_eq_true rfl)) ?_
  refine lt_cV_c (fun m2 => ?_)
  exact li_vret d235_16 rfl
/-! TransitSealsModel.proves(I)I -/
theorem d236_0 : decode Y236.2.1 0 = .ok (.aload_n 0, 1) := by decide +kernel
theorem d236_1 : decode Y236.2.1 1 = .ok (.iconst 0, 1) := by decide +kernel
theorem d236_2 : decode Y236.2.1 2 = .ok (.putfield 67, 3) := by decide +kernel
theorem d236_5 : decode Y236.2.1 5 = .ok (.aload_n 0, 1) := by decide +kernel
theorem d236_6 : decode Y236.2.1 6 = .ok (.iload_n 1, 1) := by decide +kernel
theorem d236_7 : decode Y236.2.1 7 = .ok (.invokevirtual 272, 3) := by decide +kernel
theorem d236_10 : decode Y236.2.1 10 = .ok (.ifCond .ne 5, 3) := by decide +kernel
theorem d236_13 : decode Y236.2.1 13 = .ok (.iconst (-1), 1) := by decide +kernel
theorem d236_14 : decode Y236.2.1 14 = .ok (.ireturn, 1) := by decide +kernel
theorem d236_15 : decode Y236.2.1 15 = .ok (.aload_n 0, 1) := by decide +kernel
theorem d236_16 : decode Y236.2.1 16 = .ok (.iload_n 1, 1) := by decide +kernel
theorem d236_17 : decode Y236.2.1 17 = .ok (.invokevirtual 87, 3) := by decide +kernel
theorem d236_20 : decode Y236.2.1 20 = .ok (.iconst 3, 1) := by decide +kernel
theorem d236_21 : decode Y236.2.1 21 = .ok (.if_icmp .eq 6, 3) := by decide +kernel
theorem d236_24 : decode Y236.2.1 24 = .ok (.bipush (-2), 2) := by decide +kernel
theorem d236_26 : decode Y236.2.1 26 = .ok (.ireturn, 1) := by decide +kernel
theorem d236_27 : decode Y236.2.1 27 = .ok (.aload_n 0, 1) := by decide +kernel
theorem d236_28 : decode Y236.2.1 28 = .ok (.iload_n 1, 1) := by decide +kernel
theorem d236_29 : decode Y236.2.1 29 = .ok (.bipush 7, 2) := by decide +kernel
theorem d236_31 : decode Y236.2.1 31 = .ok (.invokevirtual 83, 3) := by decide +kernel
theorem d236_34 : decode Y236.2.1 34 = .ok (.iconst 1, 1) := by decide +kernel
theorem d236_35 : decode Y236.2.1 35 = .ok (.if_icmp .ne 6, 3) := by decide +kernel
theorem d236_38 : decode Y236.2.1 38 = .ok (.bipush (-3), 2) := by decide +kernel
theorem d236_40 : decode Y236.2.1 40 = .ok (.ireturn, 1) := by decide +kernel
theorem d236_41 : decode Y236.2.1 41 = .ok (.aload_n 0, 1) := by decide +kernel
theorem d236_42 : decode Y236.2.1 42 = .ok (.invokevirtual 243, 3) := by decide +kernel
theorem d236_45 : decode Y236.2.1 45 = .ok (.aload_n 0, 1) := by decide +kernel
theorem d236_46 : decode Y236.2.1 46 = .ok (.iload_n 1, 1) := by decide +kernel
theorem d236_47 : decode Y236.2.1 47 = .ok (.iconst 2, 1) := by decide +kernel
theorem d236_48 : decode Y236.2.1 48 = .ok (.aload_n 0, 1) := by decide +kernel
theorem d236_49 : decode Y236.2.1 49 = .ok (.getfield 7, 3) := by decide +kernel
theorem d236_52 : decode Y236.2.1 52 = .ok (.iconst 0, 1) := by decide +kernel
theorem d236_53 : decode Y236.2.1 53 = .ok (.iaload, 1) := by decide +kernel
theorem d236_54 : decode Y236.2.1 54 = .ok (.invokevirtual 278, 3) := by decide +kernel
theorem d236_57 : decode Y236.2.1 57 = .ok (.aload_n 0, 1) := by decide +kernel
theorem d236_58 : decode Y236.2.1 58 = .ok (.iload_n 1, 1) := by decide +kernel
theorem d236_59 : decode Y236.2.1 59 = .ok (.invokevirtual 281, 3) := by decide +kernel
theorem d236_62 : decode Y236.2.1 62 = .ok (.ireturn, 1) := by decide +kernel
theorem E236 (d : Nat) (a0 : Nat) (x1 : Int32) (h0 : ts_sh a0 = (0, 12)) (m : lt_m) : lt_ev (d + 1) 236 [.inr (.inr (some a0)), .inl x1] m = lt_cI (lt_ev d 231 [.inr (.inr (some a0)), .inl x1] (lm_i m a0 15 (0 : Int32))) (fun v1 m1 => (if ¬ v1 = 0 then (lt_cI (lt_ev d 197 [.inr (.inr (some a0)), .inl x1] m1) (fun v2 m2 => (if v2 = (3 : Int32) then (lt_cI (lt_ev d 198 [.inr (.inr (some a0)), .inl x1, .inl (7 : Int32)] m2) (fun v3 m3 => (if ¬ v3 = (1 : Int32) then (lt_cV (lt_ev d 211 [.inr (.inr (some a0))] m3) (fun m4 => (lt_gd (0 ≤ (0 : Int32) ∧ ((0 : Int32)).toNatClampNeg < 626) (lt_cV (lt_ev d 235 [.inr (.inr (some a0)), .inl x1, .inl (2 : Int32), .inl (m4.1 (a0 + 1) ((0 : Int32)).toNatClampNeg)] m4) (fun m5 => (lt_cI (lt_ev d 237 [.inr (.inr (some a0)), .inl x1] m5) (fun v4 m6 => (some (some (.inl v4), m6))))))))) else (some (some (.inl (-3 : Int32)), m3))))) else (some (some (.inl (-2 : Int32)), m2))))) else (some (some (.inl (-1 : Int32)), m1)))) := by
  refine Eq.trans (lt_enter2 (ls := [some (.inr (.inr (some a0))), some (.inl x1)]) hY236 (Nat.le_of_ble_eq_true rfl) (by rfl)) ?_
  refine Eq.trans (li_aload_n d236_0 (by rfl)) ?_
  refine Eq.trans (li_iconst d236_1 ic_0) ?_
  refine Eq.trans (li_puti d236_2 fa_12_67 h0 rfl rfl) ?_
  refine Eq.trans (li_aload_n d236_5 (by rfl)) ?_
  refine Eq.trans (li_iload_n d236_6 (by rfl)) ?_
  refine Eq.trans (li_ivI d236_7 ca_12_272 kd_231 kl_231 (by rfl) (by rfl) h0 (Nat.le_of_ble_eq_true rfl) (Nat.le_of_ble_eq_true rfl)) ?_
  refine lt_cI_c (fun v1 m1 => ?_)
  refine Eq.trans (li_if_ne (t := 15) d236_10 (by rfl)) ?_
  refine lt_ite (fun c1 => ?_) (fun c1 => ?_)
  · refine Eq.trans (li_aload_n d236_15 (by rfl)) ?_
    refine Eq.trans (li_iload_n d236_16 (by rfl)) ?_
    refine Eq.trans (li_ivI d236_17 ca_12_87 kd_197 kl_197 (by rfl) (by rfl) h0 (Nat.le_of_ble_eq_true rfl) (Nat.le_of_ble_eq_true rfl)) ?_
    refine lt_cI_c (fun v2 m2 => ?_)
    refine Eq.trans (li_iconst d236_20 ic_3) ?_
    refine Eq.trans (li_icmp_eq (t := 27) d236_21 (by rfl)) ?_
    refine lt_ite (fun c2 => ?_) (fun c2 => ?_)
    · refine Eq.trans (li_aload_n d236_27 (by rfl)) ?_
      refine Eq.trans (li_iload_n d236_28 (by rfl)) ?_
      refine Eq.trans (li_bipush d236_29 bi_7) ?_
      refine Eq.trans (li_ivI d236_31 ca_12_83 kd_198 kl_198 (by rfl) (by rfl) h0 (Nat.le_of_ble_eq_true rfl) (Nat.le_of_ble_eq_true rfl)) ?_
      refine lt_cI_c (fun v3 m3 => ?_)
      refine Eq.trans (li_iconst d236_34 ic_1) ?_
      refine Eq.trans (li_icmp_ne (t := 41) d236_35 (by rfl)) ?_
      refine lt_ite (fun c3 => ?_) (fun c3 => ?_)
      · refine Eq.trans (li_aload_n d236_41 (by rfl)) ?_
        refine Eq.trans (li_ivV d236_42 ca_12_243 kd_211 kl_211 (by rfl) (by rfl) h0 (Nat.le_of_ble_eq_true rfl) (Nat.le_of_ble_eq_true rfl)) ?_
        refine lt_cV_c (fun m4 => ?_)
        refine Eq.trans (li_aload_n d236_45 (by rfl)) ?_
        refine Eq.trans (li_iload_n d236_46 (by rfl)) ?_
        refine Eq.trans (li_iconst d236_47 ic_2) ?_
        refine Eq.trans (li_aload_n d236_48 (by rfl)) ?_
        refine Eq.trans (li_getr d236_49 fa_12_7 h0 rfl rfl rfl (by decide)) ?_
        refine Eq.trans (li_iconst d236_52 ic_0) ?_
        refine Eq.trans (li_iald d236_53 (sf_of h0 0 (by decide) (by decide))) ?_
        refine lt_gd_c (fun g1 => ?_)
        refine Eq.trans (li_ivV d236_54 ca_12_278 kd_235 kl_235 (by rfl) (by rfl) h0 (Nat.le_of_ble_eq_true rfl) (Nat.le_of_ble_eq_true rfl)) ?_
        refine lt_cV_c (fun m5 => ?_)
        refine Eq.trans (li_aload_n d236_57 (by rfl)) ?_
        refine Eq.trans (li_iload_n d236_58 (by rfl)) ?_
        refine Eq.trans (li_ivI d236_59 ca_12_281 kd_237 kl_237 (by rfl) (by rfl) h0 (Nat.le_of_ble_eq_true rfl) (Nat.le_of_ble_eq_true rfl)) ?_
        refine lt_cI_c (fun v4 m6 => ?_)
        exact li_iret d236_62 rfl
      · refine Eq.trans (li_bipush d236_38 bi_n3) ?_
        exact li_iret d236_40 rfl
    · refine Eq.trans (li_bipush d236_24 bi_n2) ?_
      exact li_iret d236_26 rfl
  · refine Eq.trans (li_iconst d236_13 ic_n1) ?_
    exact li_iret d236_14 rfl
/-! TransitSealsModel.stepOf(I)I -/
theorem d237_0 : decode Y237.2.1 0 = .ok (.aload_n 0, 1) := by decide +kernel
theorem d237_1 : decode Y237.2.1 1 = .ok (.getfield 7, 3) := by decide +kernel
theorem d237_4 : decode Y237.2.1 4 = .ok (.iconst 0, 1) := by decide +kernel
theorem d237_5 : decode Y237.2.1 5 = .ok (.iaload, 1) := by decide +kernel
theorem d237_6 : decode Y237.2.1 6 = .ok (.aload_n 0, 1) := by decide +kernel
theorem d237_7 : decode Y237.2.1 7 = .ok (.iload_n 1, 1) := by decide +kernel
theorem d237_8 : decode Y237.2.1 8 = .ok (.iconst 5, 1) := by decide +kernel
theorem d237_9 : decode Y237.2.1 9 = .ok (.invokevirtual 83, 3) := by decide +kernel
theorem d237_12 : decode Y237.2.1 12 = .ok (.isub, 1) := by decide +kernel
theorem d237_13 : decode Y237.2.1 13 = .ok (.bipush 24, 2) := by decide +kernel
theorem d237_15 : decode Y237.2.1 15 = .ok (.idiv, 1) := by decide +kernel
theorem d237_16 : decode Y237.2.1 16 = .ok (.ireturn, 1) := by decide +kernel
theorem E237 (d : Nat) (a0 : Nat) (x1 : Int32) (h0 : ts_sh a0 = (0, 12)) (m : lt_m) : lt_ev (d + 1) 237 [.inr (.inr (some a0)), .inl x1] m = lt_gd (0 ≤ (0 : Int32) ∧ ((0 : Int32)).toNatClampNeg < 626) (lt_cI (lt_ev d 198 [.inr (.inr (some a0)), .inl x1, .inl (5 : Int32)] m) (fun v1 m1 => (some (some (.inl (((m.1 (a0 + 1) ((0 : Int32)).toNatClampNeg) - v1) / (24 : Int32))), m1)))) := by
  refine Eq.trans (lt_enter2 (ls := [some (.inr (.inr (some a0))), some (.inl x1)]) hY237 (Nat.le_of_ble_eq_true rfl) (by rfl)) ?_
  refine Eq.trans (li_aload_n d237_0 (by rfl)) ?_
  refine Eq.trans (li_getr d237_1 fa_12_7 h0 rfl rfl rfl (by decide)) ?_
  refine Eq.trans (li_iconst d237_4 ic_0) ?_
  refine Eq.trans (li_iald d237_5 (sf_of h0 0 (by decide) (by decide))) ?_
  refine lt_gd_c (fun g1 => ?_)
  refine Eq.trans (li_aload_n d237_6 (by rfl)) ?_
  refine Eq.trans (li_iload_n d237_7 (by rfl)) ?_
  refine Eq.trans (li_iconst d237_8 ic_5) ?_
  refine Eq.trans (li_ivI d237_9 ca_12_83 kd_198 kl_198 (by rfl) (by rfl) h0 (Nat.le_of_ble_eq_true rfl) (Nat.le_of_ble_eq_true rfl)) ?_
  refine lt_cI_c (fun v1 m1 => ?_)
  refine Eq.trans (li_isub d237_12) ?_
  refine Eq.trans (li_bipush d237_13 bi_24) ?_
  refine Eq.trans (li_idiv d237_15) ?_
  refine Eq.trans (lt_gd_t (by decide)) ?_
  exact li_iret d237_16 rfl
/-! TransitSealsModel.pays(I)I -/
theorem d238_0 : decode Y238.2.1 0 = .ok (.aload_n 0, 1) := by decide +kernel
theorem d238_1 : decode Y238.2.1 1 = .ok (.iconst 0, 1) := by decide +kernel
theorem d238_2 : decode Y238.2.1 2 = .ok (.putfield 67, 3) := by decide +kernel
theorem d238_5 : decode Y238.2.1 5 = .ok (.aload_n 0, 1) := by decide +kernel
theorem d238_6 : decode Y238.2.1 6 = .ok (.iload_n 1, 1) := by decide +kernel
theorem d238_7 : decode Y238.2.1 7 = .ok (.invokevirtual 272, 3) := by decide +kernel
theorem d238_10 : decode Y238.2.1 10 = .ok (.ifCond .ne 5, 3) := by decide +kernel
theorem d238_13 : decode Y238.2.1 13 = .ok (.iconst (-1), 1) := by decide +kernel
theorem d238_14 : decode Y238.2.1 14 = .ok (.ireturn, 1) := by decide +kernel
theorem d238_15 : decode Y238.2.1 15 = .ok (.aload_n 0, 1) := by decide +kernel
theorem d238_16 : decode Y238.2.1 16 = .ok (.iload_n 1, 1) := by decide +kernel
theorem d238_17 : decode Y238.2.1 17 = .ok (.invokevirtual 87, 3) := by decide +kernel
theorem d238_20 : decode Y238.2.1 20 = .ok (.iconst 4, 1) := by decide +kernel
theorem d238_21 : decode Y238.2.1 21 = .ok (.if_icmp .eq 6, 3) := by decide +kernel
theorem d238_24 : decode Y238.2.1 24 = .ok (.bipush (-2), 2) := by decide +kernel
theorem d238_26 : decode Y238.2.1 26 = .ok (.ireturn, 1) := by decide +kernel
theorem d238_27 : decode Y238.2.1 27 = .ok (.aload_n 0, 1) := by decide +kernel
theorem d238_28 : decode Y238.2.1 28 = .ok (.invokevirtual 243, 3) := by decide +kernel
theorem d238_31 : decode Y238.2.1 31 = .ok (.aload_n 0, 1) := by decide +kernel
theorem d238_32 : decode Y238.2.1 32 = .ok (.iload_n 1, 1) := by decide +kernel
theorem d238_33 : decode Y238.2.1 33 = .ok (.iconst 5, 1) := by decide +kernel
theorem d238_34 : decode Y238.2.1 34 = .ok (.aload_n 0, 1) := by decide +kernel
theorem d238_35 : decode Y238.2.1 35 = .ok (.getfield 7, 3) := by decide +kernel
theorem d238_38 : decode Y238.2.1 38 = .ok (.iconst 0, 1) := by decide +kernel
theorem d238_39 : decode Y238.2.1 39 = .ok (.iaload, 1) := by decide +kernel
theorem d238_40 : decode Y238.2.1 40 = .ok (.invokevirtual 278, 3) := by decide +kernel
theorem d238_43 : decode Y238.2.1 43 = .ok (.aload_n 0, 1) := by decide +kernel
theorem d238_44 : decode Y238.2.1 44 = .ok (.iload_n 1, 1) := by decide +kernel
theorem d238_45 : decode Y238.2.1 45 = .ok (.bipush 8, 2) := by decide +kernel
theorem d238_47 : decode Y238.2.1 47 = .ok (.invokevirtual 83, 3) := by decide +kernel
theorem d238_50 : decode Y238.2.1 50 = .ok (.ireturn, 1) := by decide +kernel
theorem E238 (d : Nat) (a0 : Nat) (x1 : Int32) (h0 : ts_sh a0 = (0, 12)) (m : lt_m) : lt_ev (d + 1) 238 [.inr (.inr (some a0)), .inl x1] m = lt_cI (lt_ev d 231 [.inr (.inr (some a0)), .inl x1] (lm_i m a0 15 (0 : Int32))) (fun v1 m1 => (if ¬ v1 = 0 then (lt_cI (lt_ev d 197 [.inr (.inr (some a0)), .inl x1] m1) (fun v2 m2 => (if v2 = (4 : Int32) then (lt_cV (lt_ev d 211 [.inr (.inr (some a0))] m2) (fun m3 => (lt_gd (0 ≤ (0 : Int32) ∧ ((0 : Int32)).toNatClampNeg < 626) (lt_cV (lt_ev d 235 [.inr (.inr (some a0)), .inl x1, .inl (5 : Int32), .inl (m3.1 (a0 + 1) ((0 : Int32)).toNatClampNeg)] m3) (fun m4 => (lt_cI (lt_ev d 198 [.inr (.inr (some a0)), .inl x1, .inl (8 : Int32)] m4) (fun v3 m5 => (some (some (.inl v3), m5))))))))) else (some (some (.inl (-2 : Int32)), m2))))) else (some (some (.inl (-1 : Int32)), m1)))) := by
  refine Eq.trans (lt_enter2 (ls := [some (.inr (.inr (some a0))), some (.inl x1)]) hY238 (Nat.le_of_ble_eq_true rfl) (by rfl)) ?_
  refine Eq.trans (li_aload_n d238_0 (by rfl)) ?_
  refine Eq.trans (li_iconst d238_1 ic_0) ?_
  refine Eq.trans (li_puti d238_2 fa_12_67 h0 rfl rfl) ?_
  refine Eq.trans (li_aload_n d238_5 (by rfl)) ?_
  refine Eq.trans (li_iload_n d238_6 (by rfl)) ?_
  refine Eq.trans (li_ivI d238_7 ca_12_272 kd_231 kl_231 (by rfl) (by rfl) h0 (Nat.le_of_ble_eq_true rfl) (Nat.le_of_ble_eq_true rfl)) ?_
  refine lt_cI_c (fun v1 m1 => ?_)
  refine Eq.trans (li_if_ne (t := 15) d238_10 (by rfl)) ?_
  refine lt_ite (fun c1 => ?_) (fun c1 => ?_)
  · refine Eq.trans (li_aload_n d238_15 (by rfl)) ?_
    refine Eq.trans (li_iload_n d238_16 (by rfl)) ?_
    refine Eq.trans (li_ivI d238_17 ca_12_87 kd_197 kl_197 (by rfl) (by rfl) h0 (Nat.le_of_ble_eq_true rfl) (Nat.le_of_ble_eq_true rfl)) ?_
    refine lt_cI_c (fun v2 m2 => ?_)
    refine Eq.trans (li_iconst d238_20 ic_4) ?_
    refine Eq.trans (li_icmp_eq (t := 27) d238_21 (by rfl)) ?_
    refine lt_ite (fun c2 => ?_) (fun c2 => ?_)
    · refine Eq.trans (li_aload_n d238_27 (by rfl)) ?_
      refine Eq.trans (li_ivV d238_28 ca_12_243 kd_211 kl_211 (by rfl) (by rfl) h0 (Nat.le_of_ble_eq_true rfl) (Nat.le_of_ble_eq_true rfl)) ?_
      refine lt_cV_c (fun m3 => ?_)
      refine Eq.trans (li_aload_n d238_31 (by rfl)) ?_
      refine Eq.trans (li_iload_n d238_32 (by rfl)) ?_
      refine Eq.trans (li_iconst d238_33 ic_5) ?_
      refine Eq.trans (li_aload_n d238_34 (by rfl)) ?_
      refine Eq.trans (li_getr d238_35 fa_12_7 h0 rfl rfl rfl (by decide)) ?_
      refine Eq.trans (li_iconst d238_38 ic_0) ?_
      refine Eq.trans (li_iald d238_39 (sf_of h0 0 (by decide) (by decide))) ?_
      refine lt_gd_c (fun g1 => ?_)
      refine Eq.trans (li_ivV d238_40 ca_12_278 kd_235 kl_235 (by rfl) (by rfl) h0 (Nat.le_of_ble_eq_true rfl) (Nat.le_of_ble_eq_true rfl)) ?_
      refine lt_cV_c (fun m4 => ?_)
      refine Eq.trans (li_aload_n d238_43 (by rfl)) ?_
      refine Eq.trans (li_iload_n d238_44 (by rfl)) ?_
      refine Eq.trans (li_bipush d238_45 bi_8) ?_
      refine Eq.trans (li_ivI d238_47 ca_12_83 kd_198 kl_198 (by rfl) (by rfl) h0 (Nat.le_of_ble_eq_true rfl) (Nat.le_of_ble_eq_true rfl)) ?_
      refine lt_cI_c (fun v3 m5 => ?_)
      exact li_iret d238_50 rfl
    · refine Eq.trans (li_bipush d238_24 bi_n2) ?_
      exact li_iret d238_26 rfl
  · refine Eq.trans (li_iconst d238_13 ic_n1) ?_
    exact li_iret d238_14 rfl
/-! TransitSealsModel.hours(I)I -/
theorem d239_0 : decode Y239.2.1 0 = .ok (.aload_n 0, 1) := by decide +kernel
theorem d239_1 : decode Y239.2.1 1 = .ok (.iconst 0, 1) := by decide +kernel
theorem d239_2 : decode Y239.2.1 2 = .ok (.putfield 67, 3) := by decide +kernel
theorem d239_5 : decode Y239.2.1 5 = .ok (.iload_n 1, 1) := by decide +kernel
theorem d239_6 : decode Y239.2.1 6 = .ok (.i2l, 1) := by decide +kernel
theorem d239_7 : decode Y239.2.1 7 = .ok (.lconst 1, 1) := by decide +kernel
theorem d239_8 : decode Y239.2.1 8 = .ok (.ldc2_w 267, 3) := by decide +kernel
theorem d239_11 : decode Y239.2.1 11 = .ok (.invokestatic 76, 3) := by decide +kernel
theorem d239_14 : decode Y239.2.1 14 = .ok (.ifCond .eq 17, 3) := by decide +kernel
theorem d239_17 : decode Y239.2.1 17 = .ok (.aload_n 0, 1) := by decide +kernel
theorem d239_18 : decode Y239.2.1 18 = .ok (.getfield 7, 3) := by decide +kernel
theorem d239_21 : decode Y239.2.1 21 = .ok (.iconst 0, 1) := by decide +kernel
theorem d239_22 : decode Y239.2.1 22 = .ok (.iaload, 1) := by decide +kernel
theorem d239_23 : decode Y239.2.1 23 = .ok (.iload_n 1, 1) := by decide +kernel
theorem d239_24 : decode Y239.2.1 24 = .ok (.iadd, 1) := by decide +kernel
theorem d239_25 : decode Y239.2.1 25 = .ok (.ldc_w 287, 3) := by decide +kernel
theorem d239_28 : decode Y239.2.1 28 = .ok (.if_icmp .le 5, 3) := by decide +kernel
theorem d239_31 : decode Y239.2.1 31 = .ok (.iconst (-1), 1) := by decide +kernel
theorem d239_32 : decode Y239.2.1 32 = .ok (.ireturn, 1) := by decide +kernel
theorem d239_33 : decode Y239.2.1 33 = .ok (.aload_n 0, 1) := by decide +kernel
theorem d239_34 : decode Y239.2.1 34 = .ok (.invokevirtual 243, 3) := by decide +kernel
theorem d239_37 : decode Y239.2.1 37 = .ok (.iconst 0, 1) := by decide +kernel
theorem d239_38 : decode Y239.2.1 38 = .ok (.istore_n 2, 1) := by decide +kernel
theorem d239_39 : decode Y239.2.1 39 = .ok (.iconst 0, 1) := by decide +kernel
theorem d239_40 : decode Y239.2.1 40 = .ok (.istore_n 3, 1) := by decide +kernel
theorem d239_41 : decode Y239.2.1 41 = .ok (.iload_n 3, 1) := by decide +kernel
theorem d239_42 : decode Y239.2.1 42 = .ok (.iload_n 1, 1) := by decide +kernel
theorem d239_43 : decode Y239.2.1 43 = .ok (.if_icmp .ge 32, 3) := by decide +kernel
theorem d239_46 : decode Y239.2.1 46 = .ok (.aload_n 0, 1) := by decide +kernel
theorem d239_47 : decode Y239.2.1 47 = .ok (.getfield 7, 3) := by decide +kernel
theorem d239_50 : decode Y239.2.1 50 = .ok (.iconst 0, 1) := by decide +kernel
theorem d239_51 : decode Y239.2.1 51 = .ok (.dup2, 1) := by decide +kernel
theorem d239_52 : decode Y239.2.1 52 = .ok (.iaload, 1) := by decide +kernel
theorem d239_53 : decode Y239.2.1 53 = .ok (.iconst 1, 1) := by decide +kernel
theorem d239_54 : decode Y239.2.1 54 = .ok (.iadd, 1) := by decide +kernel
theorem d239_55 : decode Y239.2.1 55 = .ok (.iastore, 1) := by decide +kernel
theorem d239_56 : decode Y239.2.1 56 = .ok (.iload_n 2, 1) := by decide +kernel
theorem d239_57 : decode Y239.2.1 57 = .ok (.aload_n 0, 1) := by decide +kernel
theorem d239_58 : decode Y239.2.1 58 = .ok (.aload_n 0, 1) := by decide +kernel
theorem d239_59 : decode Y239.2.1 59 = .ok (.getfield 7, 3) := by decide +kernel
theorem d239_62 : decode Y239.2.1 62 = .ok (.iconst 0, 1) := by decide +kernel
theorem d239_63 : decode Y239.2.1 63 = .ok (.iaload, 1) := by decide +kernel
theorem d239_64 : decode Y239.2.1 64 = .ok (.invokevirtual 288, 3) := by decide +kernel
theorem d239_67 : decode Y239.2.1 67 = .ok (.ior, 1) := by decide +kernel
theorem d239_68 : decode Y239.2.1 68 = .ok (.istore_n 2, 1) := by decide +kernel
theorem d239_69 : decode Y239.2.1 69 = .ok (.iinc 3 1, 3) := by decide +kernel
theorem d239_72 : decode Y239.2.1 72 = .ok (.goto (-31), 3) := by decide +kernel
theorem d239_75 : decode Y239.2.1 75 = .ok (.iload_n 2, 1) := by decide +kernel
theorem d239_76 : decode Y239.2.1 76 = .ok (.invokestatic 213, 3) := by decide +kernel
theorem d239_79 : decode Y239.2.1 79 = .ok (.ireturn, 1) := by decide +kernel
noncomputable def L239_41 (d : Nat) (a0 : Nat) (x1 : Int32) (x2 : Int32) (x3 : Int32) (m : lt_m) : Option lt_r := lt_run d Y239 41 [some (.inr (.inr (some a0))), some (.inl x1), some (.inl x2), some (.inl x3)] [] m
theorem E239 (d : Nat) (a0 : Nat) (x1 : Int32) (h0 : ts_sh a0 = (0, 12)) (m : lt_m) : lt_ev (d + 1) 239 [.inr (.inr (some a0)), .inl x1] m = lt_cI (lt_ev d 181 [.inr (.inl ((x1).toInt64)), .inr (.inl (1 : Int64)), .inr (.inl (999 : Int64))] (lm_i m a0 15 (0 : Int32))) (fun v1 m1 => (if v1 = 0 then (some (some (.inl (-1 : Int32)), m1)) else (lt_gd (0 ≤ (0 : Int32) ∧ ((0 : Int32)).toNatClampNeg < 626) (if ((m1.1 (a0 + 1) ((0 : Int32)).toNatClampNeg) + x1) ≤ (99999 : Int32) then (lt_cV (lt_ev d 211 [.inr (.inr (some a0))] m1) (fun m2 => (L239_41 d a0 x1 (0 : Int32) (0 : Int32) m2))) else (some (some (.inl (-1 : Int32)), m1)))))) := by
  refine Eq.trans (lt_enter2 (ls := [some (.inr (.inr (some a0))), some (.inl x1), none, none]) hY239 (Nat.le_of_ble_eq_true rfl) (by rfl)) ?_
  refine Eq.trans (li_aload_n d239_0 (by rfl)) ?_
  refine Eq.trans (li_iconst d239_1 ic_0) ?_
  refine Eq.trans (li_puti d239_2 fa_12_67 h0 rfl rfl) ?_
  refine Eq.trans (li_iload_n d239_5 (by rfl)) ?_
  refine Eq.trans (li_i2l d239_6) ?_
  refine Eq.trans (li_lconst (v := 1) d239_7 (by decide)) ?_
  refine Eq.trans (li_ldc2_w d239_8 cJ_12_267) ?_
  refine Eq.trans (li_isI d239_11 bi_12_76 ca_12_76 kd_181 (by rfl) (by rfl) (Nat.le_of_ble_eq_true rfl) (Nat.le_of_ble_eq_true rfl)) ?_
  refine lt_cI_c (fun v1 m1 => ?_)
  refine Eq.trans (li_if_eq (t := 31) d239_14 (by rfl)) ?_
  refine lt_ite (fun c1 => ?_) (fun c1 => ?_)
  · refine Eq.trans (li_iconst d239_31 ic_n1) ?_
    exact li_iret d239_32 rfl
  · refine Eq.trans (li_aload_n d239_17 (by rfl)) ?_
    refine Eq.trans (li_getr d239_18 fa_12_7 h0 rfl rfl rfl (by decide)) ?_
    refine Eq.trans (li_iconst d239_21 ic_0) ?_
    refine Eq.trans (li_iald d239_22 (sf_of h0 0 (by decide) (by decide))) ?_
    refine lt_gd_c (fun g1 => ?_)
    refine Eq.trans (li_iload_n d239_23 (by rfl)) ?_
    refine Eq.trans (li_iadd d239_24) ?_
    refine Eq.trans (li_ldc_w d239_25 cI_12_287) ?_
    refine Eq.trans (li_icmp_le (t := 33) d239_28 (by rfl)) ?_
    refine lt_ite (fun c2 => ?_) (fun c2 => ?_)
    · refine Eq.trans (li_aload_n d239_33 (by rfl)) ?_
      refine Eq.trans (li_ivV d239_34 ca_12_243 kd_211 kl_211 (by rfl) (by rfl) h0 (Nat.le_of_ble_eq_true rfl) (Nat.le_of_ble_eq_true rfl)) ?_
      refine lt_cV_c (fun m2 => ?_)
      refine Eq.trans (li_iconst d239_37 ic_0) ?_
      refine Eq.trans (li_istore_n (ls' := [some (.inr (.inr (some a0))), some (.inl x1), some (.inl (0 : Int32)), none]) d239_38 (by decide) (by rfl)) ?_
      refine Eq.trans (li_iconst d239_39 ic_0) ?_
      refine Eq.trans (li_istore_n (ls' := [some (.inr (.inr (some a0))), some (.inl x1), some (.inl (0 : Int32)), some (.inl (0 : Int32))]) d239_40 (by decide) (by rfl)) ?_
      rfl
    · refine Eq.trans (li_iconst d239_31 ic_n1) ?_
      exact li_iret d239_32 rfl
theorem E239_41 (d : Nat) (a0 : Nat) (x1 : Int32) (x2 : Int32) (x3 : Int32) (h0 : ts_sh a0 = (0, 12)) (m : lt_m) : L239_41 d a0 x1 x2 x3 m = if x1 ≤ x3 then (lt_cI (lt_ev d 206 [.inl x2] m) (fun v1 m1 => (some (some (.inl v1), m1)))) else (lt_gd (0 ≤ (0 : Int32) ∧ ((0 : Int32)).toNatClampNeg < 626) (lt_gd (0 ≤ (0 : Int32) ∧ ((0 : Int32)).toNatClampNeg < 626) (lt_gd (0 ≤ (0 : Int32) ∧ ((0 : Int32)).toNatClampNeg < 626) (lt_cI (lt_ev d 240 [.inr (.inr (some a0)), .inl ((lm_i m (a0 + 1) ((0 : Int32)).toNatClampNeg ((m.1 (a0 + 1) ((0 : Int32)).toNatClampNeg) + (1 : Int32))).1 (a0 + 1) ((0 : Int32)).toNatClampNeg)] (lm_i m (a0 + 1) ((0 : Int32)).toNatClampNeg ((m.1 (a0 + 1) ((0 : Int32)).toNatClampNeg) + (1 : Int32)))) (fun v2 m2 => (L239_41 d a0 x1 (x2 ||| v2) (x3 + (1 : Int32)) m2)))))) := by
  show lt_run d Y239 41 [some (.inr (.inr (some a0))), some (.inl x1), some (.inl x2), some (.inl x3)] [] m = _
  refine Eq.trans (li_iload_n d239_41 (by rfl)) ?_
  refine Eq.trans (li_iload_n d239_42 (by rfl)) ?_
  refine Eq.trans (li_icmp_ge (t := 75) d239_43 (by rfl)) ?_
  refine lt_ite (fun c1 => ?_) (fun c1 => ?_)
  · refine Eq.trans (li_iload_n d239_75 (by rfl)) ?_
    refine Eq.trans (li_isI d239_76 bi_12_213 ca_12_213 kd_206 (by rfl) (by rfl) (Nat.le_of_ble_eq_true rfl) (Nat.le_of_ble_eq_true rfl)) ?_
    refine lt_cI_c (fun v1 m1 => ?_)
    exact li_iret d239_79 rfl
  · refine Eq.trans (li_aload_n d239_46 (by rfl)) ?_
    refine Eq.trans (li_getr d239_47 fa_12_7 h0 rfl rfl rfl (by decide)) ?_
    refine Eq.trans (li_iconst d239_50 ic_0) ?_
    refine Eq.trans (li_dup2 d239_51 rfl rfl) ?_
    refine Eq.trans (li_iald d239_52 (sf_of h0 0 (by decide) (by decide))) ?_
    refine lt_gd_c (fun g1 => ?_)
    refine Eq.trans (li_iconst d239_53 ic_1) ?_
    refine Eq.trans (li_iadd d239_54) ?_
    refine Eq.trans (li_iast d239_55 (sf_of h0 0 (by decide) (by decide))) ?_
    refine lt_gd_c (fun g2 => ?_)
    refine Eq.trans (li_iload_n d239_56 (by rfl)) ?_
    refine Eq.trans (li_aload_n d239_57 (by rfl)) ?_
    refine Eq.trans (li_aload_n d239_58 (by rfl)) ?_
    refine Eq.trans (li_getr d239_59 fa_12_7 h0 rfl rfl rfl (by decide)) ?_
    refine Eq.trans (li_iconst d239_62 ic_0) ?_
    refine Eq.trans (li_iald d239_63 (sf_of h0 0 (by decide) (by decide))) ?_
    refine lt_gd_c (fun g3 => ?_)
    refine Eq.trans (li_ivI d239_64 ca_12_288 kd_240 kl_240 (by rfl) (by rfl) h0 (Nat.le_of_ble_eq_true rfl) (Nat.le_of_ble_eq_true rfl)) ?_
    refine lt_cI_c (fun v2 m2 => ?_)
    refine Eq.trans (li_ior d239_67) ?_
    refine Eq.trans (li_istore_n (ls' := [some (.inr (.inr (some a0))), some (.inl x1), some (.inl (x2 ||| v2)), some (.inl x3)]) d239_68 (by decide) (by rfl)) ?_
    refine Eq.trans (li_iinc (ls' := [some (.inr (.inr (some a0))), some (.inl x1), some (.inl (x2 ||| v2)), some (.inl (x3 + (1 : Int32)))]) d239_69 (by rfl) (by decide) ic_1 (by rfl)) ?_
    refine Eq.trans (li_goto (t := 41) d239_72 (by rfl)) ?_
    rfl
/-! TransitSealsModel.turns(I)I -/
theorem d240_0 : decode Y240.2.1 0 = .ok (.iconst 0, 1) := by decide +kernel
theorem d240_1 : decode Y240.2.1 1 = .ok (.istore_n 2, 1) := by decide +kernel
theorem d240_2 : decode Y240.2.1 2 = .ok (.iconst 0, 1) := by decide +kernel
theorem d240_3 : decode Y240.2.1 3 = .ok (.istore_n 3, 1) := by decide +kernel
theorem d240_4 : decode Y240.2.1 4 = .ok (.iload_n 3, 1) := by decide +kernel
theorem d240_5 : decode Y240.2.1 5 = .ok (.aload_n 0, 1) := by decide +kernel
theorem d240_6 : decode Y240.2.1 6 = .ok (.getfield 7, 3) := by decide +kernel
theorem d240_9 : decode Y240.2.1 9 = .ok (.iconst 2, 1) := by decide +kernel
theorem d240_10 : decode Y240.2.1 10 = .ok (.iaload, 1) := by decide +kernel
theorem d240_11 : decode Y240.2.1 11 = .ok (.if_icmp .ge 92, 3) := by decide +kernel
theorem d240_14 : decode Y240.2.1 14 = .ok (.aload_n 0, 1) := by decide +kernel
theorem d240_15 : decode Y240.2.1 15 = .ok (.iload_n 3, 1) := by decide +kernel
theorem d240_16 : decode Y240.2.1 16 = .ok (.invokevirtual 87, 3) := by decide +kernel
theorem d240_19 : decode Y240.2.1 19 = .ok (.ifCond .ne 31, 3) := by decide +kernel
theorem d240_22 : decode Y240.2.1 22 = .ok (.iload_n 1, 1) := by decide +kernel
theorem d240_23 : decode Y240.2.1 23 = .ok (.aload_n 0, 1) := by decide +kernel
theorem d240_24 : decode Y240.2.1 24 = .ok (.iload_n 3, 1) := by decide +kernel
theorem d240_25 : decode Y240.2.1 25 = .ok (.iconst 5, 1) := by decide +kernel
theorem d240_26 : decode Y240.2.1 26 = .ok (.invokevirtual 83, 3) := by decide +kernel
theorem d240_29 : decode Y240.2.1 29 = .ok (.iconst 1, 1) := by decide +kernel
theorem d240_30 : decode Y240.2.1 30 = .ok (.iadd, 1) := by decide +kernel
theorem d240_31 : decode Y240.2.1 31 = .ok (.if_icmp .ne 19, 3) := by decide +kernel
theorem d240_34 : decode Y240.2.1 34 = .ok (.aload_n 0, 1) := by decide +kernel
theorem d240_35 : decode Y240.2.1 35 = .ok (.iload_n 3, 1) := by decide +kernel
theorem d240_36 : decode Y240.2.1 36 = .ok (.iconst 3, 1) := by decide +kernel
theorem d240_37 : decode Y240.2.1 37 = .ok (.iload_n 1, 1) := by decide +kernel
theorem d240_38 : decode Y240.2.1 38 = .ok (.invokevirtual 278, 3) := by decide +kernel
theorem d240_41 : decode Y240.2.1 41 = .ok (.iload_n 2, 1) := by decide +kernel
theorem d240_42 : decode Y240.2.1 42 = .ok (.iconst 1, 1) := by decide +kernel
theorem d240_43 : decode Y240.2.1 43 = .ok (.iload_n 3, 1) := by decide +kernel
theorem d240_44 : decode Y240.2.1 44 = .ok (.ishl, 1) := by decide +kernel
theorem d240_45 : decode Y240.2.1 45 = .ok (.ior, 1) := by decide +kernel
theorem d240_46 : decode Y240.2.1 46 = .ok (.istore_n 2, 1) := by decide +kernel
theorem d240_47 : decode Y240.2.1 47 = .ok (.goto 50, 3) := by decide +kernel
theorem d240_50 : decode Y240.2.1 50 = .ok (.aload_n 0, 1) := by decide +kernel
theorem d240_51 : decode Y240.2.1 51 = .ok (.iload_n 3, 1) := by decide +kernel
theorem d240_52 : decode Y240.2.1 52 = .ok (.invokevirtual 87, 3) := by decide +kernel
theorem d240_55 : decode Y240.2.1 55 = .ok (.iconst 3, 1) := by decide +kernel
theorem d240_56 : decode Y240.2.1 56 = .ok (.if_icmp .ne 41, 3) := by decide +kernel
theorem d240_59 : decode Y240.2.1 59 = .ok (.iload_n 1, 1) := by decide +kernel
theorem d240_60 : decode Y240.2.1 60 = .ok (.aload_n 0, 1) := by decide +kernel
theorem d240_61 : decode Y240.2.1 61 = .ok (.iload_n 3, 1) := by decide +kernel
theorem d240_62 : decode Y240.2.1 62 = .ok (.iconst 5, 1) := by decide +kernel
theorem d240_63 : decode Y240.2.1 63 = .ok (.invokevirtual 83, 3) := by decide +kernel
theorem d240_66 : decode Y240.2.1 66 = .ok (.bipush 72, 2) := by decide +kernel
theorem d240_68 : decode Y240.2.1 68 = .ok (.iadd, 1) := by decide +kernel
theorem d240_69 : decode Y240.2.1 69 = .ok (.if_icmp .ne 28, 3) := by decide +kernel
theorem d240_72 : decode Y240.2.1 72 = .ok (.aload_n 0, 1) := by decide +kernel
theorem d240_73 : decode Y240.2.1 73 = .ok (.iload_n 3, 1) := by decide +kernel
theorem d240_74 : decode Y240.2.1 74 = .ok (.bipush 8, 2) := by decide +kernel
theorem d240_76 : decode Y240.2.1 76 = .ok (.aload_n 0, 1) := by decide +kernel
theorem d240_77 : decode Y240.2.1 77 = .ok (.iload_n 3, 1) := by decide +kernel
theorem d240_78 : decode Y240.2.1 78 = .ok (.invokevirtual 284, 3) := by decide +kernel
theorem d240_81 : decode Y240.2.1 81 = .ok (.invokevirtual 94, 3) := by decide +kernel
theorem d240_84 : decode Y240.2.1 84 = .ok (.aload_n 0, 1) := by decide +kernel
theorem d240_85 : decode Y240.2.1 85 = .ok (.iload_n 3, 1) := by decide +kernel
theorem d240_86 : decode Y240.2.1 86 = .ok (.iconst 4, 1) := by decide +kernel
theorem d240_87 : decode Y240.2.1 87 = .ok (.iload_n 1, 1) := by decide +kernel
theorem d240_88 : decode Y240.2.1 88 = .ok (.invokevirtual 278, 3) := by decide +kernel
theorem d240_91 : decode Y240.2.1 91 = .ok (.iload_n 2, 1) := by decide +kernel
theorem d240_92 : decode Y240.2.1 92 = .ok (.iconst 1, 1) := by decide +kernel
theorem d240_93 : decode Y240.2.1 93 = .ok (.iload_n 3, 1) := by decide +kernel
theorem d240_94 : decode Y240.2.1 94 = .ok (.ishl, 1) := by decide +kernel
theorem d240_95 : decode Y240.2.1 95 = .ok (.ior, 1) := by decide +kernel
theorem d240_96 : decode Y240.2.1 96 = .ok (.istore_n 2, 1) := by decide +kernel
theorem d240_97 : decode Y240.2.1 97 = .ok (.iinc 3 1, 3) := by decide +kernel
theorem d240_100 : decode Y240.2.1 100 = .ok (.goto (-96), 3) := by decide +kernel
theorem d240_103 : decode Y240.2.1 103 = .ok (.iload_n 2, 1) := by decide +kernel
theorem d240_104 : decode Y240.2.1 104 = .ok (.ireturn, 1) := by decide +kernel
noncomputable def L240_4 (d : Nat) (a0 : Nat) (x1 : Int32) (x2 : Int32) (x3 : Int32) (m : lt_m) : Option lt_r := lt_run d Y240 4 [some (.inr (.inr (some a0))), some (.inl x1), some (.inl x2), some (.inl x3)] [] m
noncomputable def L240_50 (d : Nat) (a0 : Nat) (x1 : Int32) (x2 : Int32) (x3 : Int32) (m : lt_m) : Option lt_r := lt_run d Y240 50 [some (.inr (.inr (some a0))), some (.inl x1), some (.inl x2), some (.inl x3)] [] m
theorem E240 (d : Nat) (a0 : Nat) (x1 : Int32) (h0 : ts_sh a0 = (0, 12)) (m : lt_m) : lt_ev (d + 1) 240 [.inr (.inr (some a0)), .inl x1] m = L240_4 d a0 x1 (0 : Int32) (0 : Int32) m := by
  refine Eq.trans (lt_enter2 (ls := [some (.inr (.inr (some a0))), some (.inl x1), none, none]) hY240 (Nat.le_of_ble_eq_true rfl) (by rfl)) ?_
  refine Eq.trans (li_iconst d240_0 ic_0) ?_
  refine Eq.trans (li_istore_n (ls' := [some (.inr (.inr (some a0))), some (.inl x1), some (.inl (0 : Int32)), none]) d240_1 (by decide) (by rfl)) ?_
  refine Eq.trans (li_iconst d240_2 ic_0) ?_
  refine Eq.trans (li_istore_n (ls' := [some (.inr (.inr (some a0))), some (.inl x1), some (.inl (0 : Int32)), some (.inl (0 : Int32))]) d240_3 (by decide) (by rfl)) ?_
  rfl
theorem E240_4 (d : Nat) (a0 : Nat) (x1 : Int32) (x2 : Int32) (x3 : Int32) (h0 : ts_sh a0 = (0, 12)) (m : lt_m) : L240_4 d a0 x1 x2 x3 m = lt_gd (0 ≤ (2 : Int32) ∧ ((2 : Int32)).toNatClampNeg < 626) (if (m.1 (a0 + 1) ((2 : Int32)).toNatClampNeg) ≤ x3 then (some (some (.inl x2), m)) else (lt_cI (lt_ev d 197 [.inr (.inr (some a0)), .inl x3] m) (fun v1 m1 => (if ¬ v1 = 0 then (L240_50 d a0 x1 x2 x3 m1) else (lt_cI (lt_ev d 198 [.inr (.inr (some a0)), .inl x3, .inl (5 : Int32)] m1) (fun v2 m2 => (if ¬ x1 = (v2 + (1 : Int32)) then (L240_50 d a0 x1 x2 x3 m2) else (lt_cV (lt_ev d 235 [.inr (.inr (some a0)), .inl x3, .inl (3 : Int32), .inl x1] m2) (fun m3 => (L240_4 d a0 x1 (x2 ||| ((1 : Int32) <<< (x3 &&& 31))) (x3 + (1 : Int32)) m3)))))))))) := by
  show lt_run d Y240 4 [some (.inr (.inr (some a0))), some (.inl x1), some (.inl x2), some (.inl x3)] [] m = _
  refine Eq.trans (li_iload_n d240_4 (by rfl)) ?_
  refine Eq.trans (li_aload_n d240_5 (by rfl)) ?_
  refine Eq.trans (li_getr d240_6 fa_12_7 h0 rfl rfl rfl (by decide)) ?_
  refine Eq.trans (li_iconst d240_9 ic_2) ?_
  refine Eq.trans (li_iald d240_10 (sf_of h0 0 (by decide) (by decide))) ?_
  refine lt_gd_c (fun g1 => ?_)
  refine Eq.trans (li_icmp_ge (t := 103) d240_11 (by rfl)) ?_
  refine lt_ite (fun c1 => ?_) (fun c1 => ?_)
  · refine Eq.trans (li_iload_n d240_103 (by rfl)) ?_
    exact li_iret d240_104 rfl
  · refine Eq.trans (li_aload_n d240_14 (by rfl)) ?_
    refine Eq.trans (li_iload_n d240_15 (by rfl)) ?_
    refine Eq.trans (li_ivI d240_16 ca_12_87 kd_197 kl_197 (by rfl) (by rfl) h0 (Nat.le_of_ble_eq_true rfl) (Nat.le_of_ble_eq_true rfl)) ?_
    refine lt_cI_c (fun v1 m1 => ?_)
    refine Eq.trans (li_if_ne (t := 50) d240_19 (by rfl)) ?_
    refine lt_ite (fun c2 => ?_) (fun c2 => ?_)
    · rfl
    · refine Eq.trans (li_iload_n d240_22 (by rfl)) ?_
      refine Eq.trans (li_aload_n d240_23 (by rfl)) ?_
      refine Eq.trans (li_iload_n d240_24 (by rfl)) ?_
      refine Eq.trans (li_iconst d240_25 ic_5) ?_
      refine Eq.trans (li_ivI d240_26 ca_12_83 kd_198 kl_198 (by rfl) (by rfl) h0 (Nat.le_of_ble_eq_true rfl) (Nat.le_of_ble_eq_true rfl)) ?_
      refine lt_cI_c (fun v2 m2 => ?_)
      refine Eq.trans (li_iconst d240_29 ic_1) ?_
      refine Eq.trans (li_iadd d240_30) ?_
      refine Eq.trans (li_icmp_ne (t := 50) d240_31 (by rfl)) ?_
      refine lt_ite (fun c3 => ?_) (fun c3 => ?_)
      · rfl
      · refine Eq.trans (li_aload_n d240_34 (by rfl)) ?_
        refine Eq.trans (li_iload_n d240_35 (by rfl)) ?_
        refine Eq.trans (li_iconst d240_36 ic_3) ?_
        refine Eq.trans (li_iload_n d240_37 (by rfl)) ?_
        refine Eq.trans (li_ivV d240_38 ca_12_278 kd_235 kl_235 (by rfl) (by rfl) h0 (Nat.le_of_ble_eq_true rfl) (Nat.le_of_ble_eq_true rfl)) ?_
        refine lt_cV_c (fun m3 => ?_)
        refine Eq.trans (li_iload_n d240_41 (by rfl)) ?_
        refine Eq.trans (li_iconst d240_42 ic_1) ?_
        refine Eq.trans (li_iload_n d240_43 (by rfl)) ?_
        refine Eq.trans (li_ishl d240_44) ?_
        refine Eq.trans (li_ior d240_45) ?_
        refine Eq.trans (li_istore_n (ls' := [some (.inr (.inr (some a0))), some (.inl x1), some (.inl (x2 ||| ((1 : Int32) <<< (x3 &&& 31)))), some (.inl x3)]) d240_46 (by decide) (by rfl)) ?_
        refine Eq.trans (li_goto (t := 97) d240_47 (by rfl)) ?_
        refine Eq.trans (li_iinc (ls' := [some (.inr (.inr (some a0))), some (.inl x1), some (.inl (x2 ||| ((1 : Int32) <<< (x3 &&& 31)))), some (.inl (x3 + (1 : Int32)))]) d240_97 (by rfl) (by decide) ic_1 (by rfl)) ?_
        refine Eq.trans (li_goto (t := 4) d240_100 (by rfl)) ?_
        rfl
theorem E240_50 (d : Nat) (a0 : Nat) (x1 : Int32) (x2 : Int32) (x3 : Int32) (h0 : ts_sh a0 = (0, 12)) (m : lt_m) : L240_50 d a0 x1 x2 x3 m = lt_cI (lt_ev d 197 [.inr (.inr (some a0)), .inl x3] m) (fun v1 m1 => (if ¬ v1 = (3 : Int32) then (L240_4 d a0 x1 x2 (x3 + (1 : Int32)) m1) else (lt_cI (lt_ev d 198 [.inr (.inr (some a0)), .inl x3, .inl (5 : Int32)] m1) (fun v2 m2 => (if ¬ x1 = (v2 + (72 : Int32)) then (L240_4 d a0 x1 x2 (x3 + (1 : Int32)) m2) else (lt_cI (lt_ev d 241 [.inr (.inr (some a0)), .inl x3] m2) (fun v3 m3 => (lt_cV (lt_ev d 228 [.inr (.inr (some a0)), .inl x3, .inl (8 : Int32), .inl v3] m3) (fun m4 => (lt_cV (lt_ev d 235 [.inr (.inr (some a0)), .inl x3, .inl (4 : Int32), .inl x1] m4) (fun m5 => (L240_4 d a0 x1 (x2 ||| ((1 : Int32) <<< (x3 &&& 31))) (x3 + (1 : Int32)) m5)))))))))))) := by
  show lt_run d Y240 50 [some (.inr (.inr (some a0))), some (.inl x1), some (.inl x2), some (.inl x3)] [] m = _
  refine Eq.trans (li_aload_n d240_50 (by rfl)) ?_
  refine Eq.trans (li_iload_n d240_51 (by rfl)) ?_
  refine Eq.trans (li_ivI d240_52 ca_12_87 kd_197 kl_197 (by rfl) (by rfl) h0 (Nat.le_of_ble_eq_true rfl) (Nat.le_of_ble_eq_true rfl)) ?_
  refine lt_cI_c (fun v1 m1 => ?_)
  refine Eq.trans (li_iconst d240_55 ic_3) ?_
  refine Eq.trans (li_icmp_ne (t := 97) d240_56 (by rfl)) ?_
  refine lt_ite (fun c1 => ?_) (fun c1 => ?_)
  · refine Eq.trans (li_iinc (ls' := [some (.inr (.inr (some a0))), some (.inl x1), some (.inl x2), some (.inl (x3 + (1 : Int32)))]) d240_97 (by rfl) (by decide) ic_1 (by rfl)) ?_
    refine Eq.trans (li_goto (t := 4) d240_100 (by rfl)) ?_
    rfl
  · refine Eq.trans (li_iload_n d240_59 (by rfl)) ?_
    refine Eq.trans (li_aload_n d240_60 (by rfl)) ?_
    refine Eq.trans (li_iload_n d240_61 (by rfl)) ?_
    refine Eq.trans (li_iconst d240_62 ic_5) ?_
    refine Eq.trans (li_ivI d240_63 ca_12_83 kd_198 kl_198 (by rfl) (by rfl) h0 (Nat.le_of_ble_eq_true rfl) (Nat.le_of_ble_eq_true rfl)) ?_
    refine lt_cI_c (fun v2 m2 => ?_)
    refine Eq.trans (li_bipush d240_66 bi_72) ?_
    refine Eq.trans (li_iadd d240_68) ?_
    refine Eq.trans (li_icmp_ne (t := 97) d240_69 (by rfl)) ?_
    refine lt_ite (fun c2 => ?_) (fun c2 => ?_)
    · refine Eq.trans (li_iinc (ls' := [some (.inr (.inr (some a0))), some (.inl x1), some (.inl x2), some (.inl (x3 + (1 : Int32)))]) d240_97 (by rfl) (by decide) ic_1 (by rfl)) ?_
      refine Eq.trans (li_goto (t := 4) d240_100 (by rfl)) ?_
      rfl
    · refine Eq.trans (li_aload_n d240_72 (by rfl)) ?_
      refine Eq.trans (li_iload_n d240_73 (by rfl)) ?_
      refine Eq.trans (li_bipush d240_74 bi_8) ?_
      refine Eq.trans (li_aload_n d240_76 (by rfl)) ?_
      refine Eq.trans (li_iload_n d240_77 (by rfl)) ?_
      refine Eq.trans (li_ivI d240_78 ca_12_284 kd_241 kl_241 (by rfl) (by rfl) h0 (Nat.le_of_ble_eq_true rfl) (Nat.le_of_ble_eq_true rfl)) ?_
      refine lt_cI_c (fun v3 m3 => ?_)
      refine Eq.trans (li_ivV d240_81 ca_12_94 kd_228 kl_228 (by rfl) (by rfl) h0 (Nat.le_of_ble_eq_true rfl) (Nat.le_of_ble_eq_true rfl)) ?_
      refine lt_cV_c (fun m4 => ?_)
      refine Eq.trans (li_aload_n d240_84 (by rfl)) ?_
      refine Eq.trans (li_iload_n d240_85 (by rfl)) ?_
      refine Eq.trans (li_iconst d240_86 ic_4) ?_
      refine Eq.trans (li_iload_n d240_87 (by rfl)) ?_
      refine Eq.trans (li_ivV d240_88 ca_12_278 kd_235 kl_235 (by rfl) (by rfl) h0 (Nat.le_of_ble_eq_true rfl) (Nat.le_of_ble_eq_true rfl)) ?_
      refine lt_cV_c (fun m5 => ?_)
      refine Eq.trans (li_iload_n d240_91 (by rfl)) ?_
      refine Eq.trans (li_iconst d240_92 ic_1) ?_
      refine Eq.trans (li_iload_n d240_93 (by rfl)) ?_
      refine Eq.trans (li_ishl d240_94) ?_
      refine Eq.trans (li_ior d240_95) ?_
      refine Eq.trans (li_istore_n (ls' := [some (.inr (.inr (some a0))), some (.inl x1), some (.inl (x2 ||| ((1 : Int32) <<< (x3 &&& 31)))), some (.inl x3)]) d240_96 (by decide) (by rfl)) ?_
      refine Eq.trans (li_iinc (ls' := [some (.inr (.inr (some a0))), some (.inl x1), some (.inl (x2 ||| ((1 : Int32) <<< (x3 &&& 31)))), some (.inl (x3 + (1 : Int32)))]) d240_97 (by rfl) (by decide) ic_1 (by rfl)) ?_
      refine Eq.trans (li_goto (t := 4) d240_100 (by rfl)) ?_
      rfl
/-! TransitSealsModel.dutyOf(I)I -/
theorem d241_0 : decode Y241.2.1 0 = .ok (.aload_n 0, 1) := by decide +kernel
theorem d241_1 : decode Y241.2.1 1 = .ok (.iload_n 1, 1) := by decide +kernel
theorem d241_2 : decode Y241.2.1 2 = .ok (.iconst 2, 1) := by decide +kernel
theorem d241_3 : decode Y241.2.1 3 = .ok (.invokevirtual 83, 3) := by decide +kernel
theorem d241_6 : decode Y241.2.1 6 = .ok (.aload_n 0, 1) := by decide +kernel
theorem d241_7 : decode Y241.2.1 7 = .ok (.getfield 25, 3) := by decide +kernel
theorem d241_10 : decode Y241.2.1 10 = .ok (.aload_n 0, 1) := by decide +kernel
theorem d241_11 : decode Y241.2.1 11 = .ok (.iload_n 1, 1) := by decide +kernel
theorem d241_12 : decode Y241.2.1 12 = .ok (.iconst 1, 1) := by decide +kernel
theorem d241_13 : decode Y241.2.1 13 = .ok (.invokevirtual 83, 3) := by decide +kernel
theorem d241_16 : decode Y241.2.1 16 = .ok (.iaload, 1) := by decide +kernel
theorem d241_17 : decode Y241.2.1 17 = .ok (.imul, 1) := by decide +kernel
theorem d241_18 : decode Y241.2.1 18 = .ok (.ireturn, 1) := by decide +kernel
theorem E241 (d : Nat) (a0 : Nat) (x1 : Int32) (h0 : ts_sh a0 = (0, 12)) (m : lt_m) : lt_ev (d + 1) 241 [.inr (.inr (some a0)), .inl x1] m = lt_cI (lt_ev d 198 [.inr (.inr (some a0)), .inl x1, .inl (2 : Int32)] m) (fun v1 m1 => (lt_cI (lt_ev d 198 [.inr (.inr (some a0)), .inl x1, .inl (1 : Int32)] m1) (fun v2 m2 => (lt_gd (0 ≤ v2 ∧ (v2).toNatClampNeg < 6) (some (some (.inl (v1 * (m2.1 (a0 + 6) (v2).toNatClampNeg))), m2)))))) := by
  refine Eq.trans (lt_enter2 (ls := [some (.inr (.inr (some a0))), some (.inl x1)]) hY241 (Nat.le_of_ble_eq_true rfl) (by rfl)) ?_
  refine Eq.trans (li_aload_n d241_0 (by rfl)) ?_
  refine Eq.trans (li_iload_n d241_1 (by rfl)) ?_
  refine Eq.trans (li_iconst d241_2 ic_2) ?_
  refine Eq.trans (li_ivI d241_3 ca_12_83 kd_198 kl_198 (by rfl) (by rfl) h0 (Nat.le_of_ble_eq_true rfl) (Nat.le_of_ble_eq_true rfl)) ?_
  refine lt_cI_c (fun v1 m1 => ?_)
  refine Eq.trans (li_aload_n d241_6 (by rfl)) ?_
  refine Eq.trans (li_getr d241_7 fa_12_25 h0 rfl rfl rfl (by decide)) ?_
  refine Eq.trans (li_aload_n d241_10 (by rfl)) ?_
  refine Eq.trans (li_iload_n d241_11 (by rfl)) ?_
  refine Eq.trans (li_iconst d241_12 ic_1) ?_
  refine Eq.trans (li_ivI d241_13 ca_12_83 kd_198 kl_198 (by rfl) (by rfl) h0 (Nat.le_of_ble_eq_true rfl) (Nat.le_of_ble_eq_true rfl)) ?_
  refine lt_cI_c (fun v2 m2 => ?_)
  refine Eq.trans (li_iald d241_16 (sf_of h0 7 (by decide) (by decide))) ?_
  refine lt_gd_c (fun g1 => ?_)
  refine Eq.trans (li_imul d241_17) ?_
  exact li_iret d241_18 rfl
/-! TransitSealsModel.movement(II)I -/
theorem d242_0 : decode Y242.2.1 0 = .ok (.aload_n 0, 1) := by decide +kernel
theorem d242_1 : decode Y242.2.1 1 = .ok (.iconst 0, 1) := by decide +kernel
theorem d242_2 : decode Y242.2.1 2 = .ok (.putfield 67, 3) := by decide +kernel
theorem d242_5 : decode Y242.2.1 5 = .ok (.aload_n 0, 1) := by decide +kernel
theorem d242_6 : decode Y242.2.1 6 = .ok (.iload_n 1, 1) := by decide +kernel
theorem d242_7 : decode Y242.2.1 7 = .ok (.invokevirtual 272, 3) := by decide +kernel
theorem d242_10 : decode Y242.2.1 10 = .ok (.ifCond .ne 5, 3) := by decide +kernel
theorem d242_13 : decode Y242.2.1 13 = .ok (.iconst (-1), 1) := by decide +kernel
theorem d242_14 : decode Y242.2.1 14 = .ok (.ireturn, 1) := by decide +kernel
theorem d242_15 : decode Y242.2.1 15 = .ok (.iload_n 2, 1) := by decide +kernel
theorem d242_16 : decode Y242.2.1 16 = .ok (.tableswitch 172 0 12 #[68, 75, 82, 89, 95, 101, 108, 115, 123, 129, 137, 145, 164], 68) := by decide +kernel
theorem d242_84 : decode Y242.2.1 84 = .ok (.aload_n 0, 1) := by decide +kernel
theorem d242_85 : decode Y242.2.1 85 = .ok (.iload_n 1, 1) := by decide +kernel
theorem d242_86 : decode Y242.2.1 86 = .ok (.iconst 0, 1) := by decide +kernel
theorem d242_87 : decode Y242.2.1 87 = .ok (.invokevirtual 83, 3) := by decide +kernel
theorem d242_90 : decode Y242.2.1 90 = .ok (.ireturn, 1) := by decide +kernel
theorem d242_91 : decode Y242.2.1 91 = .ok (.aload_n 0, 1) := by decide +kernel
theorem d242_92 : decode Y242.2.1 92 = .ok (.iload_n 1, 1) := by decide +kernel
theorem d242_93 : decode Y242.2.1 93 = .ok (.iconst 1, 1) := by decide +kernel
theorem d242_94 : decode Y242.2.1 94 = .ok (.invokevirtual 83, 3) := by decide +kernel
theorem d242_97 : decode Y242.2.1 97 = .ok (.ireturn, 1) := by decide +kernel
theorem d242_98 : decode Y242.2.1 98 = .ok (.aload_n 0, 1) := by decide +kernel
theorem d242_99 : decode Y242.2.1 99 = .ok (.iload_n 1, 1) := by decide +kernel
theorem d242_100 : decode Y242.2.1 100 = .ok (.iconst 2, 1) := by decide +kernel
theorem d242_101 : decode Y242.2.1 101 = .ok (.invokevirtual 83, 3) := by decide +kernel
theorem d242_104 : decode Y242.2.1 104 = .ok (.ireturn, 1) := by decide +kernel
theorem d242_105 : decode Y242.2.1 105 = .ok (.aload_n 0, 1) := by decide +kernel
theorem d242_106 : decode Y242.2.1 106 = .ok (.iload_n 1, 1) := by decide +kernel
theorem d242_107 : decode Y242.2.1 107 = .ok (.invokevirtual 87, 3) := by decide +kernel
theorem d242_110 : decode Y242.2.1 110 = .ok (.ireturn, 1) := by decide +kernel
theorem d242_111 : decode Y242.2.1 111 = .ok (.aload_n 0, 1) := by decide +kernel
theorem d242_112 : decode Y242.2.1 112 = .ok (.iload_n 1, 1) := by decide +kernel
theorem d242_113 : decode Y242.2.1 113 = .ok (.invokevirtual 284, 3) := by decide +kernel
theorem d242_116 : decode Y242.2.1 116 = .ok (.ireturn, 1) := by decide +kernel
theorem d242_117 : decode Y242.2.1 117 = .ok (.aload_n 0, 1) := by decide +kernel
theorem d242_118 : decode Y242.2.1 118 = .ok (.iload_n 1, 1) := by decide +kernel
theorem d242_119 : decode Y242.2.1 119 = .ok (.iconst 4, 1) := by decide +kernel
theorem d242_120 : decode Y242.2.1 120 = .ok (.invokevirtual 83, 3) := by decide +kernel
theorem d242_123 : decode Y242.2.1 123 = .ok (.ireturn, 1) := by decide +kernel
theorem d242_124 : decode Y242.2.1 124 = .ok (.aload_n 0, 1) := by decide +kernel
theorem d242_125 : decode Y242.2.1 125 = .ok (.iload_n 1, 1) := by decide +kernel
theorem d242_126 : decode Y242.2.1 126 = .ok (.iconst 5, 1) := by decide +kernel
theorem d242_127 : decode Y242.2.1 127 = .ok (.invokevirtual 83, 3) := by decide +kernel
theorem d242_130 : decode Y242.2.1 130 = .ok (.ireturn, 1) := by decide +kernel
theorem d242_131 : decode Y242.2.1 131 = .ok (.aload_n 0, 1) := by decide +kernel
theorem d242_132 : decode Y242.2.1 132 = .ok (.iload_n 1, 1) := by decide +kernel
theorem d242_133 : decode Y242.2.1 133 = .ok (.bipush 6, 2) := by decide +kernel
theorem d242_135 : decode Y242.2.1 135 = .ok (.invokevirtual 83, 3) := by decide +kernel
theorem d242_138 : decode Y242.2.1 138 = .ok (.ireturn, 1) := by decide +kernel
theorem d242_139 : decode Y242.2.1 139 = .ok (.aload_n 0, 1) := by decide +kernel
theorem d242_140 : decode Y242.2.1 140 = .ok (.iload_n 1, 1) := by decide +kernel
theorem d242_141 : decode Y242.2.1 141 = .ok (.invokevirtual 182, 3) := by decide +kernel
theorem d242_144 : decode Y242.2.1 144 = .ok (.ireturn, 1) := by decide +kernel
theorem d242_145 : decode Y242.2.1 145 = .ok (.aload_n 0, 1) := by decide +kernel
theorem d242_146 : decode Y242.2.1 146 = .ok (.iload_n 1, 1) := by decide +kernel
theorem d242_147 : decode Y242.2.1 147 = .ok (.bipush 7, 2) := by decide +kernel
theorem d242_149 : decode Y242.2.1 149 = .ok (.invokevirtual 83, 3) := by decide +kernel
theorem d242_152 : decode Y242.2.1 152 = .ok (.ireturn, 1) := by decide +kernel
theorem d242_153 : decode Y242.2.1 153 = .ok (.aload_n 0, 1) := by decide +kernel
theorem d242_154 : decode Y242.2.1 154 = .ok (.iload_n 1, 1) := by decide +kernel
theorem d242_155 : decode Y242.2.1 155 = .ok (.bipush 8, 2) := by decide +kernel
theorem d242_157 : decode Y242.2.1 157 = .ok (.invokevirtual 83, 3) := by decide +kernel
theorem d242_160 : decode Y242.2.1 160 = .ok (.ireturn, 1) := by decide +kernel
theorem d242_161 : decode Y242.2.1 161 = .ok (.aload_n 0, 1) := by decide +kernel
theorem d242_162 : decode Y242.2.1 162 = .ok (.iload_n 1, 1) := by decide +kernel
theorem d242_163 : decode Y242.2.1 163 = .ok (.invokevirtual 87, 3) := by decide +kernel
theorem d242_166 : decode Y242.2.1 166 = .ok (.iconst 3, 1) := by decide +kernel
theorem d242_167 : decode Y242.2.1 167 = .ok (.if_icmp .ne 11, 3) := by decide +kernel
theorem d242_170 : decode Y242.2.1 170 = .ok (.aload_n 0, 1) := by decide +kernel
theorem d242_171 : decode Y242.2.1 171 = .ok (.iload_n 1, 1) := by decide +kernel
theorem d242_172 : decode Y242.2.1 172 = .ok (.invokevirtual 281, 3) := by decide +kernel
theorem d242_175 : decode Y242.2.1 175 = .ok (.goto 4, 3) := by decide +kernel
theorem d242_178 : decode Y242.2.1 178 = .ok (.iconst 0, 1) := by decide +kernel
theorem d242_179 : decode Y242.2.1 179 = .ok (.ireturn, 1) := by decide +kernel
theorem d242_180 : decode Y242.2.1 180 = .ok (.aload_n 0, 1) := by decide +kernel
theorem d242_181 : decode Y242.2.1 181 = .ok (.iload_n 1, 1) := by decide +kernel
theorem d242_182 : decode Y242.2.1 182 = .ok (.bipush 9, 2) := by decide +kernel
theorem d242_184 : decode Y242.2.1 184 = .ok (.invokevirtual 83, 3) := by decide +kernel
theorem d242_187 : decode Y242.2.1 187 = .ok (.ireturn, 1) := by decide +kernel
theorem d242_188 : decode Y242.2.1 188 = .ok (.iconst (-1), 1) := by decide +kernel
theorem d242_189 : decode Y242.2.1 189 = .ok (.ireturn, 1) := by decide +kernel
theorem E242 (d : Nat) (a0 : Nat) (x1 : Int32) (x2 : Int32) (h0 : ts_sh a0 = (0, 12)) (m : lt_m) : lt_ev (d + 1) 242 [.inr (.inr (some a0)), .inl x1, .inl x2] m = lt_cI (lt_ev d 231 [.inr (.inr (some a0)), .inl x1] (lm_i m a0 15 (0 : Int32))) (fun v1 m1 => (if ¬ v1 = 0 then (lt_sw x2 [(lt_cI (lt_ev d 198 [.inr (.inr (some a0)), .inl x1, .inl (0 : Int32)] m1) (fun v2 m2 => (some (some (.inl v2), m2)))), (lt_cI (lt_ev d 198 [.inr (.inr (some a0)), .inl x1, .inl (1 : Int32)] m1) (fun v3 m3 => (some (some (.inl v3), m3)))), (lt_cI (lt_ev d 198 [.inr (.inr (some a0)), .inl x1, .inl (2 : Int32)] m1) (fun v4 m4 => (some (some (.inl v4), m4)))), (lt_cI (lt_ev d 197 [.inr (.inr (some a0)), .inl x1] m1) (fun v5 m5 => (some (some (.inl v5), m5)))), (lt_cI (lt_ev d 241 [.inr (.inr (some a0)), .inl x1] m1) (fun v6 m6 => (some (some (.inl v6), m6)))), (lt_cI (lt_ev d 198 [.inr (.inr (some a0)), .inl x1, .inl (4 : Int32)] m1) (fun v7 m7 => (some (some (.inl v7), m7)))), (lt_cI (lt_ev d 198 [.inr (.inr (some a0)), .inl x1, .inl (5 : Int32)] m1) (fun v8 m8 => (some (some (.inl v8), m8)))), (lt_cI (lt_ev d 198 [.inr (.inr (some a0)), .inl x1, .inl (6 : Int32)] m1) (fun v9 m9 => (some (some (.inl v9), m9)))), (lt_cI (lt_ev d 199 [.inr (.inr (some a0)), .inl x1] m1) (fun v10 m10 => (some (some (.inl v10), m10)))), (lt_cI (lt_ev d 198 [.inr (.inr (some a0)), .inl x1, .inl (7 : Int32)] m1) (fun v11 m11 => (some (some (.inl v11), m11)))), (lt_cI (lt_ev d 198 [.inr (.inr (some a0)), .inl x1, .inl (8 : Int32)] m1) (fun v12 m12 => (some (some (.inl v12), m12)))), (lt_cI (lt_ev d 197 [.inr (.inr (some a0)), .inl x1] m1) (fun v13 m13 => (if ¬ v13 = (3 : Int32) then (some (some (.inl (0 : Int32)), m13)) else (lt_cI (lt_ev d 237 [.inr (.inr (some a0)), .inl x1] m13) (fun v14 m14 => (some (some (.inl v14), m14))))))), (lt_cI (lt_ev d 198 [.inr (.inr (some a0)), .inl x1, .inl (9 : Int32)] m1) (fun v15 m15 => (some (some (.inl v15), m15))))] (some (some (.inl (-1 : Int32)), m1))) else (some (some (.inl (-1 : Int32)), m1)))) := by
  refine Eq.trans (lt_enter2 (ls := [some (.inr (.inr (some a0))), some (.inl x1), some (.inl x2)]) hY242 (Nat.le_of_ble_eq_true rfl) (by rfl)) ?_
  refine Eq.trans (li_aload_n d242_0 (by rfl)) ?_
  refine Eq.trans (li_iconst d242_1 ic_0) ?_
  refine Eq.trans (li_puti d242_2 fa_12_67 h0 rfl rfl) ?_
  refine Eq.trans (li_aload_n d242_5 (by rfl)) ?_
  refine Eq.trans (li_iload_n d242_6 (by rfl)) ?_
  refine Eq.trans (li_ivI d242_7 ca_12_272 kd_231 kl_231 (by rfl) (by rfl) h0 (Nat.le_of_ble_eq_true rfl) (Nat.le_of_ble_eq_true rfl)) ?_
  refine lt_cI_c (fun v1 m1 => ?_)
  refine Eq.trans (li_if_ne (t := 15) d242_10 (by rfl)) ?_
  refine lt_ite (fun c1 => ?_) (fun c1 => ?_)
  · refine Eq.trans (li_iload_n d242_15 (by rfl)) ?_
    refine Eq.trans (li_tsw (n := 12) (td := 188) (ts := [84, 91, 98, 105, 111, 117, 124, 131, 139, 145, 153, 161, 180]) d242_16 (by decide) (by decide) (by rfl)) ?_
    refine lt_sw_c ?_ ?_
    · simp only [List.map_cons, List.map_nil]
      refine lt_l2 ?_ (lt_l2 ?_ (lt_l2 ?_ (lt_l2 ?_ (lt_l2 ?_ (lt_l2 ?_ (lt_l2 ?_ (lt_l2 ?_ (lt_l2 ?_ (lt_l2 ?_ (lt_l2 ?_ (lt_l2 ?_ (lt_l2 ?_ (rfl)))))))))))))
      · refine Eq.trans (li_aload_n d242_84 (by rfl)) ?_
        refine Eq.trans (li_iload_n d242_85 (by rfl)) ?_
        refine Eq.trans (li_iconst d242_86 ic_0) ?_
        refine Eq.trans (li_ivI d242_87 ca_12_83 kd_198 kl_198 (by rfl) (by rfl) h0 (Nat.le_of_ble_eq_true rfl) (Nat.le_of_ble_eq_true rfl)) ?_
        refine lt_cI_c (fun v2 m2 => ?_)
        exact li_iret d242_90 rfl
      · refine Eq.trans (li_aload_n d242_91 (by rfl)) ?_
        refine Eq.trans (li_iload_n d242_92 (by rfl)) ?_
        refine Eq.trans (li_iconst d242_93 ic_1) ?_
        refine Eq.trans (li_ivI d242_94 ca_12_83 kd_198 kl_198 (by rfl) (by rfl) h0 (Nat.le_of_ble_eq_true rfl) (Nat.le_of_ble_eq_true rfl)) ?_
        refine lt_cI_c (fun v3 m3 => ?_)
        exact li_iret d242_97 rfl
      · refine Eq.trans (li_aload_n d242_98 (by rfl)) ?_
        refine Eq.trans (li_iload_n d242_99 (by rfl)) ?_
        refine Eq.trans (li_iconst d242_100 ic_2) ?_
        refine Eq.trans (li_ivI d242_101 ca_12_83 kd_198 kl_198 (by rfl) (by rfl) h0 (Nat.le_of_ble_eq_true rfl) (Nat.le_of_ble_eq_true rfl)) ?_
        refine lt_cI_c (fun v4 m4 => ?_)
        exact li_iret d242_104 rfl
      · refine Eq.trans (li_aload_n d242_105 (by rfl)) ?_
        refine Eq.trans (li_iload_n d242_106 (by rfl)) ?_
        refine Eq.trans (li_ivI d242_107 ca_12_87 kd_197 kl_197 (by rfl) (by rfl) h0 (Nat.le_of_ble_eq_true rfl) (Nat.le_of_ble_eq_true rfl)) ?_
        refine lt_cI_c (fun v5 m5 => ?_)
        exact li_iret d242_110 rfl
      · refine Eq.trans (li_aload_n d242_111 (by rfl)) ?_
        refine Eq.trans (li_iload_n d242_112 (by rfl)) ?_
        refine Eq.trans (li_ivI d242_113 ca_12_284 kd_241 kl_241 (by rfl) (by rfl) h0 (Nat.le_of_ble_eq_true rfl) (Nat.le_of_ble_eq_true rfl)) ?_
        refine lt_cI_c (fun v6 m6 => ?_)
        exact li_iret d242_116 rfl
      · refine Eq.trans (li_aload_n d242_117 (by rfl)) ?_
        refine Eq.trans (li_iload_n d242_118 (by rfl)) ?_
        refine Eq.trans (li_iconst d242_119 ic_4) ?_
        refine Eq.trans (li_ivI d242_120 ca_12_83 kd_198 kl_198 (by rfl) (by rfl) h0 (Nat.le_of_ble_eq_true rfl) (Nat.le_of_ble_eq_true rfl)) ?_
        refine lt_cI_c (fun v7 m7 => ?_)
        exact li_iret d242_123 rfl
      · refine Eq.trans (li_aload_n d242_124 (by rfl)) ?_
        refine Eq.trans (li_iload_n d242_125 (by rfl)) ?_
        refine Eq.trans (li_iconst d242_126 ic_5) ?_
        refine Eq.trans (li_ivI d242_127 ca_12_83 kd_198 kl_198 (by rfl) (by rfl) h0 (Nat.le_of_ble_eq_true rfl) (Nat.le_of_ble_eq_true rfl)) ?_
        refine lt_cI_c (fun v8 m8 => ?_)
        exact li_iret d242_130 rfl
      · refine Eq.trans (li_aload_n d242_131 (by rfl)) ?_
        refine Eq.trans (li_iload_n d242_132 (by rfl)) ?_
        refine Eq.trans (li_bipush d242_133 bi_6) ?_
        refine Eq.trans (li_ivI d242_135 ca_12_83 kd_198 kl_198 (by rfl) (by rfl) h0 (Nat.le_of_ble_eq_true rfl) (Nat.le_of_ble_eq_true rfl)) ?_
        refine lt_cI_c (fun v9 m9 => ?_)
        exact li_iret d242_138 rfl
      · refine Eq.trans (li_aload_n d242_139 (by rfl)) ?_
        refine Eq.trans (li_iload_n d242_140 (by rfl)) ?_
        refine Eq.trans (li_ivI d242_141 ca_12_182 kd_199 kl_199 (by rfl) (by rfl) h0 (Nat.le_of_ble_eq_true rfl) (Nat.le_of_ble_eq_true rfl)) ?_
        refine lt_cI_c (fun v10 m10 => ?_)
        exact li_iret d242_144 rfl
      · refine Eq.trans (li_aload_n d242_145 (by rfl)) ?_
        refine Eq.trans (li_iload_n d242_146 (by rfl)) ?_
        refine Eq.trans (li_bipush d242_147 bi_7) ?_
        refine Eq.trans (li_ivI d242_149 ca_12_83 kd_198 kl_198 (by rfl) (by rfl) h0 (Nat.le_of_ble_eq_true rfl) (Nat.le_of_ble_eq_true rfl)) ?_
        refine lt_cI_c (fun v11 m11 => ?_)
        exact li_iret d242_152 rfl
      · refine Eq.trans (li_aload_n d242_153 (by rfl)) ?_
        refine Eq.trans (li_iload_n d242_154 (by rfl)) ?_
        refine Eq.trans (li_bipush d242_155 bi_8) ?_
        refine Eq.trans (li_ivI d242_157 ca_12_83 kd_198 kl_198 (by rfl) (by rfl) h0 (Nat.le_of_ble_eq_true rfl) (Nat.le_of_ble_eq_true rfl)) ?_
        refine lt_cI_c (fun v12 m12 => ?_)
        exact li_iret d242_160 rfl
      · refine Eq.trans (li_aload_n d242_161 (by rfl)) ?_
        refine Eq.trans (li_iload_n d242_162 (by rfl)) ?_
        refine Eq.trans (li_ivI d242_163 ca_12_87 kd_197 kl_197 (by rfl) (by rfl) h0 (Nat.le_of_ble_eq_true rfl) (Nat.le_of_ble_eq_true rfl)) ?_
        refine lt_cI_c (fun v13 m13 => ?_)
        refine Eq.trans (li_iconst d242_166 ic_3) ?_
        refine Eq.trans (li_icmp_ne (t := 178) d242_167 (by rfl)) ?_
        refine lt_ite (fun c2 => ?_) (fun c2 => ?_)
        · refine Eq.trans (li_iconst d242_178 ic_0) ?_
          exact li_iret d242_179 rfl
        · refine Eq.trans (li_aload_n d242_170 (by rfl)) ?_
          refine Eq.trans (li_iload_n d242_171 (by rfl)) ?_
          refine Eq.trans (li_ivI d242_172 ca_12_281 kd_237 kl_237 (by rfl) (by rfl) h0 (Nat.le_of_ble_eq_true rfl) (Nat.le_of_ble_eq_true rfl)) ?_
          refine lt_cI_c (fun v14 m14 => ?_)
          refine Eq.trans (li_goto (t := 179) d242_175 (by rfl)) ?_
          exact li_iret d242_179 rfl
      · refine Eq.trans (li_aload_n d242_180 (by rfl)) ?_
        refine Eq.trans (li_iload_n d242_181 (by rfl)) ?_
        refine Eq.trans (li_bipush d242_182 bi_9) ?_
        refine Eq.trans (li_ivI d242_184 ca_12_83 kd_198 kl_198 (by rfl) (by rfl) h0 (Nat.le_of_ble_eq_true rfl) (Nat.le_of_ble_eq_true rfl)) ?_
        refine lt_cI_c (fun v15 m15 => ?_)
        exact li_iret d242_187 rfl
    · refine Eq.trans (li_iconst d242_188 ic_n1) ?_
      exact li_iret d242_189 rfl
  · refine Eq.trans (li_iconst d242_13 ic_n1) ?_
    exact li_iret d242_14 rfl
/-! TransitSealsModel.stop(II)I -/
theorem d243_0 : decode Y243.2.1 0 = .ok (.aload_n 0, 1) := by decide +kernel
theorem d243_1 : decode Y243.2.1 1 = .ok (.iconst 0, 1) := by decide +kernel
theorem d243_2 : decode Y243.2.1 2 = .ok (.putfield 67, 3) := by decide +kernel
theorem d243_5 : decode Y243.2.1 5 = .ok (.aload_n 0, 1) := by decide +kernel
theorem d243_6 : decode Y243.2.1 6 = .ok (.iload_n 1, 1) := by decide +kernel
theorem d243_7 : decode Y243.2.1 7 = .ok (.invokevirtual 272, 3) := by decide +kernel
theorem d243_10 : decode Y243.2.1 10 = .ok (.ifCond .eq 22, 3) := by decide +kernel
theorem d243_13 : decode Y243.2.1 13 = .ok (.iload_n 2, 1) := by decide +kernel
theorem d243_14 : decode Y243.2.1 14 = .ok (.i2l, 1) := by decide +kernel
theorem d243_15 : decode Y243.2.1 15 = .ok (.lconst 0, 1) := by decide +kernel
theorem d243_16 : decode Y243.2.1 16 = .ok (.aload_n 0, 1) := by decide +kernel
theorem d243_17 : decode Y243.2.1 17 = .ok (.iload_n 1, 1) := by decide +kernel
theorem d243_18 : decode Y243.2.1 18 = .ok (.bipush 9, 2) := by decide +kernel
theorem d243_20 : decode Y243.2.1 20 = .ok (.invokevirtual 83, 3) := by decide +kernel
theorem d243_23 : decode Y243.2.1 23 = .ok (.iconst 1, 1) := by decide +kernel
theorem d243_24 : decode Y243.2.1 24 = .ok (.isub, 1) := by decide +kernel
theorem d243_25 : decode Y243.2.1 25 = .ok (.i2l, 1) := by decide +kernel
theorem d243_26 : decode Y243.2.1 26 = .ok (.invokestatic 76, 3) := by decide +kernel
theorem d243_29 : decode Y243.2.1 29 = .ok (.ifCond .ne 5, 3) := by decide +kernel
theorem d243_32 : decode Y243.2.1 32 = .ok (.iconst (-1), 1) := by decide +kernel
theorem d243_33 : decode Y243.2.1 33 = .ok (.ireturn, 1) := by decide +kernel
theorem d243_34 : decode Y243.2.1 34 = .ok (.aload_n 0, 1) := by decide +kernel
theorem d243_35 : decode Y243.2.1 35 = .ok (.iconst 0, 1) := by decide +kernel
theorem d243_36 : decode Y243.2.1 36 = .ok (.putfield 70, 3) := by decide +kernel
theorem d243_39 : decode Y243.2.1 39 = .ok (.aload_n 0, 1) := by decide +kernel
theorem d243_40 : decode Y243.2.1 40 = .ok (.iload_n 2, 1) := by decide +kernel
theorem d243_41 : decode Y243.2.1 41 = .ok (.aload_n 0, 1) := by decide +kernel
theorem d243_42 : decode Y243.2.1 42 = .ok (.iload_n 1, 1) := by decide +kernel
theorem d243_43 : decode Y243.2.1 43 = .ok (.bipush 6, 2) := by decide +kernel
theorem d243_45 : decode Y243.2.1 45 = .ok (.invokevirtual 83, 3) := by decide +kernel
theorem d243_48 : decode Y243.2.1 48 = .ok (.if_icmp .ge 16, 3) := by decide +kernel
theorem d243_51 : decode Y243.2.1 51 = .ok (.aload_n 0, 1) := by decide +kernel
theorem d243_52 : decode Y243.2.1 52 = .ok (.iload_n 1, 1) := by decide +kernel
theorem d243_53 : decode Y243.2.1 53 = .ok (.bipush 18, 2) := by decide +kernel
theorem d243_55 : decode Y243.2.1 55 = .ok (.iload_n 2, 1) := by decide +kernel
theorem d243_56 : decode Y243.2.1 56 = .ok (.iadd, 1) := by decide +kernel
theorem d243_57 : decode Y243.2.1 57 = .ok (.invokevirtual 83, 3) := by decide +kernel
theorem d243_60 : decode Y243.2.1 60 = .ok (.i2l, 1) := by decide +kernel
theorem d243_61 : decode Y243.2.1 61 = .ok (.goto 6, 3) := by decide +kernel
theorem d243_64 : decode Y243.2.1 64 = .ok (.ldc2_w 291, 3) := by decide +kernel
theorem d243_67 : decode Y243.2.1 67 = .ok (.invokevirtual 194, 3) := by decide +kernel
theorem d243_70 : decode Y243.2.1 70 = .ok (.aload_n 0, 1) := by decide +kernel
theorem d243_71 : decode Y243.2.1 71 = .ok (.iload_n 1, 1) := by decide +kernel
theorem d243_72 : decode Y243.2.1 72 = .ok (.bipush 10, 2) := by decide +kernel
theorem d243_74 : decode Y243.2.1 74 = .ok (.iload_n 2, 1) := by decide +kernel
theorem d243_75 : decode Y243.2.1 75 = .ok (.iadd, 1) := by decide +kernel
theorem d243_76 : decode Y243.2.1 76 = .ok (.invokevirtual 83, 3) := by decide +kernel
theorem d243_79 : decode Y243.2.1 79 = .ok (.ireturn, 1) := by decide +kernel
theorem E243 (d : Nat) (a0 : Nat) (x1 : Int32) (x2 : Int32) (h0 : ts_sh a0 = (0, 12)) (m : lt_m) : lt_ev (d + 1) 243 [.inr (.inr (some a0)), .inl x1, .inl x2] m = lt_cI (lt_ev d 231 [.inr (.inr (some a0)), .inl x1] (lm_i m a0 15 (0 : Int32))) (fun v1 m1 => (if v1 = 0 then (some (some (.inl (-1 : Int32)), m1)) else (lt_cI (lt_ev d 198 [.inr (.inr (some a0)), .inl x1, .inl (9 : Int32)] m1) (fun v2 m2 => (lt_cI (lt_ev d 181 [.inr (.inl ((x2).toInt64)), .inr (.inl (0 : Int64)), .inr (.inl (((v2 - (1 : Int32))).toInt64))] m2) (fun v3 m3 => (if ¬ v3 = 0 then (lt_cI (lt_ev d 198 [.inr (.inr (some a0)), .inl x1, .inl (6 : Int32)] (lm_i m3 a0 14 (0 : Int32))) (fun v4 m4 => (if v4 ≤ x2 then (lt_cV (lt_ev d 202 [.inr (.inr (some a0)), .inr (.inl (-1 : Int64))] m4) (fun m5 => (lt_cI (lt_ev d 198 [.inr (.inr (some a0)), .inl x1, .inl ((10 : Int32) + x2)] m5) (fun v5 m6 => (some (some (.inl v5), m6)))))) else (lt_cI (lt_ev d 198 [.inr (.inr (some a0)), .inl x1, .inl ((18 : Int32) + x2)] m4) (fun v6 m7 => (lt_cV (lt_ev d 202 [.inr (.inr (some a0)), .inr (.inl ((v6).toInt64))] m7) (fun m8 => (lt_cI (lt_ev d 198 [.inr (.inr (some a0)), .inl x1, .inl ((10 : Int32) + x2)] m8) (fun v7 m9 => (some (some (.inl v7), m9))))))))))) else (some (some (.inl (-1 : Int32)), m3))))))))) := by
  refine Eq.trans (lt_enter2 (ls := [some (.inr (.inr (some a0))), some (.inl x1), some (.inl x2)]) hY243 (Nat.le_of_ble_eq_true rfl) (by rfl)) ?_
  refine Eq.trans (li_aload_n d243_0 (by rfl)) ?_
  refine Eq.trans (li_iconst d243_1 ic_0) ?_
  refine Eq.trans (li_puti d243_2 fa_12_67 h0 rfl rfl) ?_
  refine Eq.trans (li_aload_n d243_5 (by rfl)) ?_
  refine Eq.trans (li_iload_n d243_6 (by rfl)) ?_
  refine Eq.trans (li_ivI d243_7 ca_12_272 kd_231 kl_231 (by rfl) (by rfl) h0 (Nat.le_of_ble_eq_true rfl) (Nat.le_of_ble_eq_true rfl)) ?_
  refine lt_cI_c (fun v1 m1 => ?_)
  refine Eq.trans (li_if_eq (t := 32) d243_10 (by rfl)) ?_
  refine lt_ite (fun c1 => ?_) (fun c1 => ?_)
  · refine Eq.trans (li_iconst d243_32 ic_n1) ?_
    exact li_iret d243_33 rfl
  · refine Eq.trans (li_iload_n d243_13 (by rfl)) ?_
    refine Eq.trans (li_i2l d243_14) ?_
    refine Eq.trans (li_lconst (v := 0) d243_15 (by decide)) ?_
    refine Eq.trans (li_aload_n d243_16 (by rfl)) ?_
    refine Eq.trans (li_iload_n d243_17 (by rfl)) ?_
    refine Eq.trans (li_bipush d243_18 bi_9) ?_
    refine Eq.trans (li_ivI d243_20 ca_12_83 kd_198 kl_198 (by rfl) (by rfl) h0 (Nat.le_of_ble_eq_true rfl) (Nat.le_of_ble_eq_true rfl)) ?_
    refine lt_cI_c (fun v2 m2 => ?_)
    refine Eq.trans (li_iconst d243_23 ic_1) ?_
    refine Eq.trans (li_isub d243_24) ?_
    refine Eq.trans (li_i2l d243_25) ?_
    refine Eq.trans (li_isI d243_26 bi_12_76 ca_12_76 kd_181 (by rfl) (by rfl) (Nat.le_of_ble_eq_true rfl) (Nat.le_of_ble_eq_true rfl)) ?_
    refine lt_cI_c (fun v3 m3 => ?_)
    refine Eq.trans (li_if_ne (t := 34) d243_29 (by rfl)) ?_
    refine lt_ite (fun c2 => ?_) (fun c2 => ?_)
    · refine Eq.trans (li_aload_n d243_34 (by rfl)) ?_
      refine Eq.trans (li_iconst d243_35 ic_0) ?_
      refine Eq.trans (li_puti d243_36 fa_12_70 h0 rfl rfl) ?_
      refine Eq.trans (li_aload_n d243_39 (by rfl)) ?_
      refine Eq.trans (li_iload_n d243_40 (by rfl)) ?_
      refine Eq.trans (li_aload_n d243_41 (by rfl)) ?_
      refine Eq.trans (li_iload_n d243_42 (by rfl)) ?_
      refine Eq.trans (li_bipush d243_43 bi_6) ?_
      refine Eq.trans (li_ivI d243_45 ca_12_83 kd_198 kl_198 (by rfl) (by rfl) h0 (Nat.le_of_ble_eq_true rfl) (Nat.le_of_ble_eq_true rfl)) ?_
      refine lt_cI_c (fun v4 m4 => ?_)
      refine Eq.trans (li_icmp_ge (t := 64) d243_48 (by rfl)) ?_
      refine lt_ite (fun c3 => ?_) (fun c3 => ?_)
      · refine Eq.trans (li_ldc2_w d243_64 cJ_12_291) ?_
        refine Eq.trans (li_ivV d243_67 ca_12_194 kd_202 kl_202 (by rfl) (by rfl) h0 (Nat.le_of_ble_eq_true rfl) (Nat.le_of_ble_eq_true rfl)) ?_
        refine lt_cV_c (fun m5 => ?_)
        refine Eq.trans (li_aload_n d243_70 (by rfl)) ?_
        refine Eq.trans (li_iload_n d243_71 (by rfl)) ?_
        refine Eq.trans (li_bipush d243_72 bi_10) ?_
        refine Eq.trans (li_iload_n d243_74 (by rfl)) ?_
        refine Eq.trans (li_iadd d243_75) ?_
        refine Eq.trans (li_ivI d243_76 ca_12_83 kd_198 kl_198 (by rfl) (by rfl) h0 (Nat.le_of_ble_eq_true rfl) (Nat.le_of_ble_eq_true rfl)) ?_
        refine lt_cI_c (fun v5 m6 => ?_)
        exact li_iret d243_79 rfl
      · refine Eq.trans (li_aload_n d243_51 (by rfl)) ?_
        refine Eq.trans (li_iload_n d243_52 (by rfl)) ?_
        refine Eq.trans (li_bipush d243_53 bi_18) ?_
        refine Eq.trans (li_iload_n d243_55 (by rfl)) ?_
        refine Eq.trans (li_iadd d243_56) ?_
        refine Eq.trans (li_ivI d243_57 ca_12_83 kd_198 kl_198 (by rfl) (by rfl) h0 (Nat.le_of_ble_eq_true rfl) (Nat.le_of_ble_eq_true rfl)) ?_
        refine lt_cI_c (fun v6 m7 => ?_)
        refine Eq.trans (li_i2l d243_60) ?_
        refine Eq.trans (li_goto (t := 67) d243_61 (by rfl)) ?_
        refine Eq.trans (li_ivV d243_67 ca_12_194 kd_202 kl_202 (by rfl) (by rfl) h0 (Nat.le_of_ble_eq_true rfl) (Nat.le_of_ble_eq_true rfl)) ?_
        refine lt_cV_c (fun m8 => ?_)
        refine Eq.trans (li_aload_n d243_70 (by rfl)) ?_
        refine Eq.trans (li_iload_n d243_71 (by rfl)) ?_
        refine Eq.trans (li_bipush d243_72 bi_10) ?_
        refine Eq.trans (li_iload_n d243_74 (by rfl)) ?_
        refine Eq.trans (li_iadd d243_75) ?_
        refine Eq.trans (li_ivI d243_76 ca_12_83 kd_198 kl_198 (by rfl) (by rfl) h0 (Nat.le_of_ble_eq_true rfl) (Nat.le_of_ble_eq_true rfl)) ?_
        refine lt_cI_c (fun v7 m9 => ?_)
        exact li_iret d243_79 rfl
    · refine Eq.trans (li_iconst d243_32 ic_n1) ?_
      exact li_iret d243_33 rfl
/-! TransitSealsModel.left(I)I -/
theorem d244_0 : decode Y244.2.1 0 = .ok (.aload_n 0, 1) := by decide +kernel
theorem d244_1 : decode Y244.2.1 1 = .ok (.iconst 0, 1) := by decide +kernel
theorem d244_2 : decode Y244.2.1 2 = .ok (.putfield 67, 3) := by decide +kernel
theorem d244_5 : decode Y244.2.1 5 = .ok (.aload_n 0, 1) := by decide +kernel
theorem d244_6 : decode Y244.2.1 6 = .ok (.iload_n 1, 1) := by decide +kernel
theorem d244_7 : decode Y244.2.1 7 = .ok (.invokevirtual 272, 3) := by decide +kernel
theorem d244_10 : decode Y244.2.1 10 = .ok (.ifCond .ne 5, 3) := by decide +kernel
theorem d244_13 : decode Y244.2.1 13 = .ok (.iconst (-1), 1) := by decide +kernel
theorem d244_14 : decode Y244.2.1 14 = .ok (.ireturn, 1) := by decide +kernel
theorem d244_15 : decode Y244.2.1 15 = .ok (.aload_n 0, 1) := by decide +kernel
theorem d244_16 : decode Y244.2.1 16 = .ok (.iload_n 1, 1) := by decide +kernel
theorem d244_17 : decode Y244.2.1 17 = .ok (.bipush 6, 2) := by decide +kernel
theorem d244_19 : decode Y244.2.1 19 = .ok (.invokevirtual 83, 3) := by decide +kernel
theorem d244_22 : decode Y244.2.1 22 = .ok (.istore_n 2, 1) := by decide +kernel
theorem d244_23 : decode Y244.2.1 23 = .ok (.aload_n 0, 1) := by decide +kernel
theorem d244_24 : decode Y244.2.1 24 = .ok (.iconst 0, 1) := by decide +kernel
theorem d244_25 : decode Y244.2.1 25 = .ok (.putfield 70, 3) := by decide +kernel
theorem d244_28 : decode Y244.2.1 28 = .ok (.aload_n 0, 1) := by decide +kernel
theorem d244_29 : decode Y244.2.1 29 = .ok (.aload_n 0, 1) := by decide +kernel
theorem d244_30 : decode Y244.2.1 30 = .ok (.iload_n 1, 1) := by decide +kernel
theorem d244_31 : decode Y244.2.1 31 = .ok (.iconst 5, 1) := by decide +kernel
theorem d244_32 : decode Y244.2.1 32 = .ok (.invokevirtual 83, 3) := by decide +kernel
theorem d244_35 : decode Y244.2.1 35 = .ok (.aload_n 0, 1) := by decide +kernel
theorem d244_36 : decode Y244.2.1 36 = .ok (.getfield 7, 3) := by decide +kernel
theorem d244_39 : decode Y244.2.1 39 = .ok (.iconst 0, 1) := by decide +kernel
theorem d244_40 : decode Y244.2.1 40 = .ok (.iaload, 1) := by decide +kernel
theorem d244_41 : decode Y244.2.1 41 = .ok (.isub, 1) := by decide +kernel
theorem d244_42 : decode Y244.2.1 42 = .ok (.i2l, 1) := by decide +kernel
theorem d244_43 : decode Y244.2.1 43 = .ok (.invokevirtual 194, 3) := by decide +kernel
theorem d244_46 : decode Y244.2.1 46 = .ok (.aload_n 0, 1) := by decide +kernel
theorem d244_47 : decode Y244.2.1 47 = .ok (.iload_n 2, 1) := by decide +kernel
theorem d244_48 : decode Y244.2.1 48 = .ok (.aload_n 0, 1) := by decide +kernel
theorem d244_49 : decode Y244.2.1 49 = .ok (.iload_n 1, 1) := by decide +kernel
theorem d244_50 : decode Y244.2.1 50 = .ok (.bipush 9, 2) := by decide +kernel
theorem d244_52 : decode Y244.2.1 52 = .ok (.invokevirtual 83, 3) := by decide +kernel
theorem d244_55 : decode Y244.2.1 55 = .ok (.if_icmp .ge 16, 3) := by decide +kernel
theorem d244_58 : decode Y244.2.1 58 = .ok (.aload_n 0, 1) := by decide +kernel
theorem d244_59 : decode Y244.2.1 59 = .ok (.iload_n 1, 1) := by decide +kernel
theorem d244_60 : decode Y244.2.1 60 = .ok (.bipush 10, 2) := by decide +kernel
theorem d244_62 : decode Y244.2.1 62 = .ok (.iload_n 2, 1) := by decide +kernel
theorem d244_63 : decode Y244.2.1 63 = .ok (.iadd, 1) := by decide +kernel
theorem d244_64 : decode Y244.2.1 64 = .ok (.invokevirtual 83, 3) := by decide +kernel
theorem d244_67 : decode Y244.2.1 67 = .ok (.i2l, 1) := by decide +kernel
theorem d244_68 : decode Y244.2.1 68 = .ok (.goto 6, 3) := by decide +kernel
theorem d244_71 : decode Y244.2.1 71 = .ok (.ldc2_w 291, 3) := by decide +kernel
theorem d244_74 : decode Y244.2.1 74 = .ok (.invokevirtual 194, 3) := by decide +kernel
theorem d244_77 : decode Y244.2.1 77 = .ok (.aload_n 0, 1) := by decide +kernel
theorem d244_78 : decode Y244.2.1 78 = .ok (.iload_n 1, 1) := by decide +kernel
theorem d244_79 : decode Y244.2.1 79 = .ok (.invokevirtual 293, 3) := by decide +kernel
theorem d244_82 : decode Y244.2.1 82 = .ok (.ireturn, 1) := by decide +kernel
theorem E244 (d : Nat) (a0 : Nat) (x1 : Int32) (h0 : ts_sh a0 = (0, 12)) (m : lt_m) : lt_ev (d + 1) 244 [.inr (.inr (some a0)), .inl x1] m = lt_cI (lt_ev d 231 [.inr (.inr (some a0)), .inl x1] (lm_i m a0 15 (0 : Int32))) (fun v1 m1 => (if ¬ v1 = 0 then (lt_cI (lt_ev d 198 [.inr (.inr (some a0)), .inl x1, .inl (6 : Int32)] m1) (fun v2 m2 => (lt_cI (lt_ev d 198 [.inr (.inr (some a0)), .inl x1, .inl (5 : Int32)] (lm_i m2 a0 14 (0 : Int32))) (fun v3 m3 => (lt_gd (0 ≤ (0 : Int32) ∧ ((0 : Int32)).toNatClampNeg < 626) (lt_cV (lt_ev d 202 [.inr (.inr (some a0)), .inr (.inl (((v3 - (m3.1 (a0 + 1) ((0 : Int32)).toNatClampNeg))).toInt64))] m3) (fun m4 => (lt_cI (lt_ev d 198 [.inr (.inr (some a0)), .inl x1, .inl (9 : Int32)] m4) (fun v4 m5 => (if v4 ≤ v2 then (lt_cV (lt_ev d 202 [.inr (.inr (some a0)), .inr (.inl (-1 : Int64))] m5) (fun m6 => (lt_cI (lt_ev d 245 [.inr (.inr (some a0)), .inl x1] m6) (fun v5 m7 => (some (some (.inl v5), m7)))))) else (lt_cI (lt_ev d 198 [.inr (.inr (some a0)), .inl x1, .inl ((10 : Int32) + v2)] m5) (fun v6 m8 => (lt_cV (lt_ev d 202 [.inr (.inr (some a0)), .inr (.inl ((v6).toInt64))] m8) (fun m9 => (lt_cI (lt_ev d 245 [.inr (.inr (some a0)), .inl x1] m9) (fun v7 m10 => (some (some (.inl v7), m10)))))))))))))))))) else (some (some (.inl (-1 : Int32)), m1)))) := by
  refine Eq.trans (lt_enter2 (ls := [some (.inr (.inr (some a0))), some (.inl x1), none]) hY244 (Nat.le_of_ble_eq_true rfl) (by rfl)) ?_
  refine Eq.trans (li_aload_n d244_0 (by rfl)) ?_
  refine Eq.trans (li_iconst d244_1 ic_0) ?_
  refine Eq.trans (li_puti d244_2 fa_12_67 h0 rfl rfl) ?_
  refine Eq.trans (li_aload_n d244_5 (by rfl)) ?_
  refine Eq.trans (li_iload_n d244_6 (by rfl)) ?_
  refine Eq.trans (li_ivI d244_7 ca_12_272 kd_231 kl_231 (by rfl) (by rfl) h0 (Nat.le_of_ble_eq_true rfl) (Nat.le_of_ble_eq_true rfl)) ?_
  refine lt_cI_c (fun v1 m1 => ?_)
  refine Eq.trans (li_if_ne (t := 15) d244_10 (by rfl)) ?_
  refine lt_ite (fun c1 => ?_) (fun c1 => ?_)
  · refine Eq.trans (li_aload_n d244_15 (by rfl)) ?_
    refine Eq.trans (li_iload_n d244_16 (by rfl)) ?_
    refine Eq.trans (li_bipush d244_17 bi_6) ?_
    refine Eq.trans (li_ivI d244_19 ca_12_83 kd_198 kl_198 (by rfl) (by rfl) h0 (Nat.le_of_ble_eq_true rfl) (Nat.le_of_ble_eq_true rfl)) ?_
    refine lt_cI_c (fun v2 m2 => ?_)
    refine Eq.trans (li_istore_n (ls' := [some (.inr (.inr (some a0))), some (.inl x1), some (.inl v2)]) d244_22 (by decide) (by rfl)) ?_
    refine Eq.trans (li_aload_n d244_23 (by rfl)) ?_
    refine Eq.trans (li_iconst d244_24 ic_0) ?_
    refine Eq.trans (li_puti d244_25 fa_12_70 h0 rfl rfl) ?_
    refine Eq.trans (li_aload_n d244_28 (by rfl)) ?_
    refine Eq.trans (li_aload_n d244_29 (by rfl)) ?_
    refine Eq.trans (li_iload_n d244_30 (by rfl)) ?_
    refine Eq.trans (li_iconst d244_31 ic_5) ?_
    refine Eq.trans (li_ivI d244_32 ca_12_83 kd_198 kl_198 (by rfl) (by rfl) h0 (Nat.le_of_ble_eq_true rfl) (Nat.le_of_ble_eq_true rfl)) ?_
    refine lt_cI_c (fun v3 m3 => ?_)
    refine Eq.trans (li_aload_n d244_35 (by rfl)) ?_
    refine Eq.trans (li_getr d244_36 fa_12_7 h0 rfl rfl rfl (by decide)) ?_
    refine Eq.trans (li_iconst d244_39 ic_0) ?_
    refine Eq.trans (li_iald d244_40 (sf_of h0 0 (by decide) (by decide))) ?_
    refine lt_gd_c (fun g1 => ?_)
    refine Eq.trans (li_isub d244_41) ?_
    refine Eq.trans (li_i2l d244_42) ?_
    refine Eq.trans (li_ivV d244_43 ca_12_194 kd_202 kl_202 (by rfl) (by rfl) h0 (Nat.le_of_ble_eq_true rfl) (Nat.le_of_ble_eq_true rfl)) ?_
    refine lt_cV_c (fun m4 => ?_)
    refine Eq.trans (li_aload_n d244_46 (by rfl)) ?_
    refine Eq.trans (li_iload_n d244_47 (by rfl)) ?_
    refine Eq.trans (li_aload_n d244_48 (by rfl)) ?_
    refine Eq.trans (li_iload_n d244_49 (by rfl)) ?_
    refine Eq.trans (li_bipush d244_50 bi_9) ?_
    refine Eq.trans (li_ivI d244_52 ca_12_83 kd_198 kl_198 (by rfl) (by rfl) h0 (Nat.le_of_ble_eq_true rfl) (Nat.le_of_ble_eq_true rfl)) ?_
    refine lt_cI_c (fun v4 m5 => ?_)
    refine Eq.trans (li_icmp_ge (t := 71) d244_55 (by rfl)) ?_
    refine lt_ite (fun c2 => ?_) (fun c2 => ?_)
    · refine Eq.trans (li_ldc2_w d244_71 cJ_12_291) ?_
      refine Eq.trans (li_ivV d244_74 ca_12_194 kd_202 kl_202 (by rfl) (by rfl) h0 (Nat.le_of_ble_eq_true rfl) (Nat.le_of_ble_eq_true rfl)) ?_
      refine lt_cV_c (fun m6 => ?_)
      refine Eq.trans (li_aload_n d244_77 (by rfl)) ?_
      refine Eq.trans (li_iload_n d244_78 (by rfl)) ?_
      refine Eq.trans (li_ivI d244_79 ca_12_293 kd_245 kl_245 (by rfl) (by rfl) h0 (Nat.le_of_ble_eq_true rfl) (Nat.le_of_ble_eq_true rfl)) ?_
      refine lt_cI_c (fun v5 m7 => ?_)
      exact li_iret d244_82 rfl
    · refine Eq.trans (li_aload_n d244_58 (by rfl)) ?_
      refine Eq.trans (li_iload_n d244_59 (by rfl)) ?_
      refine Eq.trans (li_bipush d244_60 bi_10) ?_
      refine Eq.trans (li_iload_n d244_62 (by rfl)) ?_
      refine Eq.trans (li_iadd d244_63) ?_
      refine Eq.trans (li_ivI d244_64 ca_12_83 kd_198 kl_198 (by rfl) (by rfl) h0 (Nat.le_of_ble_eq_true rfl) (Nat.le_of_ble_eq_true rfl)) ?_
      refine lt_cI_c (fun v6 m8 => ?_)
      refine Eq.trans (li_i2l d244_67) ?_
      refine Eq.trans (li_goto (t := 74) d244_68 (by rfl)) ?_
      refine Eq.trans (li_ivV d244_74 ca_12_194 kd_202 kl_202 (by rfl) (by rfl) h0 (Nat.le_of_ble_eq_true rfl) (Nat.le_of_ble_eq_true rfl)) ?_
      refine lt_cV_c (fun m9 => ?_)
      refine Eq.trans (li_aload_n d244_77 (by rfl)) ?_
      refine Eq.trans (li_iload_n d244_78 (by rfl)) ?_
      refine Eq.trans (li_ivI d244_79 ca_12_293 kd_245 kl_245 (by rfl) (by rfl) h0 (Nat.le_of_ble_eq_true rfl) (Nat.le_of_ble_eq_true rfl)) ?_
      refine lt_cI_c (fun v7 m10 => ?_)
      exact li_iret d244_82 rfl
  · refine Eq.trans (li_iconst d244_13 ic_n1) ?_
    exact li_iret d244_14 rfl
/-! TransitSealsModel.leftOf(I)I -/
theorem d245_0 : decode Y245.2.1 0 = .ok (.iconst 0, 1) := by decide +kernel
theorem d245_1 : decode Y245.2.1 1 = .ok (.istore_n 2, 1) := by decide +kernel
theorem d245_2 : decode Y245.2.1 2 = .ok (.aload_n 0, 1) := by decide +kernel
theorem d245_3 : decode Y245.2.1 3 = .ok (.iload_n 1, 1) := by decide +kernel
theorem d245_4 : decode Y245.2.1 4 = .ok (.bipush 6, 2) := by decide +kernel
theorem d245_6 : decode Y245.2.1 6 = .ok (.invokevirtual 83, 3) := by decide +kernel
theorem d245_9 : decode Y245.2.1 9 = .ok (.istore_n 3, 1) := by decide +kernel
theorem d245_10 : decode Y245.2.1 10 = .ok (.iload_n 3, 1) := by decide +kernel
theorem d245_11 : decode Y245.2.1 11 = .ok (.aload_n 0, 1) := by decide +kernel
theorem d245_12 : decode Y245.2.1 12 = .ok (.iload_n 1, 1) := by decide +kernel
theorem d245_13 : decode Y245.2.1 13 = .ok (.bipush 9, 2) := by decide +kernel
theorem d245_15 : decode Y245.2.1 15 = .ok (.invokevirtual 83, 3) := by decide +kernel
theorem d245_18 : decode Y245.2.1 18 = .ok (.if_icmp .ge 36, 3) := by decide +kernel
theorem d245_21 : decode Y245.2.1 21 = .ok (.iload_n 2, 1) := by decide +kernel
theorem d245_22 : decode Y245.2.1 22 = .ok (.aload_n 0, 1) := by decide +kernel
theorem d245_23 : decode Y245.2.1 23 = .ok (.aload_n 0, 1) := by decide +kernel
theorem d245_24 : decode Y245.2.1 24 = .ok (.iload_n 1, 1) := by decide +kernel
theorem d245_25 : decode Y245.2.1 25 = .ok (.bipush 10, 2) := by decide +kernel
theorem d245_27 : decode Y245.2.1 27 = .ok (.iload_n 3, 1) := by decide +kernel
theorem d245_28 : decode Y245.2.1 28 = .ok (.iadd, 1) := by decide +kernel
theorem d245_29 : decode Y245.2.1 29 = .ok (.iconst 1, 1) := by decide +kernel
theorem d245_30 : decode Y245.2.1 30 = .ok (.isub, 1) := by decide +kernel
theorem d245_31 : decode Y245.2.1 31 = .ok (.invokevirtual 83, 3) := by decide +kernel
theorem d245_34 : decode Y245.2.1 34 = .ok (.aload_n 0, 1) := by decide +kernel
theorem d245_35 : decode Y245.2.1 35 = .ok (.iload_n 1, 1) := by decide +kernel
theorem d245_36 : decode Y245.2.1 36 = .ok (.bipush 10, 2) := by decide +kernel
theorem d245_38 : decode Y245.2.1 38 = .ok (.iload_n 3, 1) := by decide +kernel
theorem d245_39 : decode Y245.2.1 39 = .ok (.iadd, 1) := by decide +kernel
theorem d245_40 : decode Y245.2.1 40 = .ok (.invokevirtual 83, 3) := by decide +kernel
theorem d245_43 : decode Y245.2.1 43 = .ok (.invokevirtual 167, 3) := by decide +kernel
theorem d245_46 : decode Y245.2.1 46 = .ok (.iadd, 1) := by decide +kernel
theorem d245_47 : decode Y245.2.1 47 = .ok (.istore_n 2, 1) := by decide +kernel
theorem d245_48 : decode Y245.2.1 48 = .ok (.iinc 3 1, 3) := by decide +kernel
theorem d245_51 : decode Y245.2.1 51 = .ok (.goto (-41), 3) := by decide +kernel
theorem d245_54 : decode Y245.2.1 54 = .ok (.iload_n 2, 1) := by decide +kernel
theorem d245_55 : decode Y245.2.1 55 = .ok (.ireturn, 1) := by decide +kernel
noncomputable def L245_10 (d : Nat) (a0 : Nat) (x1 : Int32) (x2 : Int32) (x3 : Int32) (m : lt_m) : Option lt_r := lt_run d Y245 10 [some (.inr (.inr (some a0))), some (.inl x1), some (.inl x2), some (.inl x3)] [] m
theorem E245 (d : Nat) (a0 : Nat) (x1 : Int32) (h0 : ts_sh a0 = (0, 12)) (m : lt_m) : lt_ev (d + 1) 245 [.inr (.inr (some a0)), .inl x1] m = lt_cI (lt_ev d 198 [.inr (.inr (some a0)), .inl x1, .inl (6 : Int32)] m) (fun v1 m1 => (L245_10 d a0 x1 (0 : Int32) v1 m1)) := by
  refine Eq.trans (lt_enter2 (ls := [some (.inr (.inr (some a0))), some (.inl x1), none, none]) hY245 (Nat.le_of_ble_eq_true rfl) (by rfl)) ?_
  refine Eq.trans (li_iconst d245_0 ic_0) ?_
  refine Eq.trans (li_istore_n (ls' := [some (.inr (.inr (some a0))), some (.inl x1), some (.inl (0 : Int32)), none]) d245_1 (by decide) (by rfl)) ?_
  refine Eq.trans (li_aload_n d245_2 (by rfl)) ?_
  refine Eq.trans (li_iload_n d245_3 (by rfl)) ?_
  refine Eq.trans (li_bipush d245_4 bi_6) ?_
  refine Eq.trans (li_ivI d245_6 ca_12_83 kd_198 kl_198 (by rfl) (by rfl) h0 (Nat.le_of_ble_eq_true rfl) (Nat.le_of_ble_eq_true rfl)) ?_
  refine lt_cI_c (fun v1 m1 => ?_)
  refine Eq.trans (li_istore_n (ls' := [some (.inr (.inr (some a0))), some (.inl x1), some (.inl (0 : Int32)), some (.inl v1)]) d245_9 (by decide) (by rfl)) ?_
  rfl
theorem E245_10 (d : Nat) (a0 : Nat) (x1 : Int32) (x2 : Int32) (x3 : Int32) (h0 : ts_sh a0 = (0, 12)) (m : lt_m) : L245_10 d a0 x1 x2 x3 m = lt_cI (lt_ev d 198 [.inr (.inr (some a0)), .inl x1, .inl (9 : Int32)] m) (fun v1 m1 => (if v1 ≤ x3 then (some (some (.inl x2), m1)) else (lt_cI (lt_ev d 198 [.inr (.inr (some a0)), .inl x1, .inl (((10 : Int32) + x3) - (1 : Int32))] m1) (fun v2 m2 => (lt_cI (lt_ev d 198 [.inr (.inr (some a0)), .inl x1, .inl ((10 : Int32) + x3)] m2) (fun v3 m3 => (lt_cI (lt_ev d 194 [.inr (.inr (some a0)), .inl v2, .inl v3] m3) (fun v4 m4 => (L245_10 d a0 x1 (x2 + v4) (x3 + (1 : Int32)) m4))))))))) := by
  show lt_run d Y245 10 [some (.inr (.inr (some a0))), some (.inl x1), some (.inl x2), some (.inl x3)] [] m = _
  refine Eq.trans (li_iload_n d245_10 (by rfl)) ?_
  refine Eq.trans (li_aload_n d245_11 (by rfl)) ?_
  refine Eq.trans (li_iload_n d245_12 (by rfl)) ?_
  refine Eq.trans (li_bipush d245_13 bi_9) ?_
  refine Eq.trans (li_ivI d245_15 ca_12_83 kd_198 kl_198 (by rfl) (by rfl) h0 (Nat.le_of_ble_eq_true rfl) (Nat.le_of_ble_eq_true rfl)) ?_
  refine lt_cI_c (fun v1 m1 => ?_)
  refine Eq.trans (li_icmp_ge (t := 54) d245_18 (by rfl)) ?_
  refine lt_ite (fun c1 => ?_) (fun c1 => ?_)
  · refine Eq.trans (li_iload_n d245_54 (by rfl)) ?_
    exact li_iret d245_55 rfl
  · refine Eq.trans (li_iload_n d245_21 (by rfl)) ?_
    refine Eq.trans (li_aload_n d245_22 (by rfl)) ?_
    refine Eq.trans (li_aload_n d245_23 (by rfl)) ?_
    refine Eq.trans (li_iload_n d245_24 (by rfl)) ?_
    refine Eq.trans (li_bipush d245_25 bi_10) ?_
    refine Eq.trans (li_iload_n d245_27 (by rfl)) ?_
    refine Eq.trans (li_iadd d245_28) ?_
    refine Eq.trans (li_iconst d245_29 ic_1) ?_
    refine Eq.trans (li_isub d245_30) ?_
    refine Eq.trans (li_ivI d245_31 ca_12_83 kd_198 kl_198 (by rfl) (by rfl) h0 (Nat.le_of_ble_eq_true rfl) (Nat.le_of_ble_eq_true rfl)) ?_
    refine lt_cI_c (fun v2 m2 => ?_)
    refine Eq.trans (li_aload_n d245_34 (by rfl)) ?_
    refine Eq.trans (li_iload_n d245_35 (by rfl)) ?_
    refine Eq.trans (li_bipush d245_36 bi_10) ?_
    refine Eq.trans (li_iload_n d245_38 (by rfl)) ?_
    refine Eq.trans (li_iadd d245_39) ?_
    refine Eq.trans (li_ivI d245_40 ca_12_83 kd_198 kl_198 (by rfl) (by rfl) h0 (Nat.le_of_ble_eq_true rfl) (Nat.le_of_ble_eq_true rfl)) ?_
    refine lt_cI_c (fun v3 m3 => ?_)
    refine Eq.trans (li_ivI d245_43 ca_12_167 kd_194 kl_194 (by rfl) (by rfl) h0 (Nat.le_of_ble_eq_true rfl) (Nat.le_of_ble_eq_true rfl)) ?_
    refine lt_cI_c (fun v4 m4 => ?_)
    refine Eq.trans (li_iadd d245_46) ?_
    refine Eq.trans (li_istore_n (ls' := [some (.inr (.inr (some a0))), some (.inl x1), some (.inl (x2 + v4)), some (.inl x3)]) d245_47 (by decide) (by rfl)) ?_
    refine Eq.trans (li_iinc (ls' := [some (.inr (.inr (some a0))), some (.inl x1), some (.inl (x2 + v4)), some (.inl (x3 + (1 : Int32)))]) d245_48 (by rfl) (by decide) ic_1 (by rfl)) ?_
    refine Eq.trans (li_goto (t := 10) d245_51 (by rfl)) ?_
    rfl
/-! TransitSealsModel.borders(I)I -/
theorem d246_0 : decode Y246.2.1 0 = .ok (.aload_n 0, 1) := by decide +kernel
theorem d246_1 : decode Y246.2.1 1 = .ok (.iconst 0, 1) := by decide +kernel
theorem d246_2 : decode Y246.2.1 2 = .ok (.putfield 67, 3) := by decide +kernel
theorem d246_5 : decode Y246.2.1 5 = .ok (.aload_n 0, 1) := by decide +kernel
theorem d246_6 : decode Y246.2.1 6 = .ok (.iload_n 1, 1) := by decide +kernel
theorem d246_7 : decode Y246.2.1 7 = .ok (.invokevirtual 272, 3) := by decide +kernel
theorem d246_10 : decode Y246.2.1 10 = .ok (.ifCond .ne 5, 3) := by decide +kernel
theorem d246_13 : decode Y246.2.1 13 = .ok (.iconst (-1), 1) := by decide +kernel
theorem d246_14 : decode Y246.2.1 14 = .ok (.ireturn, 1) := by decide +kernel
theorem d246_15 : decode Y246.2.1 15 = .ok (.iconst 0, 1) := by decide +kernel
theorem d246_16 : decode Y246.2.1 16 = .ok (.istore_n 2, 1) := by decide +kernel
theorem d246_17 : decode Y246.2.1 17 = .ok (.iconst 0, 1) := by decide +kernel
theorem d246_18 : decode Y246.2.1 18 = .ok (.istore_n 3, 1) := by decide +kernel
theorem d246_19 : decode Y246.2.1 19 = .ok (.iconst 0, 1) := by decide +kernel
theorem d246_20 : decode Y246.2.1 20 = .ok (.istore 4, 2) := by decide +kernel
theorem d246_22 : decode Y246.2.1 22 = .ok (.iload 4, 2) := by decide +kernel
theorem d246_24 : decode Y246.2.1 24 = .ok (.aload_n 0, 1) := by decide +kernel
theorem d246_25 : decode Y246.2.1 25 = .ok (.iload_n 1, 1) := by decide +kernel
theorem d246_26 : decode Y246.2.1 26 = .ok (.bipush 9, 2) := by decide +kernel
theorem d246_28 : decode Y246.2.1 28 = .ok (.invokevirtual 83, 3) := by decide +kernel
theorem d246_31 : decode Y246.2.1 31 = .ok (.if_icmp .ge 63, 3) := by decide +kernel
theorem d246_34 : decode Y246.2.1 34 = .ok (.aload_n 0, 1) := by decide +kernel
theorem d246_35 : decode Y246.2.1 35 = .ok (.getfield 19, 3) := by decide +kernel
theorem d246_38 : decode Y246.2.1 38 = .ok (.aload_n 0, 1) := by decide +kernel
theorem d246_39 : decode Y246.2.1 39 = .ok (.iload_n 1, 1) := by decide +kernel
theorem d246_40 : decode Y246.2.1 40 = .ok (.bipush 10, 2) := by decide +kernel
theorem d246_42 : decode Y246.2.1 42 = .ok (.iload 4, 2) := by decide +kernel
theorem d246_44 : decode Y246.2.1 44 = .ok (.iadd, 1) := by decide +kernel
theorem d246_45 : decode Y246.2.1 45 = .ok (.invokevirtual 83, 3) := by decide +kernel
theorem d246_48 : decode Y246.2.1 48 = .ok (.iaload, 1) := by decide +kernel
theorem d246_49 : decode Y246.2.1 49 = .ok (.istore 5, 2) := by decide +kernel
theorem d246_51 : decode Y246.2.1 51 = .ok (.iload_n 3, 1) := by decide +kernel
theorem d246_52 : decode Y246.2.1 52 = .ok (.iconst 1, 1) := by decide +kernel
theorem d246_53 : decode Y246.2.1 53 = .ok (.iload 5, 2) := by decide +kernel
theorem d246_55 : decode Y246.2.1 55 = .ok (.ishl, 1) := by decide +kernel
theorem d246_56 : decode Y246.2.1 56 = .ok (.ior, 1) := by decide +kernel
theorem d246_57 : decode Y246.2.1 57 = .ok (.istore_n 3, 1) := by decide +kernel
theorem d246_58 : decode Y246.2.1 58 = .ok (.iload 4, 2) := by decide +kernel
theorem d246_60 : decode Y246.2.1 60 = .ok (.ifCond .le 28, 3) := by decide +kernel
theorem d246_63 : decode Y246.2.1 63 = .ok (.iload 5, 2) := by decide +kernel
theorem d246_65 : decode Y246.2.1 65 = .ok (.aload_n 0, 1) := by decide +kernel
theorem d246_66 : decode Y246.2.1 66 = .ok (.getfield 19, 3) := by decide +kernel
theorem d246_69 : decode Y246.2.1 69 = .ok (.aload_n 0, 1) := by decide +kernel
theorem d246_70 : decode Y246.2.1 70 = .ok (.iload_n 1, 1) := by decide +kernel
theorem d246_71 : decode Y246.2.1 71 = .ok (.bipush 10, 2) := by decide +kernel
theorem d246_73 : decode Y246.2.1 73 = .ok (.iload 4, 2) := by decide +kernel
theorem d246_75 : decode Y246.2.1 75 = .ok (.iadd, 1) := by decide +kernel
theorem d246_76 : decode Y246.2.1 76 = .ok (.iconst 1, 1) := by decide +kernel
theorem d246_77 : decode Y246.2.1 77 = .ok (.isub, 1) := by decide +kernel
theorem d246_78 : decode Y246.2.1 78 = .ok (.invokevirtual 83, 3) := by decide +kernel
theorem d246_81 : decode Y246.2.1 81 = .ok (.iaload, 1) := by decide +kernel
theorem d246_82 : decode Y246.2.1 82 = .ok (.if_icmp .eq 6, 3) := by decide +kernel
theorem d246_85 : decode Y246.2.1 85 = .ok (.iinc 2 1, 3) := by decide +kernel
theorem d246_88 : decode Y246.2.1 88 = .ok (.iinc 4 1, 3) := by decide +kernel
theorem d246_91 : decode Y246.2.1 91 = .ok (.goto (-69), 3) := by decide +kernel
theorem d246_94 : decode Y246.2.1 94 = .ok (.aload_n 0, 1) := by decide +kernel
theorem d246_95 : decode Y246.2.1 95 = .ok (.iconst 0, 1) := by decide +kernel
theorem d246_96 : decode Y246.2.1 96 = .ok (.putfield 70, 3) := by decide +kernel
theorem d246_99 : decode Y246.2.1 99 = .ok (.aload_n 0, 1) := by decide +kernel
theorem d246_100 : decode Y246.2.1 100 = .ok (.iload_n 3, 1) := by decide +kernel
theorem d246_101 : decode Y246.2.1 101 = .ok (.i2l, 1) := by decide +kernel
theorem d246_102 : decode Y246.2.1 102 = .ok (.invokevirtual 194, 3) := by decide +kernel
theorem d246_105 : decode Y246.2.1 105 = .ok (.iload_n 2, 1) := by decide +kernel
theorem d246_106 : decode Y246.2.1 106 = .ok (.ireturn, 1) := by decide +kernel
noncomputable def L246_22 (d : Nat) (a0 : Nat) (x1 : Int32) (x2 : Int32) (x3 : Int32) (x4 : Int32) (o5 : Option ts_V) (m : lt_m) : Option lt_r := lt_run d Y246 22 [some (.inr (.inr (some a0))), some (.inl x1), some (.inl x2), some (.inl x3), some (.inl x4), o5] [] m
theorem E246 (d : Nat) (a0 : Nat) (x1 : Int32) (h0 : ts_sh a0 = (0, 12)) (m : lt_m) : lt_ev (d + 1) 246 [.inr (.inr (some a0)), .inl x1] m = lt_cI (lt_ev d 231 [.inr (.inr (some a0)), .inl x1] (lm_i m a0 15 (0 : Int32))) (fun v1 m1 => (if ¬ v1 = 0 then (L246_22 d a0 x1 (0 : Int32) (0 : Int32) (0 : Int32) none m1) else (some (some (.inl (-1 : Int32)), m1)))) := by
  refine Eq.trans (lt_enter2 (ls := [some (.inr (.inr (some a0))), some (.inl x1), none, none, none, none]) hY246 (Nat.le_of_ble_eq_true rfl) (by rfl)) ?_
  refine Eq.trans (li_aload_n d246_0 (by rfl)) ?_
  refine Eq.trans (li_iconst d246_1 ic_0) ?_
  refine Eq.trans (li_puti d246_2 fa_12_67 h0 rfl rfl) ?_
  refine Eq.trans (li_aload_n d246_5 (by rfl)) ?_
  refine Eq.trans (li_iload_n d246_6 (by rfl)) ?_
  refine Eq.trans (li_ivI d246_7 ca_12_272 kd_231 kl_231 (by rfl) (by rfl) h0 (Nat.le_of_ble_eq_true rfl) (Nat.le_of_ble_eq_true rfl)) ?_
  refine lt_cI_c (fun v1 m1 => ?_)
  refine Eq.trans (li_if_ne (t := 15) d246_10 (by rfl)) ?_
  refine lt_ite (fun c1 => ?_) (fun c1 => ?_)
  · refine Eq.trans (li_iconst d246_15 ic_0) ?_
    refine Eq.trans (li_istore_n (ls' := [some (.inr (.inr (some a0))), some (.inl x1), some (.inl (0 : Int32)), none, none, none]) d246_16 (by decide) (by rfl)) ?_
    refine Eq.trans (li_iconst d246_17 ic_0) ?_
    refine Eq.trans (li_istore_n (ls' := [some (.inr (.inr (some a0))), some (.inl x1), some (.inl (0 : Int32)), some (.inl (0 : Int32)), none, none]) d246_18 (by decide) (by rfl)) ?_
    refine Eq.trans (li_iconst d246_19 ic_0) ?_
    refine Eq.trans (li_istore (ls' := [some (.inr (.inr (some a0))), some (.inl x1), some (.inl (0 : Int32)), some (.inl (0 : Int32)), some (.inl (0 : Int32)), none]) d246_20 (by decide) (by rfl)) ?_
    rfl
  · refine Eq.trans (li_iconst d246_13 ic_n1) ?_
    exact li_iret d246_14 rfl
theorem E246_22 (d : Nat) (a0 : Nat) (x1 : Int32) (x2 : Int32) (x3 : Int32) (x4 : Int32) (o5 : Option ts_V) (h0 : ts_sh a0 = (0, 12)) (m : lt_m) : L246_22 d a0 x1 x2 x3 x4 o5 m = lt_cI (lt_ev d 198 [.inr (.inr (some a0)), .inl x1, .inl (9 : Int32)] m) (fun v1 m1 => (if v1 ≤ x4 then (lt_cV (lt_ev d 202 [.inr (.inr (some a0)), .inr (.inl ((x3).toInt64))] (lm_i m1 a0 14 (0 : Int32))) (fun m2 => (some (some (.inl x2), m2)))) else (lt_cI (lt_ev d 198 [.inr (.inr (some a0)), .inl x1, .inl ((10 : Int32) + x4)] m1) (fun v2 m3 => (lt_gd (0 ≤ v2 ∧ (v2).toNatClampNeg < 12) (if x4 ≤ 0 then (L246_22 d a0 x1 x2 (x3 ||| ((1 : Int32) <<< ((m3.1 (a0 + 4) (v2).toNatClampNeg) &&& 31))) (x4 + (1 : Int32)) (some (.inl (m3.1 (a0 + 4) (v2).toNatClampNeg))) m3) else (lt_cI (lt_ev d 198 [.inr (.inr (some a0)), .inl x1, .inl (((10 : Int32) + x4) - (1 : Int32))] m3) (fun v3 m4 => (lt_gd (0 ≤ v3 ∧ (v3).toNatClampNeg < 12) (if (m3.1 (a0 + 4) (v2).toNatClampNeg) = (m4.1 (a0 + 4) (v3).toNatClampNeg) then (L246_22 d a0 x1 x2 (x3 ||| ((1 : Int32) <<< ((m3.1 (a0 + 4) (v2).toNatClampNeg) &&& 31))) (x4 + (1 : Int32)) (some (.inl (m3.1 (a0 + 4) (v2).toNatClampNeg))) m4) else (L246_22 d a0 x1 (x2 + (1 : Int32)) (x3 ||| ((1 : Int32) <<< ((m3.1 (a0 + 4) (v2).toNatClampNeg) &&& 31))) (x4 + (1 : Int32)) (some (.inl (m3.1 (a0 + 4) (v2).toNatClampNeg))) m4))))))))))) := by
  show lt_run d Y246 22 [some (.inr (.inr (some a0))), some (.inl x1), some (.inl x2), some (.inl x3), some (.inl x4), o5] [] m = _
  refine Eq.trans (li_iload d246_22 (by rfl)) ?_
  refine Eq.trans (li_aload_n d246_24 (by rfl)) ?_
  refine Eq.trans (li_iload_n d246_25 (by rfl)) ?_
  refine Eq.trans (li_bipush d246_26 bi_9) ?_
  refine Eq.trans (li_ivI d246_28 ca_12_83 kd_198 kl_198 (by rfl) (by rfl) h0 (Nat.le_of_ble_eq_true rfl) (Nat.le_of_ble_eq_true rfl)) ?_
  refine lt_cI_c (fun v1 m1 => ?_)
  refine Eq.trans (li_icmp_ge (t := 94) d246_31 (by rfl)) ?_
  refine lt_ite (fun c1 => ?_) (fun c1 => ?_)
  · refine Eq.trans (li_aload_n d246_94 (by rfl)) ?_
    refine Eq.trans (li_iconst d246_95 ic_0) ?_
    refine Eq.trans (li_puti d246_96 fa_12_70 h0 rfl rfl) ?_
    refine Eq.trans (li_aload_n d246_99 (by rfl)) ?_
    refine Eq.trans (li_iload_n d246_100 (by rfl)) ?_
    refine Eq.trans (li_i2l d246_101) ?_
    refine Eq.trans (li_ivV d246_102 ca_12_194 kd_202 kl_202 (by rfl) (by rfl) h0 (Nat.le_of_ble_eq_true rfl) (Nat.le_of_ble_eq_true rfl)) ?_
    refine lt_cV_c (fun m2 => ?_)
    refine Eq.trans (li_iload_n d246_105 (by rfl)) ?_
    exact li_iret d246_106 rfl
  · refine Eq.trans (li_aload_n d246_34 (by rfl)) ?_
    refine Eq.trans (li_getr d246_35 fa_12_19 h0 rfl rfl rfl (by decide)) ?_
    refine Eq.trans (li_aload_n d246_38 (by rfl)) ?_
    refine Eq.trans (li_iload_n d246_39 (by rfl)) ?_
    refine Eq.trans (li_bipush d246_40 bi_10) ?_
    refine Eq.trans (li_iload d246_42 (by rfl)) ?_
    refine Eq.trans (li_iadd d246_44) ?_
    refine Eq.trans (li_ivI d246_45 ca_12_83 kd_198 kl_198 (by rfl) (by rfl) h0 (Nat.le_of_ble_eq_true rfl) (Nat.le_of_ble_eq_true rfl)) ?_
    refine lt_cI_c (fun v2 m3 => ?_)
    refine Eq.trans (li_iald d246_48 (sf_of h0 5 (by decide) (by decide))) ?_
    refine lt_gd_c (fun g1 => ?_)
    refine Eq.trans (li_istore (ls' := [some (.inr (.inr (some a0))), some (.inl x1), some (.inl x2), some (.inl x3), some (.inl x4), some (.inl (m3.1 (a0 + 4) (v2).toNatClampNeg))]) d246_49 (by decide) (by rfl)) ?_
    refine Eq.trans (li_iload_n d246_51 (by rfl)) ?_
    refine Eq.trans (li_iconst d246_52 ic_1) ?_
    refine Eq.trans (li_iload d246_53 (by rfl)) ?_
    refine Eq.trans (li_ishl d246_55) ?_
    refine Eq.trans (li_ior d246_56) ?_
    refine Eq.trans (li_istore_n (ls' := [some (.inr (.inr (some a0))), some (.inl x1), some (.inl x2), some (.inl (x3 ||| ((1 : Int32) <<< ((m3.1 (a0 + 4) (v2).toNatClampNeg) &&& 31)))), some (.inl x4), some (.inl (m3.1 (a0 + 4) (v2).toNatClampNeg))]) d246_57 (by decide) (by rfl)) ?_
    refine Eq.trans (li_iload d246_58 (by rfl)) ?_
    refine Eq.trans (li_if_le (t := 88) d246_60 (by rfl)) ?_
    refine lt_ite (fun c2 => ?_) (fun c2 => ?_)
    · refine Eq.trans (li_iinc (ls' := [some (.inr (.inr (some a0))), some (.inl x1), some (.inl x2), some (.inl (x3 ||| ((1 : Int32) <<< ((m3.1 (a0 + 4) (v2).toNatClampNeg) &&& 31)))), some (.inl (x4 + (1 : Int32))), some (.inl (m3.1 (a0 + 4) (v2).toNatClampNeg))]) d246_88 (by rfl) (by decide) ic_1 (by rfl)) ?_
      refine Eq.trans (li_goto (t := 22) d246_91 (by rfl)) ?_
      rfl
    · refine Eq.trans (li_iload d246_63 (by rfl)) ?_
      refine Eq.trans (li_aload_n d246_65 (by rfl)) ?_
      refine Eq.trans (li_getr d246_66 fa_12_19 h0 rfl rfl rfl (by decide)) ?_
      refine Eq.trans (li_aload_n d246_69 (by rfl)) ?_
      refine Eq.trans (li_iload_n d246_70 (by rfl)) ?_
      refine Eq.trans (li_bipush d246_71 bi_10) ?_
      refine Eq.trans (li_iload d246_73 (by rfl)) ?_
      refine Eq.trans (li_iadd d246_75) ?_
      refine Eq.trans (li_iconst d246_76 ic_1) ?_
      refine Eq.trans (li_isub d246_77) ?_
      refine Eq.trans (li_ivI d246_78 ca_12_83 kd_198 kl_198 (by rfl) (by rfl) h0 (Nat.le_of_ble_eq_true rfl) (Nat.le_of_ble_eq_true rfl)) ?_
      refine lt_cI_c (fun v3 m4 => ?_)
      refine Eq.trans (li_iald d246_81 (sf_of h0 5 (by decide) (by decide))) ?_
      refine lt_gd_c (fun g2 => ?_)
      refine Eq.trans (li_icmp_eq (t := 88) d246_82 (by rfl)) ?_
      refine lt_ite (fun c3 => ?_) (fun c3 => ?_)
      · refine Eq.trans (li_iinc (ls' := [some (.inr (.inr (some a0))), some (.inl x1), some (.inl x2), some (.inl (x3 ||| ((1 : Int32) <<< ((m3.1 (a0 + 4) (v2).toNatClampNeg) &&& 31)))), some (.inl (x4 + (1 : Int32))), some (.inl (m3.1 (a0 + 4) (v2).toNatClampNeg))]) d246_88 (by rfl) (by decide) ic_1 (by rfl)) ?_
        refine Eq.trans (li_goto (t := 22) d246_91 (by rfl)) ?_
        rfl
      · refine Eq.trans (li_iinc (ls' := [some (.inr (.inr (some a0))), some (.inl x1), some (.inl (x2 + (1 : Int32))), some (.inl (x3 ||| ((1 : Int32) <<< ((m3.1 (a0 + 4) (v2).toNatClampNeg) &&& 31)))), some (.inl x4), some (.inl (m3.1 (a0 + 4) (v2).toNatClampNeg))]) d246_85 (by rfl) (by decide) ic_1 (by rfl)) ?_
        refine Eq.trans (li_iinc (ls' := [some (.inr (.inr (some a0))), some (.inl x1), some (.inl (x2 + (1 : Int32))), some (.inl (x3 ||| ((1 : Int32) <<< ((m3.1 (a0 + 4) (v2).toNatClampNeg) &&& 31)))), some (.inl (x4 + (1 : Int32))), some (.inl (m3.1 (a0 + 4) (v2).toNatClampNeg))]) d246_88 (by rfl) (by decide) ic_1 (by rfl)) ?_
        refine Eq.trans (li_goto (t := 22) d246_91 (by rfl)) ?_
        rfl
/-! TransitSealsModel.asked(I)I -/
theorem d247_0 : decode Y247.2.1 0 = .ok (.aload_n 0, 1) := by decide +kernel
theorem d247_1 : decode Y247.2.1 1 = .ok (.iconst 0, 1) := by decide +kernel
theorem d247_2 : decode Y247.2.1 2 = .ok (.putfield 67, 3) := by decide +kernel
theorem d247_5 : decode Y247.2.1 5 = .ok (.aload_n 0, 1) := by decide +kernel
theorem d247_6 : decode Y247.2.1 6 = .ok (.iload_n 1, 1) := by decide +kernel
theorem d247_7 : decode Y247.2.1 7 = .ok (.invokevirtual 272, 3) := by decide +kernel
theorem d247_10 : decode Y247.2.1 10 = .ok (.ifCond .ne 5, 3) := by decide +kernel
theorem d247_13 : decode Y247.2.1 13 = .ok (.iconst (-1), 1) := by decide +kernel
theorem d247_14 : decode Y247.2.1 14 = .ok (.ireturn, 1) := by decide +kernel
theorem d247_15 : decode Y247.2.1 15 = .ok (.aload_n 0, 1) := by decide +kernel
theorem d247_16 : decode Y247.2.1 16 = .ok (.iload_n 1, 1) := by decide +kernel
theorem d247_17 : decode Y247.2.1 17 = .ok (.invokevirtual 87, 3) := by decide +kernel
theorem d247_20 : decode Y247.2.1 20 = .ok (.iconst 3, 1) := by decide +kernel
theorem d247_21 : decode Y247.2.1 21 = .ok (.if_icmp .eq 6, 3) := by decide +kernel
theorem d247_24 : decode Y247.2.1 24 = .ok (.bipush (-2), 2) := by decide +kernel
theorem d247_26 : decode Y247.2.1 26 = .ok (.ireturn, 1) := by decide +kernel
theorem d247_27 : decode Y247.2.1 27 = .ok (.aload_n 0, 1) := by decide +kernel
theorem d247_28 : decode Y247.2.1 28 = .ok (.iload_n 1, 1) := by decide +kernel
theorem d247_29 : decode Y247.2.1 29 = .ok (.invokevirtual 281, 3) := by decide +kernel
theorem d247_32 : decode Y247.2.1 32 = .ok (.istore_n 2, 1) := by decide +kernel
theorem d247_33 : decode Y247.2.1 33 = .ok (.iload_n 2, 1) := by decide +kernel
theorem d247_34 : decode Y247.2.1 34 = .ok (.ifCond .le 13, 3) := by decide +kernel
theorem d247_37 : decode Y247.2.1 37 = .ok (.iconst 1, 1) := by decide +kernel
theorem d247_38 : decode Y247.2.1 38 = .ok (.aload_n 0, 1) := by decide +kernel
theorem d247_39 : decode Y247.2.1 39 = .ok (.iload_n 1, 1) := by decide +kernel
theorem d247_40 : decode Y247.2.1 40 = .ok (.invokevirtual 182, 3) := by decide +kernel
theorem d247_43 : decode Y247.2.1 43 = .ok (.ishl, 1) := by decide +kernel
theorem d247_44 : decode Y247.2.1 44 = .ok (.goto 4, 3) := by decide +kernel
theorem d247_47 : decode Y247.2.1 47 = .ok (.iconst 0, 1) := by decide +kernel
theorem d247_48 : decode Y247.2.1 48 = .ok (.istore_n 3, 1) := by decide +kernel
theorem d247_49 : decode Y247.2.1 49 = .ok (.aload_n 0, 1) := by decide +kernel
theorem d247_50 : decode Y247.2.1 50 = .ok (.iload_n 1, 1) := by decide +kernel
theorem d247_51 : decode Y247.2.1 51 = .ok (.bipush 6, 2) := by decide +kernel
theorem d247_53 : decode Y247.2.1 53 = .ok (.invokevirtual 83, 3) := by decide +kernel
theorem d247_56 : decode Y247.2.1 56 = .ok (.istore 4, 2) := by decide +kernel
theorem d247_58 : decode Y247.2.1 58 = .ok (.iload 4, 2) := by decide +kernel
theorem d247_60 : decode Y247.2.1 60 = .ok (.aload_n 0, 1) := by decide +kernel
theorem d247_61 : decode Y247.2.1 61 = .ok (.iload_n 1, 1) := by decide +kernel
theorem d247_62 : decode Y247.2.1 62 = .ok (.bipush 9, 2) := by decide +kernel
theorem d247_64 : decode Y247.2.1 64 = .ok (.invokevirtual 83, 3) := by decide +kernel
theorem d247_67 : decode Y247.2.1 67 = .ok (.if_icmp .ge 29, 3) := by decide +kernel
theorem d247_70 : decode Y247.2.1 70 = .ok (.iload_n 2, 1) := by decide +kernel
theorem d247_71 : decode Y247.2.1 71 = .ok (.iconst 2, 1) := by decide +kernel
theorem d247_72 : decode Y247.2.1 72 = .ok (.if_icmp .ne 24, 3) := by decide +kernel
theorem d247_75 : decode Y247.2.1 75 = .ok (.iload_n 3, 1) := by decide +kernel
theorem d247_76 : decode Y247.2.1 76 = .ok (.iconst 1, 1) := by decide +kernel
theorem d247_77 : decode Y247.2.1 77 = .ok (.aload_n 0, 1) := by decide +kernel
theorem d247_78 : decode Y247.2.1 78 = .ok (.iload_n 1, 1) := by decide +kernel
theorem d247_79 : decode Y247.2.1 79 = .ok (.bipush 10, 2) := by decide +kernel
theorem d247_81 : decode Y247.2.1 81 = .ok (.iload 4, 2) := by decide +kernel
theorem d247_83 : decode Y247.2.1 83 = .ok (.iadd, 1) := by decide +kernel
theorem d247_84 : decode Y247.2.1 84 = .ok (.invokevirtual 83, 3) := by decide +kernel
theorem d247_87 : decode Y247.2.1 87 = .ok (.ishl, 1) := by decide +kernel
theorem d247_88 : decode Y247.2.1 88 = .ok (.ior, 1) := by decide +kernel
theorem d247_89 : decode Y247.2.1 89 = .ok (.istore_n 3, 1) := by decide +kernel
theorem d247_90 : decode Y247.2.1 90 = .ok (.iinc 4 1, 3) := by decide +kernel
theorem d247_93 : decode Y247.2.1 93 = .ok (.goto (-35), 3) := by decide +kernel
theorem d247_96 : decode Y247.2.1 96 = .ok (.aload_n 0, 1) := by decide +kernel
theorem d247_97 : decode Y247.2.1 97 = .ok (.iconst 0, 1) := by decide +kernel
theorem d247_98 : decode Y247.2.1 98 = .ok (.putfield 70, 3) := by decide +kernel
theorem d247_101 : decode Y247.2.1 101 = .ok (.aload_n 0, 1) := by decide +kernel
theorem d247_102 : decode Y247.2.1 102 = .ok (.iload_n 2, 1) := by decide +kernel
theorem d247_103 : decode Y247.2.1 103 = .ok (.i2l, 1) := by decide +kernel
theorem d247_104 : decode Y247.2.1 104 = .ok (.invokevirtual 194, 3) := by decide +kernel
theorem d247_107 : decode Y247.2.1 107 = .ok (.aload_n 0, 1) := by decide +kernel
theorem d247_108 : decode Y247.2.1 108 = .ok (.aload_n 0, 1) := by decide +kernel
theorem d247_109 : decode Y247.2.1 109 = .ok (.iload_n 1, 1) := by decide +kernel
theorem d247_110 : decode Y247.2.1 110 = .ok (.iconst 5, 1) := by decide +kernel
theorem d247_111 : decode Y247.2.1 111 = .ok (.invokevirtual 83, 3) := by decide +kernel
theorem d247_114 : decode Y247.2.1 114 = .ok (.bipush 24, 2) := by decide +kernel
theorem d247_116 : decode Y247.2.1 116 = .ok (.iload_n 2, 1) := by decide +kernel
theorem d247_117 : decode Y247.2.1 117 = .ok (.iconst 1, 1) := by decide +kernel
theorem d247_118 : decode Y247.2.1 118 = .ok (.iadd, 1) := by decide +kernel
theorem d247_119 : decode Y247.2.1 119 = .ok (.imul, 1) := by decide +kernel
theorem d247_120 : decode Y247.2.1 120 = .ok (.iadd, 1) := by decide +kernel
theorem d247_121 : decode Y247.2.1 121 = .ok (.aload_n 0, 1) := by decide +kernel
theorem d247_122 : decode Y247.2.1 122 = .ok (.getfield 7, 3) := by decide +kernel
theorem d247_125 : decode Y247.2.1 125 = .ok (.iconst 0, 1) := by decide +kernel
theorem d247_126 : decode Y247.2.1 126 = .ok (.iaload, 1) := by decide +kernel
theorem d247_127 : decode Y247.2.1 127 = .ok (.isub, 1) := by decide +kernel
theorem d247_128 : decode Y247.2.1 128 = .ok (.i2l, 1) := by decide +kernel
theorem d247_129 : decode Y247.2.1 129 = .ok (.invokevirtual 194, 3) := by decide +kernel
theorem d247_132 : decode Y247.2.1 132 = .ok (.iload_n 3, 1) := by decide +kernel
theorem d247_133 : decode Y247.2.1 133 = .ok (.ireturn, 1) := by decide +kernel
noncomputable def L247_58 (d : Nat) (a0 : Nat) (x1 : Int32) (x2 : Int32) (x3 : Int32) (x4 : Int32) (m : lt_m) : Option lt_r := lt_run d Y247 58 [some (.inr (.inr (some a0))), some (.inl x1), some (.inl x2), some (.inl x3), some (.inl x4)] [] m
noncomputable def L247_96 (d : Nat) (a0 : Nat) (x1 : Int32) (x2 : Int32) (x3 : Int32) (x4 : Int32) (m : lt_m) : Option lt_r := lt_run d Y247 96 [some (.inr (.inr (some a0))), some (.inl x1), some (.inl x2), some (.inl x3), some (.inl x4)] [] m
theorem E247 (d : Nat) (a0 : Nat) (x1 : Int32) (h0 : ts_sh a0 = (0, 12)) (m : lt_m) : lt_ev (d + 1) 247 [.inr (.inr (some a0)), .inl x1] m = lt_cI (lt_ev d 231 [.inr (.inr (some a0)), .inl x1] (lm_i m a0 15 (0 : Int32))) (fun v1 m1 => (if ¬ v1 = 0 then (lt_cI (lt_ev d 197 [.inr (.inr (some a0)), .inl x1] m1) (fun v2 m2 => (if v2 = (3 : Int32) then (lt_cI (lt_ev d 237 [.inr (.inr (some a0)), .inl x1] m2) (fun v3 m3 => (if v3 ≤ 0 then (lt_cI (lt_ev d 198 [.inr (.inr (some a0)), .inl x1, .inl (6 : Int32)] m3) (fun v4 m4 => (L247_58 d a0 x1 v3 (0 : Int32) v4 m4))) else (lt_cI (lt_ev d 199 [.inr (.inr (some a0)), .inl x1] m3) (fun v5 m5 => (lt_cI (lt_ev d 198 [.inr (.inr (some a0)), .inl x1, .inl (6 : Int32)] m5) (fun v6 m6 => (L247_58 d a0 x1 v3 ((1 : Int32) <<< (v5 &&& 31)) v6 m6)))))))) else (some (some (.inl (-2 : Int32)), m2))))) else (some (some (.inl (-1 : Int32)), m1)))) := by
  refine Eq.trans (lt_enter2 (ls := [some (.inr (.inr (some a0))), some (.inl x1), none, none, none]) hY247 (Nat.le_of_ble_eq_true rfl) (by rfl)) ?_
  refine Eq.trans (li_aload_n d247_0 (by rfl)) ?_
  refine Eq.trans (li_iconst d247_1 ic_0) ?_
  refine Eq.trans (li_puti d247_2 fa_12_67 h0 rfl rfl) ?_
  refine Eq.trans (li_aload_n d247_5 (by rfl)) ?_
  refine Eq.trans (li_iload_n d247_6 (by rfl)) ?_
  refine Eq.trans (li_ivI d247_7 ca_12_272 kd_231 kl_231 (by rfl) (by rfl) h0 (Nat.le_of_ble_eq_true rfl) (Nat.le_of_ble_eq_true rfl)) ?_
  refine lt_cI_c (fun v1 m1 => ?_)
  refine Eq.trans (li_if_ne (t := 15) d247_10 (by rfl)) ?_
  refine lt_ite (fun c1 => ?_) (fun c1 => ?_)
  · refine Eq.trans (li_aload_n d247_15 (by rfl)) ?_
    refine Eq.trans (li_iload_n d247_16 (by rfl)) ?_
    refine Eq.trans (li_ivI d247_17 ca_12_87 kd_197 kl_197 (by rfl) (by rfl) h0 (Nat.le_of_ble_eq_true rfl) (Nat.le_of_ble_eq_true rfl)) ?_
    refine lt_cI_c (fun v2 m2 => ?_)
    refine Eq.trans (li_iconst d247_20 ic_3) ?_
    refine Eq.trans (li_icmp_eq (t := 27) d247_21 (by rfl)) ?_
    refine lt_ite (fun c2 => ?_) (fun c2 => ?_)
    · refine Eq.trans (li_aload_n d247_27 (by rfl)) ?_
      refine Eq.trans (li_iload_n d247_28 (by rfl)) ?_
      refine Eq.trans (li_ivI d247_29 ca_12_281 kd_237 kl_237 (by rfl) (by rfl) h0 (Nat.le_of_ble_eq_true rfl) (Nat.le_of_ble_eq_true rfl)) ?_
      refine lt_cI_c (fun v3 m3 => ?_)
      refine Eq.trans (li_istore_n (ls' := [some (.inr (.inr (some a0))), some (.inl x1), some (.inl v3), none, none]) d247_32 (by decide) (by rfl)) ?_
      refine Eq.trans (li_iload_n d247_33 (by rfl)) ?_
      refine Eq.trans (li_if_le (t := 47) d247_34 (by rfl)) ?_
      refine lt_ite (fun c3 => ?_) (fun c3 => ?_)
      · refine Eq.trans (li_iconst d247_47 ic_0) ?_
        refine Eq.trans (li_istore_n (ls' := [some (.inr (.inr (some a0))), some (.inl x1), some (.inl v3), some (.inl (0 : Int32)), none]) d247_48 (by decide) (by rfl)) ?_
        refine Eq.trans (li_aload_n d247_49 (by rfl)) ?_
        refine Eq.trans (li_iload_n d247_50 (by rfl)) ?_
        refine Eq.trans (li_bipush d247_51 bi_6) ?_
        refine Eq.trans (li_ivI d247_53 ca_12_83 kd_198 kl_198 (by rfl) (by rfl) h0 (Nat.le_of_ble_eq_true rfl) (Nat.le_of_ble_eq_true rfl)) ?_
        refine lt_cI_c (fun v4 m4 => ?_)
        refine Eq.trans (li_istore (ls' := [some (.inr (.inr (some a0))), some (.inl x1), some (.inl v3), some (.inl (0 : Int32)), some (.inl v4)]) d247_56 (by decide) (by rfl)) ?_
        rfl
      · refine Eq.trans (li_iconst d247_37 ic_1) ?_
        refine Eq.trans (li_aload_n d247_38 (by rfl)) ?_
        refine Eq.trans (li_iload_n d247_39 (by rfl)) ?_
        refine Eq.trans (li_ivI d247_40 ca_12_182 kd_199 kl_199 (by rfl) (by rfl) h0 (Nat.le_of_ble_eq_true rfl) (Nat.le_of_ble_eq_true rfl)) ?_
        refine lt_cI_c (fun v5 m5 => ?_)
        refine Eq.trans (li_ishl d247_43) ?_
        refine Eq.trans (li_goto (t := 48) d247_44 (by rfl)) ?_
        refine Eq.trans (li_istore_n (ls' := [some (.inr (.inr (some a0))), some (.inl x1), some (.inl v3), some (.inl ((1 : Int32) <<< (v5 &&& 31))), none]) d247_48 (by decide) (by rfl)) ?_
        refine Eq.trans (li_aload_n d247_49 (by rfl)) ?_
        refine Eq.trans (li_iload_n d247_50 (by rfl)) ?_
        refine Eq.trans (li_bipush d247_51 bi_6) ?_
        refine Eq.trans (li_ivI d247_53 ca_12_83 kd_198 kl_198 (by rfl) (by rfl) h0 (Nat.le_of_ble_eq_true rfl) (Nat.le_of_ble_eq_true rfl)) ?_
        refine lt_cI_c (fun v6 m6 => ?_)
        refine Eq.trans (li_istore (ls' := [some (.inr (.inr (some a0))), some (.inl x1), some (.inl v3), some (.inl ((1 : Int32) <<< (v5 &&& 31))), some (.inl v6)]) d247_56 (by decide) (by rfl)) ?_
        rfl
    · refine Eq.trans (li_bipush d247_24 bi_n2) ?_
      exact li_iret d247_26 rfl
  · refine Eq.trans (li_iconst d247_13 ic_n1) ?_
    exact li_iret d247_14 rfl
theorem E247_58 (d : Nat) (a0 : Nat) (x1 : Int32) (x2 : Int32) (x3 : Int32) (x4 : Int32) (h0 : ts_sh a0 = (0, 12)) (m : lt_m) : L247_58 d a0 x1 x2 x3 x4 m = lt_cI (lt_ev d 198 [.inr (.inr (some a0)), .inl x1, .inl (9 : Int32)] m) (fun v1 m1 => (if v1 ≤ x4 then (L247_96 d a0 x1 x2 x3 x4 m1) else (if ¬ x2 = (2 : Int32) then (L247_96 d a0 x1 x2 x3 x4 m1) else (lt_cI (lt_ev d 198 [.inr (.inr (some a0)), .inl x1, .inl ((10 : Int32) + x4)] m1) (fun v2 m2 => (L247_58 d a0 x1 x2 (x3 ||| ((1 : Int32) <<< (v2 &&& 31))) (x4 + (1 : Int32)) m2)))))) := by
  show lt_run d Y247 58 [some (.inr (.inr (some a0))), some (.inl x1), some (.inl x2), some (.inl x3), some (.inl x4)] [] m = _
  refine Eq.trans (li_iload d247_58 (by rfl)) ?_
  refine Eq.trans (li_aload_n d247_60 (by rfl)) ?_
  refine Eq.trans (li_iload_n d247_61 (by rfl)) ?_
  refine Eq.trans (li_bipush d247_62 bi_9) ?_
  refine Eq.trans (li_ivI d247_64 ca_12_83 kd_198 kl_198 (by rfl) (by rfl) h0 (Nat.le_of_ble_eq_true rfl) (Nat.le_of_ble_eq_true rfl)) ?_
  refine lt_cI_c (fun v1 m1 => ?_)
  refine Eq.trans (li_icmp_ge (t := 96) d247_67 (by rfl)) ?_
  refine lt_ite (fun c1 => ?_) (fun c1 => ?_)
  · rfl
  · refine Eq.trans (li_iload_n d247_70 (by rfl)) ?_
    refine Eq.trans (li_iconst d247_71 ic_2) ?_
    refine Eq.trans (li_icmp_ne (t := 96) d247_72 (by rfl)) ?_
    refine lt_ite (fun c2 => ?_) (fun c2 => ?_)
    · rfl
    · refine Eq.trans (li_iload_n d247_75 (by rfl)) ?_
      refine Eq.trans (li_iconst d247_76 ic_1) ?_
      refine Eq.trans (li_aload_n d247_77 (by rfl)) ?_
      refine Eq.trans (li_iload_n d247_78 (by rfl)) ?_
      refine Eq.trans (li_bipush d247_79 bi_10) ?_
      refine Eq.trans (li_iload d247_81 (by rfl)) ?_
      refine Eq.trans (li_iadd d247_83) ?_
      refine Eq.trans (li_ivI d247_84 ca_12_83 kd_198 kl_198 (by rfl) (by rfl) h0 (Nat.le_of_ble_eq_true rfl) (Nat.le_of_ble_eq_true rfl)) ?_
      refine lt_cI_c (fun v2 m2 => ?_)
      refine Eq.trans (li_ishl d247_87) ?_
      refine Eq.trans (li_ior d247_88) ?_
      refine Eq.trans (li_istore_n (ls' := [some (.inr (.inr (some a0))), some (.inl x1), some (.inl x2), some (.inl (x3 ||| ((1 : Int32) <<< (v2 &&& 31)))), some (.inl x4)]) d247_89 (by decide) (by rfl)) ?_
      refine Eq.trans (li_iinc (ls' := [some (.inr (.inr (some a0))), some (.inl x1), some (.inl x2), some (.inl (x3 ||| ((1 : Int32) <<< (v2 &&& 31)))), some (.inl (x4 + (1 : Int32)))]) d247_90 (by rfl) (by decide) ic_1 (by rfl)) ?_
      refine Eq.trans (li_goto (t := 58) d247_93 (by rfl)) ?_
      rfl
theorem E247_96 (d : Nat) (a0 : Nat) (x1 : Int32) (x2 : Int32) (x3 : Int32) (x4 : Int32) (h0 : ts_sh a0 = (0, 12)) (m : lt_m) : L247_96 d a0 x1 x2 x3 x4 m = lt_cV (lt_ev d 202 [.inr (.inr (some a0)), .inr (.inl ((x2).toInt64))] (lm_i m a0 14 (0 : Int32))) (fun m1 => (lt_cI (lt_ev d 198 [.inr (.inr (some a0)), .inl x1, .inl (5 : Int32)] m1) (fun v1 m2 => (lt_gd (0 ≤ (0 : Int32) ∧ ((0 : Int32)).toNatClampNeg < 626) (lt_cV (lt_ev d 202 [.inr (.inr (some a0)), .inr (.inl ((((v1 + ((24 : Int32) * (x2 + (1 : Int32)))) - (m2.1 (a0 + 1) ((0 : Int32)).toNatClampNeg))).toInt64))] m2) (fun m3 => (some (some (.inl x3), m3)))))))) := by
  show lt_run d Y247 96 [some (.inr (.inr (some a0))), some (.inl x1), some (.inl x2), some (.inl x3), some (.inl x4)] [] m = _
  refine Eq.trans (li_aload_n d247_96 (by rfl)) ?_
  refine Eq.trans (li_iconst d247_97 ic_0) ?_
  refine Eq.trans (li_puti d247_98 fa_12_70 h0 rfl rfl) ?_
  refine Eq.trans (li_aload_n d247_101 (by rfl)) ?_
  refine Eq.trans (li_iload_n d247_102 (by rfl)) ?_
  refine Eq.trans (li_i2l d247_103) ?_
  refine Eq.trans (li_ivV d247_104 ca_12_194 kd_202 kl_202 (by rfl) (by rfl) h0 (Nat.le_of_ble_eq_true rfl) (Nat.le_of_ble_eq_true rfl)) ?_
  refine lt_cV_c (fun m1 => ?_)
  refine Eq.trans (li_aload_n d247_107 (by rfl)) ?_
  refine Eq.trans (li_aload_n d247_108 (by rfl)) ?_
  refine Eq.trans (li_iload_n d247_109 (by rfl)) ?_
  refine Eq.trans (li_iconst d247_110 ic_5) ?_
  refine Eq.trans (li_ivI d247_111 ca_12_83 kd_198 kl_198 (by rfl) (by rfl) h0 (Nat.le_of_ble_eq_true rfl) (Nat.le_of_ble_eq_true rfl)) ?_
  refine lt_cI_c (fun v1 m2 => ?_)
  refine Eq.trans (li_bipush d247_114 bi_24) ?_
  refine Eq.trans (li_iload_n d247_116 (by rfl)) ?_
  refine Eq.trans (li_iconst d247_117 ic_1) ?_
  refine Eq.trans (li_iadd d247_118) ?_
  refine Eq.trans (li_imul d247_119) ?_
  refine Eq.trans (li_iadd d247_120) ?_
  refine Eq.trans (li_aload_n d247_121 (by rfl)) ?_
  refine Eq.trans (li_getr d247_122 fa_12_7 h0 rfl rfl rfl (by decide)) ?_
  refine Eq.trans (li_iconst d247_125 ic_0) ?_
  refine Eq.trans (li_iald d247_126 (sf_of h0 0 (by decide) (by decide))) ?_
  refine lt_gd_c (fun g1 => ?_)
  refine Eq.trans (li_isub d247_127) ?_
  refine Eq.trans (li_i2l d247_128) ?_
  refine Eq.trans (li_ivV d247_129 ca_12_194 kd_202 kl_202 (by rfl) (by rfl) h0 (Nat.le_of_ble_eq_true rfl) (Nat.le_of_ble_eq_true rfl)) ?_
  refine lt_cV_c (fun m3 => ?_)
  refine Eq.trans (li_iload_n d247_132 (by rfl)) ?_
  exact li_iret d247_133 rfl
/-! TransitSealsModel.states(I)I -/
theorem d248_0 : decode Y248.2.1 0 = .ok (.aload_n 0, 1) := by decide +kernel
theorem d248_1 : decode Y248.2.1 1 = .ok (.iconst 0, 1) := by decide +kernel
theorem d248_2 : decode Y248.2.1 2 = .ok (.putfield 67, 3) := by decide +kernel
theorem d248_5 : decode Y248.2.1 5 = .ok (.iload_n 1, 1) := by decide +kernel
theorem d248_6 : decode Y248.2.1 6 = .ok (.i2l, 1) := by decide +kernel
theorem d248_7 : decode Y248.2.1 7 = .ok (.lconst 0, 1) := by decide +kernel
theorem d248_8 : decode Y248.2.1 8 = .ok (.ldc2_w 296, 3) := by decide +kernel
theorem d248_11 : decode Y248.2.1 11 = .ok (.invokestatic 76, 3) := by decide +kernel
theorem d248_14 : decode Y248.2.1 14 = .ok (.ifCond .ne 5, 3) := by decide +kernel
theorem d248_17 : decode Y248.2.1 17 = .ok (.iconst (-1), 1) := by decide +kernel
theorem d248_18 : decode Y248.2.1 18 = .ok (.ireturn, 1) := by decide +kernel
theorem d248_19 : decode Y248.2.1 19 = .ok (.iconst 0, 1) := by decide +kernel
theorem d248_20 : decode Y248.2.1 20 = .ok (.istore_n 2, 1) := by decide +kernel
theorem d248_21 : decode Y248.2.1 21 = .ok (.iconst 0, 1) := by decide +kernel
theorem d248_22 : decode Y248.2.1 22 = .ok (.istore_n 3, 1) := by decide +kernel
theorem d248_23 : decode Y248.2.1 23 = .ok (.iconst 0, 1) := by decide +kernel
theorem d248_24 : decode Y248.2.1 24 = .ok (.istore 4, 2) := by decide +kernel
theorem d248_26 : decode Y248.2.1 26 = .ok (.iload 4, 2) := by decide +kernel
theorem d248_28 : decode Y248.2.1 28 = .ok (.aload_n 0, 1) := by decide +kernel
theorem d248_29 : decode Y248.2.1 29 = .ok (.getfield 7, 3) := by decide +kernel
theorem d248_32 : decode Y248.2.1 32 = .ok (.iconst 2, 1) := by decide +kernel
theorem d248_33 : decode Y248.2.1 33 = .ok (.iaload, 1) := by decide +kernel
theorem d248_34 : decode Y248.2.1 34 = .ok (.if_icmp .ge 39, 3) := by decide +kernel
theorem d248_37 : decode Y248.2.1 37 = .ok (.aload_n 0, 1) := by decide +kernel
theorem d248_38 : decode Y248.2.1 38 = .ok (.iload 4, 2) := by decide +kernel
theorem d248_40 : decode Y248.2.1 40 = .ok (.invokevirtual 87, 3) := by decide +kernel
theorem d248_43 : decode Y248.2.1 43 = .ok (.iload_n 1, 1) := by decide +kernel
theorem d248_44 : decode Y248.2.1 44 = .ok (.if_icmp .eq 6, 3) := by decide +kernel
theorem d248_47 : decode Y248.2.1 47 = .ok (.goto 20, 3) := by decide +kernel
theorem d248_50 : decode Y248.2.1 50 = .ok (.iload_n 2, 1) := by decide +kernel
theorem d248_51 : decode Y248.2.1 51 = .ok (.iconst 1, 1) := by decide +kernel
theorem d248_52 : decode Y248.2.1 52 = .ok (.iload 4, 2) := by decide +kernel
theorem d248_54 : decode Y248.2.1 54 = .ok (.ishl, 1) := by decide +kernel
theorem d248_55 : decode Y248.2.1 55 = .ok (.ior, 1) := by decide +kernel
theorem d248_56 : decode Y248.2.1 56 = .ok (.istore_n 2, 1) := by decide +kernel
theorem d248_57 : decode Y248.2.1 57 = .ok (.iload_n 3, 1) := by decide +kernel
theorem d248_58 : decode Y248.2.1 58 = .ok (.aload_n 0, 1) := by decide +kernel
theorem d248_59 : decode Y248.2.1 59 = .ok (.iload 4, 2) := by decide +kernel
theorem d248_61 : decode Y248.2.1 61 = .ok (.iconst 4, 1) := by decide +kernel
theorem d248_62 : decode Y248.2.1 62 = .ok (.invokevirtual 83, 3) := by decide +kernel
theorem d248_65 : decode Y248.2.1 65 = .ok (.iadd, 1) := by decide +kernel
theorem d248_66 : decode Y248.2.1 66 = .ok (.istore_n 3, 1) := by decide +kernel
theorem d248_67 : decode Y248.2.1 67 = .ok (.iinc 4 1, 3) := by decide +kernel
theorem d248_70 : decode Y248.2.1 70 = .ok (.goto (-44), 3) := by decide +kernel
theorem d248_73 : decode Y248.2.1 73 = .ok (.aload_n 0, 1) := by decide +kernel
theorem d248_74 : decode Y248.2.1 74 = .ok (.iconst 0, 1) := by decide +kernel
theorem d248_75 : decode Y248.2.1 75 = .ok (.putfield 70, 3) := by decide +kernel
theorem d248_78 : decode Y248.2.1 78 = .ok (.aload_n 0, 1) := by decide +kernel
theorem d248_79 : decode Y248.2.1 79 = .ok (.iload_n 2, 1) := by decide +kernel
theorem d248_80 : decode Y248.2.1 80 = .ok (.invokestatic 213, 3) := by decide +kernel
theorem d248_83 : decode Y248.2.1 83 = .ok (.i2l, 1) := by decide +kernel
theorem d248_84 : decode Y248.2.1 84 = .ok (.invokevirtual 194, 3) := by decide +kernel
theorem d248_87 : decode Y248.2.1 87 = .ok (.aload_n 0, 1) := by decide +kernel
theorem d248_88 : decode Y248.2.1 88 = .ok (.iload_n 3, 1) := by decide +kernel
theorem d248_89 : decode Y248.2.1 89 = .ok (.i2l, 1) := by decide +kernel
theorem d248_90 : decode Y248.2.1 90 = .ok (.invokevirtual 194, 3) := by decide +kernel
theorem d248_93 : decode Y248.2.1 93 = .ok (.iload_n 2, 1) := by decide +kernel
theorem d248_94 : decode Y248.2.1 94 = .ok (.ireturn, 1) := by decide +kernel
noncomputable def L248_26 (d : Nat) (a0 : Nat) (x1 : Int32) (x2 : Int32) (x3 : Int32) (x4 : Int32) (m : lt_m) : Option lt_r := lt_run d Y248 26 [some (.inr (.inr (some a0))), some (.inl x1), some (.inl x2), some (.inl x3), some (.inl x4)] [] m
theorem E248 (d : Nat) (a0 : Nat) (x1 : Int32) (h0 : ts_sh a0 = (0, 12)) (m : lt_m) : lt_ev (d + 1) 248 [.inr (.inr (some a0)), .inl x1] m = lt_cI (lt_ev d 181 [.inr (.inl ((x1).toInt64)), .inr (.inl (0 : Int64)), .inr (.inl (5 : Int64))] (lm_i m a0 15 (0 : Int32))) (fun v1 m1 => (if ¬ v1 = 0 then (L248_26 d a0 x1 (0 : Int32) (0 : Int32) (0 : Int32) m1) else (some (some (.inl (-1 : Int32)), m1)))) := by
  refine Eq.trans (lt_enter2 (ls := [some (.inr (.inr (some a0))), some (.inl x1), none, none, none]) hY248 (Nat.le_of_ble_eq_true rfl) (by rfl)) ?_
  refine Eq.trans (li_aload_n d248_0 (by rfl)) ?_
  refine Eq.trans (li_iconst d248_1 ic_0) ?_
  refine Eq.trans (li_puti d248_2 fa_12_67 h0 rfl rfl) ?_
  refine Eq.trans (li_iload_n d248_5 (by rfl)) ?_
  refine Eq.trans (li_i2l d248_6) ?_
  refine Eq.trans (li_lconst (v := 0) d248_7 (by decide)) ?_
  refine Eq.trans (li_ldc2_w d248_8 cJ_12_296) ?_
  refine Eq.trans (li_isI d248_11 bi_12_76 ca_12_76 kd_181 (by rfl) (by rfl) (Nat.le_of_ble_eq_true rfl) (Nat.le_of_ble_eq_true rfl)) ?_
  refine lt_cI_c (fun v1 m1 => ?_)
  refine Eq.trans (li_if_ne (t := 19) d248_14 (by rfl)) ?_
  refine lt_ite (fun c1 => ?_) (fun c1 => ?_)
  · refine Eq.trans (li_iconst d248_19 ic_0) ?_
    refine Eq.trans (li_istore_n (ls' := [some (.inr (.inr (some a0))), some (.inl x1), some (.inl (0 : Int32)), none, none]) d248_20 (by decide) (by rfl)) ?_
    refine Eq.trans (li_iconst d248_21 ic_0) ?_
    refine Eq.trans (li_istore_n (ls' := [some (.inr (.inr (some a0))), some (.inl x1), some (.inl (0 : Int32)), some (.inl (0 : Int32)), none]) d248_22 (by decide) (by rfl)) ?_
    refine Eq.trans (li_iconst d248_23 ic_0) ?_
    refine Eq.trans (li_istore (ls' := [some (.inr (.inr (some a0))), some (.inl x1), some (.inl (0 : Int32)), some (.inl (0 : Int32)), some (.inl (0 : Int32))]) d248_24 (by decide) (by rfl)) ?_
    rfl
  · refine Eq.trans (li_iconst d248_17 ic_n1) ?_
    exact li_iret d248_18 rfl
theorem E248_26 (d : Nat) (a0 : Nat) (x1 : Int32) (x2 : Int32) (x3 : Int32) (x4 : Int32) (h0 : ts_sh a0 = (0, 12)) (m : lt_m) : L248_26 d a0 x1 x2 x3 x4 m = lt_gd (0 ≤ (2 : Int32) ∧ ((2 : Int32)).toNatClampNeg < 626) (if (m.1 (a0 + 1) ((2 : Int32)).toNatClampNeg) ≤ x4 then (lt_cI (lt_ev d 206 [.inl x2] (lm_i m a0 14 (0 : Int32))) (fun v1 m1 => (lt_cV (lt_ev d 202 [.inr (.inr (some a0)), .inr (.inl ((v1).toInt64))] m1) (fun m2 => (lt_cV (lt_ev d 202 [.inr (.inr (some a0)), .inr (.inl ((x3).toInt64))] m2) (fun m3 => (some (some (.inl x2), m3)))))))) else (lt_cI (lt_ev d 197 [.inr (.inr (some a0)), .inl x4] m) (fun v2 m4 => (if v2 = x1 then (lt_cI (lt_ev d 198 [.inr (.inr (some a0)), .inl x4, .inl (4 : Int32)] m4) (fun v3 m5 => (L248_26 d a0 x1 (x2 ||| ((1 : Int32) <<< (x4 &&& 31))) (x3 + v3) (x4 + (1 : Int32)) m5))) else (L248_26 d a0 x1 x2 x3 (x4 + (1 : Int32)) m4))))) := by
  show lt_run d Y248 26 [some (.inr (.inr (some a0))), some (.inl x1), some (.inl x2), some (.inl x3), some (.inl x4)] [] m = _
  refine Eq.trans (li_iload d248_26 (by rfl)) ?_
  refine Eq.trans (li_aload_n d248_28 (by rfl)) ?_
  refine Eq.trans (li_getr d248_29 fa_12_7 h0 rfl rfl rfl (by decide)) ?_
  refine Eq.trans (li_iconst d248_32 ic_2) ?_
  refine Eq.trans (li_iald d248_33 (sf_of h0 0 (by decide) (by decide))) ?_
  refine lt_gd_c (fun g1 => ?_)
  refine Eq.trans (li_icmp_ge (t := 73) d248_34 (by rfl)) ?_
  refine lt_ite (fun c1 => ?_) (fun c1 => ?_)
  · refine Eq.trans (li_aload_n d248_73 (by rfl)) ?_
    refine Eq.trans (li_iconst d248_74 ic_0) ?_
    refine Eq.trans (li_puti d248_75 fa_12_70 h0 rfl rfl) ?_
    refine Eq.trans (li_aload_n d248_78 (by rfl)) ?_
    refine Eq.trans (li_iload_n d248_79 (by rfl)) ?_
    refine Eq.trans (li_isI d248_80 bi_12_213 ca_12_213 kd_206 (by rfl) (by rfl) (Nat.le_of_ble_eq_true rfl) (Nat.le_of_ble_eq_true rfl)) ?_
    refine lt_cI_c (fun v1 m1 => ?_)
    refine Eq.trans (li_i2l d248_83) ?_
    refine Eq.trans (li_ivV d248_84 ca_12_194 kd_202 kl_202 (by rfl) (by rfl) h0 (Nat.le_of_ble_eq_true rfl) (Nat.le_of_ble_eq_true rfl)) ?_
    refine lt_cV_c (fun m2 => ?_)
    refine Eq.trans (li_aload_n d248_87 (by rfl)) ?_
    refine Eq.trans (li_iload_n d248_88 (by rfl)) ?_
    refine Eq.trans (li_i2l d248_89) ?_
    refine Eq.trans (li_ivV d248_90 ca_12_194 kd_202 kl_202 (by rfl) (by rfl) h0 (Nat.le_of_ble_eq_true rfl) (Nat.le_of_ble_eq_true rfl)) ?_
    refine lt_cV_c (fun m3 => ?_)
    refine Eq.trans (li_iload_n d248_93 (by rfl)) ?_
    exact li_iret d248_94 rfl
  · refine Eq.trans (li_aload_n d248_37 (by rfl)) ?_
    refine Eq.trans (li_iload d248_38 (by rfl)) ?_
    refine Eq.trans (li_ivI d248_40 ca_12_87 kd_197 kl_197 (by rfl) (by rfl) h0 (Nat.le_of_ble_eq_true rfl) (Nat.le_of_ble_eq_true rfl)) ?_
    refine lt_cI_c (fun v2 m4 => ?_)
    refine Eq.trans (li_iload_n d248_43 (by rfl)) ?_
    refine Eq.trans (li_icmp_eq (t := 50) d248_44 (by rfl)) ?_
    refine lt_ite (fun c2 => ?_) (fun c2 => ?_)
    · refine Eq.trans (li_iload_n d248_50 (by rfl)) ?_
      refine Eq.trans (li_iconst d248_51 ic_1) ?_
      refine Eq.trans (li_iload d248_52 (by rfl)) ?_
      refine Eq.trans (li_ishl d248_54) ?_
      refine Eq.trans (li_ior d248_55) ?_
      refine Eq.trans (li_istore_n (ls' := [some (.inr (.inr (some a0))), some (.inl x1), some (.inl (x2 ||| ((1 : Int32) <<< (x4 &&& 31)))), some (.inl x3), some (.inl x4)]) d248_56 (by decide) (by rfl)) ?_
      refine Eq.trans (li_iload_n d248_57 (by rfl)) ?_
      refine Eq.trans (li_aload_n d248_58 (by rfl)) ?_
      refine Eq.trans (li_iload d248_59 (by rfl)) ?_
      refine Eq.trans (li_iconst d248_61 ic_4) ?_
      refine Eq.trans (li_ivI d248_62 ca_12_83 kd_198 kl_198 (by rfl) (by rfl) h0 (Nat.le_of_ble_eq_true rfl) (Nat.le_of_ble_eq_true rfl)) ?_
      refine lt_cI_c (fun v3 m5 => ?_)
      refine Eq.trans (li_iadd d248_65) ?_
      refine Eq.trans (li_istore_n (ls' := [some (.inr (.inr (some a0))), some (.inl x1), some (.inl (x2 ||| ((1 : Int32) <<< (x4 &&& 31)))), some (.inl (x3 + v3)), some (.inl x4)]) d248_66 (by decide) (by rfl)) ?_
      refine Eq.trans (li_iinc (ls' := [some (.inr (.inr (some a0))), some (.inl x1), some (.inl (x2 ||| ((1 : Int32) <<< (x4 &&& 31)))), some (.inl (x3 + v3)), some (.inl (x4 + (1 : Int32)))]) d248_67 (by rfl) (by decide) ic_1 (by rfl)) ?_
      refine Eq.trans (li_goto (t := 26) d248_70 (by rfl)) ?_
      rfl
    · refine Eq.trans (li_goto (t := 67) d248_47 (by rfl)) ?_
      refine Eq.trans (li_iinc (ls' := [some (.inr (.inr (some a0))), some (.inl x1), some (.inl x2), some (.inl x3), some (.inl (x4 + (1 : Int32)))]) d248_67 (by rfl) (by decide) ic_1 (by rfl)) ?_
      refine Eq.trans (li_goto (t := 26) d248_70 (by rfl)) ?_
      rfl
/-! TransitSealsModel.owed(I)I -/
theorem d249_0 : decode Y249.2.1 0 = .ok (.aload_n 0, 1) := by decide +kernel
theorem d249_1 : decode Y249.2.1 1 = .ok (.iconst 0, 1) := by decide +kernel
theorem d249_2 : decode Y249.2.1 2 = .ok (.putfield 67, 3) := by decide +kernel
theorem d249_5 : decode Y249.2.1 5 = .ok (.iload_n 1, 1) := by decide +kernel
theorem d249_6 : decode Y249.2.1 6 = .ok (.i2l, 1) := by decide +kernel
theorem d249_7 : decode Y249.2.1 7 = .ok (.lconst 0, 1) := by decide +kernel
theorem d249_8 : decode Y249.2.1 8 = .ok (.ldc2_w 296, 3) := by decide +kernel
theorem d249_11 : decode Y249.2.1 11 = .ok (.invokestatic 76, 3) := by decide +kernel
theorem d249_14 : decode Y249.2.1 14 = .ok (.ifCond .ne 5, 3) := by decide +kernel
theorem d249_17 : decode Y249.2.1 17 = .ok (.iconst (-1), 1) := by decide +kernel
theorem d249_18 : decode Y249.2.1 18 = .ok (.ireturn, 1) := by decide +kernel
theorem d249_19 : decode Y249.2.1 19 = .ok (.iconst 0, 1) := by decide +kernel
theorem d249_20 : decode Y249.2.1 20 = .ok (.istore_n 2, 1) := by decide +kernel
theorem d249_21 : decode Y249.2.1 21 = .ok (.iconst 0, 1) := by decide +kernel
theorem d249_22 : decode Y249.2.1 22 = .ok (.istore_n 3, 1) := by decide +kernel
theorem d249_23 : decode Y249.2.1 23 = .ok (.iconst 0, 1) := by decide +kernel
theorem d249_24 : decode Y249.2.1 24 = .ok (.istore 4, 2) := by decide +kernel
theorem d249_26 : decode Y249.2.1 26 = .ok (.iconst 0, 1) := by decide +kernel
theorem d249_27 : decode Y249.2.1 27 = .ok (.istore 5, 2) := by decide +kernel
theorem d249_29 : decode Y249.2.1 29 = .ok (.iload 5, 2) := by decide +kernel
theorem d249_31 : decode Y249.2.1 31 = .ok (.aload_n 0, 1) := by decide +kernel
theorem d249_32 : decode Y249.2.1 32 = .ok (.getfield 7, 3) := by decide +kernel
theorem d249_35 : decode Y249.2.1 35 = .ok (.iconst 2, 1) := by decide +kernel
theorem d249_36 : decode Y249.2.1 36 = .ok (.iaload, 1) := by decide +kernel
theorem d249_37 : decode Y249.2.1 37 = .ok (.if_icmp .ge 90, 3) := by decide +kernel
theorem d249_40 : decode Y249.2.1 40 = .ok (.aload_n 0, 1) := by decide +kernel
theorem d249_41 : decode Y249.2.1 41 = .ok (.iload 5, 2) := by decide +kernel
theorem d249_43 : decode Y249.2.1 43 = .ok (.invokevirtual 87, 3) := by decide +kernel
theorem d249_46 : decode Y249.2.1 46 = .ok (.iconst 4, 1) := by decide +kernel
theorem d249_47 : decode Y249.2.1 47 = .ok (.if_icmp .lt 74, 3) := by decide +kernel
theorem d249_50 : decode Y249.2.1 50 = .ok (.aload_n 0, 1) := by decide +kernel
theorem d249_51 : decode Y249.2.1 51 = .ok (.getfield 19, 3) := by decide +kernel
theorem d249_54 : decode Y249.2.1 54 = .ok (.aload_n 0, 1) := by decide +kernel
theorem d249_55 : decode Y249.2.1 55 = .ok (.iload 5, 2) := by decide +kernel
theorem d249_57 : decode Y249.2.1 57 = .ok (.invokevirtual 182, 3) := by decide +kernel
theorem d249_60 : decode Y249.2.1 60 = .ok (.iaload, 1) := by decide +kernel
theorem d249_61 : decode Y249.2.1 61 = .ok (.iload_n 1, 1) := by decide +kernel
theorem d249_62 : decode Y249.2.1 62 = .ok (.if_icmp .eq 6, 3) := by decide +kernel
theorem d249_65 : decode Y249.2.1 65 = .ok (.goto 56, 3) := by decide +kernel
theorem d249_68 : decode Y249.2.1 68 = .ok (.iload_n 2, 1) := by decide +kernel
theorem d249_69 : decode Y249.2.1 69 = .ok (.aload_n 0, 1) := by decide +kernel
theorem d249_70 : decode Y249.2.1 70 = .ok (.iload 5, 2) := by decide +kernel
theorem d249_72 : decode Y249.2.1 72 = .ok (.invokevirtual 87, 3) := by decide +kernel
theorem d249_75 : decode Y249.2.1 75 = .ok (.iconst 4, 1) := by decide +kernel
theorem d249_76 : decode Y249.2.1 76 = .ok (.if_icmp .ne 14, 3) := by decide +kernel
theorem d249_79 : decode Y249.2.1 79 = .ok (.aload_n 0, 1) := by decide +kernel
theorem d249_80 : decode Y249.2.1 80 = .ok (.iload 5, 2) := by decide +kernel
theorem d249_82 : decode Y249.2.1 82 = .ok (.bipush 8, 2) := by decide +kernel
theorem d249_84 : decode Y249.2.1 84 = .ok (.invokevirtual 83, 3) := by decide +kernel
theorem d249_87 : decode Y249.2.1 87 = .ok (.goto 4, 3) := by decide +kernel
theorem d249_90 : decode Y249.2.1 90 = .ok (.iconst 0, 1) := by decide +kernel
theorem d249_91 : decode Y249.2.1 91 = .ok (.iadd, 1) := by decide +kernel
theorem d249_92 : decode Y249.2.1 92 = .ok (.istore_n 2, 1) := by decide +kernel
theorem d249_93 : decode Y249.2.1 93 = .ok (.iload_n 3, 1) := by decide +kernel
theorem d249_94 : decode Y249.2.1 94 = .ok (.aload_n 0, 1) := by decide +kernel
theorem d249_95 : decode Y249.2.1 95 = .ok (.iload 5, 2) := by decide +kernel
theorem d249_97 : decode Y249.2.1 97 = .ok (.invokevirtual 87, 3) := by decide +kernel
theorem d249_100 : decode Y249.2.1 100 = .ok (.iconst 5, 1) := by decide +kernel
theorem d249_101 : decode Y249.2.1 101 = .ok (.if_icmp .ne 14, 3) := by decide +kernel
theorem d249_104 : decode Y249.2.1 104 = .ok (.aload_n 0, 1) := by decide +kernel
theorem d249_105 : decode Y249.2.1 105 = .ok (.iload 5, 2) := by decide +kernel
theorem d249_107 : decode Y249.2.1 107 = .ok (.bipush 8, 2) := by decide +kernel
theorem d249_109 : decode Y249.2.1 109 = .ok (.invokevirtual 83, 3) := by decide +kernel
theorem d249_112 : decode Y249.2.1 112 = .ok (.goto 4, 3) := by decide +kernel
theorem d249_115 : decode Y249.2.1 115 = .ok (.iconst 0, 1) := by decide +kernel
theorem d249_116 : decode Y249.2.1 116 = .ok (.iadd, 1) := by decide +kernel
theorem d249_117 : decode Y249.2.1 117 = .ok (.istore_n 3, 1) := by decide +kernel
theorem d249_118 : decode Y249.2.1 118 = .ok (.iinc 4 1, 3) := by decide +kernel
theorem d249_121 : decode Y249.2.1 121 = .ok (.iinc 5 1, 3) := by decide +kernel
theorem d249_124 : decode Y249.2.1 124 = .ok (.goto (-95), 3) := by decide +kernel
theorem d249_127 : decode Y249.2.1 127 = .ok (.aload_n 0, 1) := by decide +kernel
theorem d249_128 : decode Y249.2.1 128 = .ok (.iconst 0, 1) := by decide +kernel
theorem d249_129 : decode Y249.2.1 129 = .ok (.putfield 70, 3) := by decide +kernel
theorem d249_132 : decode Y249.2.1 132 = .ok (.aload_n 0, 1) := by decide +kernel
theorem d249_133 : decode Y249.2.1 133 = .ok (.iload_n 3, 1) := by decide +kernel
theorem d249_134 : decode Y249.2.1 134 = .ok (.i2l, 1) := by decide +kernel
theorem d249_135 : decode Y249.2.1 135 = .ok (.invokevirtual 194, 3) := by decide +kernel
theorem d249_138 : decode Y249.2.1 138 = .ok (.aload_n 0, 1) := by decide +kernel
theorem d249_139 : decode Y249.2.1 139 = .ok (.iload 4, 2) := by decide +kernel
theorem d249_141 : decode Y249.2.1 141 = .ok (.i2l, 1) := by decide +kernel
theorem d249_142 : decode Y249.2.1 142 = .ok (.invokevirtual 194, 3) := by decide +kernel
theorem d249_145 : decode Y249.2.1 145 = .ok (.iload_n 2, 1) := by decide +kernel
theorem d249_146 : decode Y249.2.1 146 = .ok (.ireturn, 1) := by decide +kernel
noncomputable def L249_29 (d : Nat) (a0 : Nat) (x1 : Int32) (x2 : Int32) (x3 : Int32) (x4 : Int32) (x5 : Int32) (m : lt_m) : Option lt_r := lt_run d Y249 29 [some (.inr (.inr (some a0))), some (.inl x1), some (.inl x2), some (.inl x3), some (.inl x4), some (.inl x5)] [] m
noncomputable def L249_91 (d : Nat) (a0 : Nat) (x1 : Int32) (x2 : Int32) (x3 : Int32) (x4 : Int32) (x5 : Int32) (xt0 : Int32) (xt1 : Int32) (m : lt_m) : Option lt_r := lt_run d Y249 91 [some (.inr (.inr (some a0))), some (.inl x1), some (.inl x2), some (.inl x3), some (.inl x4), some (.inl x5)] [.inl xt0, .inl xt1] m
theorem E249 (d : Nat) (a0 : Nat) (x1 : Int32) (h0 : ts_sh a0 = (0, 12)) (m : lt_m) : lt_ev (d + 1) 249 [.inr (.inr (some a0)), .inl x1] m = lt_cI (lt_ev d 181 [.inr (.inl ((x1).toInt64)), .inr (.inl (0 : Int64)), .inr (.inl (5 : Int64))] (lm_i m a0 15 (0 : Int32))) (fun v1 m1 => (if ¬ v1 = 0 then (L249_29 d a0 x1 (0 : Int32) (0 : Int32) (0 : Int32) (0 : Int32) m1) else (some (some (.inl (-1 : Int32)), m1)))) := by
  refine Eq.trans (lt_enter2 (ls := [some (.inr (.inr (some a0))), some (.inl x1), none, none, none, none]) hY249 (Nat.le_of_ble_eq_true rfl) (by rfl)) ?_
  refine Eq.trans (li_aload_n d249_0 (by rfl)) ?_
  refine Eq.trans (li_iconst d249_1 ic_0) ?_
  refine Eq.trans (li_puti d249_2 fa_12_67 h0 rfl rfl) ?_
  refine Eq.trans (li_iload_n d249_5 (by rfl)) ?_
  refine Eq.trans (li_i2l d249_6) ?_
  refine Eq.trans (li_lconst (v := 0) d249_7 (by decide)) ?_
  refine Eq.trans (li_ldc2_w d249_8 cJ_12_296) ?_
  refine Eq.trans (li_isI d249_11 bi_12_76 ca_12_76 kd_181 (by rfl) (by rfl) (Nat.le_of_ble_eq_true rfl) (Nat.le_of_ble_eq_true rfl)) ?_
  refine lt_cI_c (fun v1 m1 => ?_)
  refine Eq.trans (li_if_ne (t := 19) d249_14 (by rfl)) ?_
  refine lt_ite (fun c1 => ?_) (fun c1 => ?_)
  · refine Eq.trans (li_iconst d249_19 ic_0) ?_
    refine Eq.trans (li_istore_n (ls' := [some (.inr (.inr (some a0))), some (.inl x1), some (.inl (0 : Int32)), none, none, none]) d249_20 (by decide) (by rfl)) ?_
    refine Eq.trans (li_iconst d249_21 ic_0) ?_
    refine Eq.trans (li_istore_n (ls' := [some (.inr (.inr (some a0))), some (.inl x1), some (.inl (0 : Int32)), some (.inl (0 : Int32)), none, none]) d249_22 (by decide) (by rfl)) ?_
    refine Eq.trans (li_iconst d249_23 ic_0) ?_
    refine Eq.trans (li_istore (ls' := [some (.inr (.inr (some a0))), some (.inl x1), some (.inl (0 : Int32)), some (.inl (0 : Int32)), some (.inl (0 : Int32)), none]) d249_24 (by decide) (by rfl)) ?_
    refine Eq.trans (li_iconst d249_26 ic_0) ?_
    refine Eq.trans (li_istore (ls' := [some (.inr (.inr (some a0))), some (.inl x1), some (.inl (0 : Int32)), some (.inl (0 : Int32)), some (.inl (0 : Int32)), some (.inl (0 : Int32))]) d249_27 (by decide) (by rfl)) ?_
    rfl
  · refine Eq.trans (li_iconst d249_17 ic_n1) ?_
    exact li_iret d249_18 rfl
theorem E249_29 (d : Nat) (a0 : Nat) (x1 : Int32) (x2 : Int32) (x3 : Int32) (x4 : Int32) (x5 : Int32) (h0 : ts_sh a0 = (0, 12)) (m : lt_m) : L249_29 d a0 x1 x2 x3 x4 x5 m = lt_gd (0 ≤ (2 : Int32) ∧ ((2 : Int32)).toNatClampNeg < 626) (if (m.1 (a0 + 1) ((2 : Int32)).toNatClampNeg) ≤ x5 then (lt_cV (lt_ev d 202 [.inr (.inr (some a0)), .inr (.inl ((x3).toInt64))] (lm_i m a0 14 (0 : Int32))) (fun m1 => (lt_cV (lt_ev d 202 [.inr (.inr (some a0)), .inr (.inl ((x4).toInt64))] m1) (fun m2 => (some (some (.inl x2), m2)))))) else (lt_cI (lt_ev d 197 [.inr (.inr (some a0)), .inl x5] m) (fun v1 m3 => (if v1 < (4 : Int32) then (L249_29 d a0 x1 x2 x3 x4 (x5 + (1 : Int32)) m3) else (lt_cI (lt_ev d 199 [.inr (.inr (some a0)), .inl x5] m3) (fun v2 m4 => (lt_gd (0 ≤ v2 ∧ (v2).toNatClampNeg < 12) (if (m4.1 (a0 + 4) (v2).toNatClampNeg) = x1 then (lt_cI (lt_ev d 197 [.inr (.inr (some a0)), .inl x5] m4) (fun v3 m5 => (if ¬ v3 = (4 : Int32) then (L249_91 d a0 x1 x2 x3 x4 x5 (0 : Int32) x2 m5) else (lt_cI (lt_ev d 198 [.inr (.inr (some a0)), .inl x5, .inl (8 : Int32)] m5) (fun v4 m6 => (L249_91 d a0 x1 x2 x3 x4 x5 v4 x2 m6)))))) else (L249_29 d a0 x1 x2 x3 x4 (x5 + (1 : Int32)) m4))))))))) := by
  show lt_run d Y249 29 [some (.inr (.inr (some a0))), some (.inl x1), some (.inl x2), some (.inl x3), some (.inl x4), some (.inl x5)] [] m = _
  refine Eq.trans (li_iload d249_29 (by rfl)) ?_
  refine Eq.trans (li_aload_n d249_31 (by rfl)) ?_
  refine Eq.trans (li_getr d249_32 fa_12_7 h0 rfl rfl rfl (by decide)) ?_
  refine Eq.trans (li_iconst d249_35 ic_2) ?_
  refine Eq.trans (li_iald d249_36 (sf_of h0 0 (by decide) (by decide))) ?_
  refine lt_gd_c (fun g1 => ?_)
  refine Eq.trans (li_icmp_ge (t := 127) d249_37 (by rfl)) ?_
  refine lt_ite (fun c1 => ?_) (fun c1 => ?_)
  · refine Eq.trans (li_aload_n d249_127 (by rfl)) ?_
    refine Eq.trans (li_iconst d249_128 ic_0) ?_
    refine Eq.trans (li_puti d249_129 fa_12_70 h0 rfl rfl) ?_
    refine Eq.trans (li_aload_n d249_132 (by rfl)) ?_
    refine Eq.trans (li_iload_n d249_133 (by rfl)) ?_
    refine Eq.trans (li_i2l d249_134) ?_
    refine Eq.trans (li_ivV d249_135 ca_12_194 kd_202 kl_202 (by rfl) (by rfl) h0 (Nat.le_of_ble_eq_true rfl) (Nat.le_of_ble_eq_true rfl)) ?_
    refine lt_cV_c (fun m1 => ?_)
    refine Eq.trans (li_aload_n d249_138 (by rfl)) ?_
    refine Eq.trans (li_iload d249_139 (by rfl)) ?_
    refine Eq.trans (li_i2l d249_141) ?_
    refine Eq.trans (li_ivV d249_142 ca_12_194 kd_202 kl_202 (by rfl) (by rfl) h0 (Nat.le_of_ble_eq_true rfl) (Nat.le_of_ble_eq_true rfl)) ?_
    refine lt_cV_c (fun m2 => ?_)
    refine Eq.trans (li_iload_n d249_145 (by rfl)) ?_
    exact li_iret d249_146 rfl
  · refine Eq.trans (li_aload_n d249_40 (by rfl)) ?_
    refine Eq.trans (li_iload d249_41 (by rfl)) ?_
    refine Eq.trans (li_ivI d249_43 ca_12_87 kd_197 kl_197 (by rfl) (by rfl) h0 (Nat.le_of_ble_eq_true rfl) (Nat.le_of_ble_eq_true rfl)) ?_
    refine lt_cI_c (fun v1 m3 => ?_)
    refine Eq.trans (li_iconst d249_46 ic_4) ?_
    refine Eq.trans (li_icmp_lt (t := 121) d249_47 (by rfl)) ?_
    refine lt_ite (fun c2 => ?_) (fun c2 => ?_)
    · refine Eq.trans (li_iinc (ls' := [some (.inr (.inr (some a0))), some (.inl x1), some (.inl x2), some (.inl x3), some (.inl x4), some (.inl (x5 + (1 : Int32)))]) d249_121 (by rfl) (by decide) ic_1 (by rfl)) ?_
      refine Eq.trans (li_goto (t := 29) d249_124 (by rfl)) ?_
      rfl
    · refine Eq.trans (li_aload_n d249_50 (by rfl)) ?_
      refine Eq.trans (li_getr d249_51 fa_12_19 h0 rfl rfl rfl (by decide)) ?_
      refine Eq.trans (li_aload_n d249_54 (by rfl)) ?_
      refine Eq.trans (li_iload d249_55 (by rfl)) ?_
      refine Eq.trans (li_ivI d249_57 ca_12_182 kd_199 kl_199 (by rfl) (by rfl) h0 (Nat.le_of_ble_eq_true rfl) (Nat.le_of_ble_eq_true rfl)) ?_
      refine lt_cI_c (fun v2 m4 => ?_)
      refine Eq.trans (li_iald d249_60 (sf_of h0 5 (by decide) (by decide))) ?_
      refine lt_gd_c (fun g2 => ?_)
      refine Eq.trans (li_iload_n d249_61 (by rfl)) ?_
      refine Eq.trans (li_icmp_eq (t := 68) d249_62 (by rfl)) ?_
      refine lt_ite (fun c3 => ?_) (fun c3 => ?_)
      · refine Eq.trans (li_iload_n d249_68 (by rfl)) ?_
        refine Eq.trans (li_aload_n d249_69 (by rfl)) ?_
        refine Eq.trans (li_iload d249_70 (by rfl)) ?_
        refine Eq.trans (li_ivI d249_72 ca_12_87 kd_197 kl_197 (by rfl) (by rfl) h0 (Nat.le_of_ble_eq_true rfl) (Nat.le_of_ble_eq_true rfl)) ?_
        refine lt_cI_c (fun v3 m5 => ?_)
        refine Eq.trans (li_iconst d249_75 ic_4) ?_
        refine Eq.trans (li_icmp_ne (t := 90) d249_76 (by rfl)) ?_
        refine lt_ite (fun c4 => ?_) (fun c4 => ?_)
        · refine Eq.trans (li_iconst d249_90 ic_0) ?_
          rfl
        · refine Eq.trans (li_aload_n d249_79 (by rfl)) ?_
          refine Eq.trans (li_iload d249_80 (by rfl)) ?_
          refine Eq.trans (li_bipush d249_82 bi_8) ?_
          refine Eq.trans (li_ivI d249_84 ca_12_83 kd_198 kl_198 (by rfl) (by rfl) h0 (Nat.le_of_ble_eq_true rfl) (Nat.le_of_ble_eq_true rfl)) ?_
          refine lt_cI_c (fun v4 m6 => ?_)
          refine Eq.trans (li_goto (t := 91) d249_87 (by rfl)) ?_
          rfl
      · refine Eq.trans (li_goto (t := 121) d249_65 (by rfl)) ?_
        refine Eq.trans (li_iinc (ls' := [some (.inr (.inr (some a0))), some (.inl x1), some (.inl x2), some (.inl x3), some (.inl x4), some (.inl (x5 + (1 : Int32)))]) d249_121 (by rfl) (by decide) ic_1 (by rfl)) ?_
        refine Eq.trans (li_goto (t := 29) d249_124 (by rfl)) ?_
        rfl
theorem E249_91 (d : Nat) (a0 : Nat) (x1 : Int32) (x2 : Int32) (x3 : Int32) (x4 : Int32) (x5 : Int32) (xt0 : Int32) (xt1 : Int32) (h0 : ts_sh a0 = (0, 12)) (m : lt_m) : L249_91 d a0 x1 x2 x3 x4 x5 xt0 xt1 m = lt_cI (lt_ev d 197 [.inr (.inr (some a0)), .inl x5] m) (fun v1 m1 => (if ¬ v1 = (5 : Int32) then (L249_29 d a0 x1 (xt1 + xt0) (x3 + (0 : Int32)) (x4 + (1 : Int32)) (x5 + (1 : Int32)) m1) else (lt_cI (lt_ev d 198 [.inr (.inr (some a0)), .inl x5, .inl (8 : Int32)] m1) (fun v2 m2 => (L249_29 d a0 x1 (xt1 + xt0) (x3 + v2) (x4 + (1 : Int32)) (x5 + (1 : Int32)) m2))))) := by
  show lt_run d Y249 91 [some (.inr (.inr (some a0))), some (.inl x1), some (.inl x2), some (.inl x3), some (.inl x4), some (.inl x5)] [.inl xt0, .inl xt1] m = _
  refine Eq.trans (li_iadd d249_91) ?_
  refine Eq.trans (li_istore_n (ls' := [some (.inr (.inr (some a0))), some (.inl x1), some (.inl (xt1 + xt0)), some (.inl x3), some (.inl x4), some (.inl x5)]) d249_92 (by decide) (by rfl)) ?_
  refine Eq.trans (li_iload_n d249_93 (by rfl)) ?_
  refine Eq.trans (li_aload_n d249_94 (by rfl)) ?_
  refine Eq.trans (li_iload d249_95 (by rfl)) ?_
  refine Eq.trans (li_ivI d249_97 ca_12_87 kd_197 kl_197 (by rfl) (by rfl) h0 (Nat.le_of_ble_eq_true rfl) (Nat.le_of_ble_eq_true rfl)) ?_
  refine lt_cI_c (fun v1 m1 => ?_)
  refine Eq.trans (li_iconst d249_100 ic_5) ?_
  refine Eq.trans (li_icmp_ne (t := 115) d249_101 (by rfl)) ?_
  refine lt_ite (fun c1 => ?_) (fun c1 => ?_)
  · refine Eq.trans (li_iconst d249_115 ic_0) ?_
    refine Eq.trans (li_iadd d249_116) ?_
    refine Eq.trans (li_istore_n (ls' := [some (.inr (.inr (some a0))), some (.inl x1), some (.inl (xt1 + xt0)), some (.inl (x3 + (0 : Int32))), some (.inl x4), some (.inl x5)]) d249_117 (by decide) (by rfl)) ?_
    refine Eq.trans (li_iinc (ls' := [some (.inr (.inr (some a0))), some (.inl x1), some (.inl (xt1 + xt0)), some (.inl (x3 + (0 : Int32))), some (.inl (x4 + (1 : Int32))), some (.inl x5)]) d249_118 (by rfl) (by decide) ic_1 (by rfl)) ?_
    refine Eq.trans (li_iinc (ls' := [some (.inr (.inr (some a0))), some (.inl x1), some (.inl (xt1 + xt0)), some (.inl (x3 + (0 : Int32))), some (.inl (x4 + (1 : Int32))), some (.inl (x5 + (1 : Int32)))]) d249_121 (by rfl) (by decide) ic_1 (by rfl)) ?_
    refine Eq.trans (li_goto (t := 29) d249_124 (by rfl)) ?_
    rfl
  · refine Eq.trans (li_aload_n d249_104 (by rfl)) ?_
    refine Eq.trans (li_iload d249_105 (by rfl)) ?_
    refine Eq.trans (li_bipush d249_107 bi_8) ?_
    refine Eq.trans (li_ivI d249_109 ca_12_83 kd_198 kl_198 (by rfl) (by rfl) h0 (Nat.le_of_ble_eq_true rfl) (Nat.le_of_ble_eq_true rfl)) ?_
    refine lt_cI_c (fun v2 m2 => ?_)
    refine Eq.trans (li_goto (t := 116) d249_112 (by rfl)) ?_
    refine Eq.trans (li_iadd d249_116) ?_
    refine Eq.trans (li_istore_n (ls' := [some (.inr (.inr (some a0))), some (.inl x1), some (.inl (xt1 + xt0)), some (.inl (x3 + v2)), some (.inl x4), some (.inl x5)]) d249_117 (by decide) (by rfl)) ?_
    refine Eq.trans (li_iinc (ls' := [some (.inr (.inr (some a0))), some (.inl x1), some (.inl (xt1 + xt0)), some (.inl (x3 + v2)), some (.inl (x4 + (1 : Int32))), some (.inl x5)]) d249_118 (by rfl) (by decide) ic_1 (by rfl)) ?_
    refine Eq.trans (li_iinc (ls' := [some (.inr (.inr (some a0))), some (.inl x1), some (.inl (xt1 + xt0)), some (.inl (x3 + v2)), some (.inl (x4 + (1 : Int32))), some (.inl (x5 + (1 : Int32)))]) d249_121 (by rfl) (by decide) ic_1 (by rfl)) ?_
    refine Eq.trans (li_goto (t := 29) d249_124 (by rfl)) ?_
    rfl

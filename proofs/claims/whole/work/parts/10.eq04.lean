/-! ===== equations of methods ===== -/
/-! TransitSeals.risk(I)I -/
theorem d161_0 : decode Y161.2.1 0 = .ok (.aload_n 0, 1) := by decide +kernel
theorem d161_1 : decode Y161.2.1 1 = .ok (.getfield 47, 3) := by decide +kernel
theorem d161_4 : decode Y161.2.1 4 = .ok (.iload_n 1, 1) := by decide +kernel
theorem d161_5 : decode Y161.2.1 5 = .ok (.invokevirtual 240, 3) := by decide +kernel
theorem d161_8 : decode Y161.2.1 8 = .ok (.astore_n 2, 1) := by decide +kernel
theorem d161_9 : decode Y161.2.1 9 = .ok (.aload_n 2, 1) := by decide +kernel
theorem d161_10 : decode Y161.2.1 10 = .ok (.ifnonnull 5, 3) := by decide +kernel
theorem d161_13 : decode Y161.2.1 13 = .ok (.iconst (-1), 1) := by decide +kernel
theorem d161_14 : decode Y161.2.1 14 = .ok (.ireturn, 1) := by decide +kernel
theorem d161_15 : decode Y161.2.1 15 = .ok (.aload_n 2, 1) := by decide +kernel
theorem d161_16 : decode Y161.2.1 16 = .ok (.invokevirtual 244, 3) := by decide +kernel
theorem d161_19 : decode Y161.2.1 19 = .ok (.ifCond .ne 14, 3) := by decide +kernel
theorem d161_22 : decode Y161.2.1 22 = .ok (.aload_n 2, 1) := by decide +kernel
theorem d161_23 : decode Y161.2.1 23 = .ok (.getfield 269, 3) := by decide +kernel
theorem d161_26 : decode Y161.2.1 26 = .ok (.iconst 1, 1) := by decide +kernel
theorem d161_27 : decode Y161.2.1 27 = .ok (.if_icmp .eq 6, 3) := by decide +kernel
theorem d161_30 : decode Y161.2.1 30 = .ok (.bipush (-2), 2) := by decide +kernel
theorem d161_32 : decode Y161.2.1 32 = .ok (.ireturn, 1) := by decide +kernel
theorem d161_33 : decode Y161.2.1 33 = .ok (.aload_n 0, 1) := by decide +kernel
theorem d161_34 : decode Y161.2.1 34 = .ok (.aload_n 2, 1) := by decide +kernel
theorem d161_35 : decode Y161.2.1 35 = .ok (.getfield 291, 3) := by decide +kernel
theorem d161_38 : decode Y161.2.1 38 = .ok (.aload_n 2, 1) := by decide +kernel
theorem d161_39 : decode Y161.2.1 39 = .ok (.getfield 294, 3) := by decide +kernel
theorem d161_42 : decode Y161.2.1 42 = .ok (.isub, 1) := by decide +kernel
theorem d161_43 : decode Y161.2.1 43 = .ok (.aload_n 0, 1) := by decide +kernel
theorem d161_44 : decode Y161.2.1 44 = .ok (.getfield 61, 3) := by decide +kernel
theorem d161_47 : decode Y161.2.1 47 = .ok (.aload_n 2, 1) := by decide +kernel
theorem d161_48 : decode Y161.2.1 48 = .ok (.invokevirtual 299, 3) := by decide +kernel
theorem d161_51 : decode Y161.2.1 51 = .ok (.invokevirtual 113, 3) := by decide +kernel
theorem d161_54 : decode Y161.2.1 54 = .ok (.invokevirtual 144, 3) := by decide +kernel
theorem d161_57 : decode Y161.2.1 57 = .ok (.aload_n 2, 1) := by decide +kernel
theorem d161_58 : decode Y161.2.1 58 = .ok (.getfield 291, 3) := by decide +kernel
theorem d161_61 : decode Y161.2.1 61 = .ok (.ireturn, 1) := by decide +kernel
noncomputable def L161_33 (d : Nat) (a0 : Nat) (x1 : Int32) (b2 : Nat) (m : lt_m) : Option lt_r := lt_run d Y161 33 [some (.inr (.inr (some a0))), some (.inl x1), some (.inr (.inr (some b2)))] [] m
theorem E161 (d : Nat) (a0 : Nat) (x1 : Int32) (h0 : ts_sh a0 = (0, 11)) (m : lt_m) : lt_ev (d + 1) 161 [.inr (.inr (some a0)), .inl x1] m = lt_cR (lt_ev d 114 [.inr (.inr (some (a0 + 13))), .inl x1] m) (fun v1 m1 => (lt_nl v1 (some (some (.inl (-1 : Int32)), m1)) (fun q1 => (lt_gd (ts_sh q1 = (0, 4)) (lt_cI (lt_ev d 62 [.inr (.inr (some q1))] m1) (fun v2 m2 => (if ¬ v2 = 0 then (L161_33 d a0 x1 q1 m2) else (if (m2.1 q1 7) = (1 : Int32) then (L161_33 d a0 x1 q1 m2) else (some (some (.inl (-2 : Int32)), m2)))))))))) := by
  refine Eq.trans (lt_enter2 (ls := [some (.inr (.inr (some a0))), some (.inl x1), none]) hY161 (Nat.le_of_ble_eq_true rfl) (by rfl)) ?_
  refine Eq.trans (li_aload_n d161_0 (by rfl)) ?_
  refine Eq.trans (li_getr d161_1 fa_11_47 h0 rfl rfl rfl (by decide)) ?_
  refine Eq.trans (li_iload_n d161_4 (by rfl)) ?_
  refine Eq.trans (li_ivR d161_5 ca_11_240 kd_114 kl_114 (by rfl) (by rfl) (sf_of h0 5 (by decide) (by decide)) (Nat.le_of_ble_eq_true rfl) (Nat.le_of_ble_eq_true rfl)) ?_
  refine lt_cR_c (fun v1 m1 => ?_)
  refine Eq.trans (li_astore_n (ls' := [some (.inr (.inr (some a0))), some (.inl x1), some (.inr (.inr v1))]) d161_8 (by decide) (by rfl)) ?_
  refine Eq.trans (li_aload_n d161_9 (by rfl)) ?_
  refine lt_nl_x (F := fun oz => lt_run d Y161 10 [some (.inr (.inr (some a0))), some (.inl x1), some (.inr (.inr oz))] [.inr (.inr oz)] m1) ?_ (fun q1 => ?_)
  · refine Eq.trans (li_ifnonnull_n d161_10) ?_
    refine Eq.trans (li_iconst d161_13 ic_n1) ?_
    exact li_iret d161_14 rfl
  · refine Eq.trans (li_ifnonnull_s (t := 15) d161_10 (by rfl)) ?_
    refine Eq.trans (li_aload_n d161_15 (by rfl)) ?_
    refine Eq.trans (li_ginv d161_16 ca_11_244 kl_62 (by rfl)) ?_
    refine lt_gd_c (fun g1 => ?_)
    refine Eq.trans (li_ivI d161_16 ca_11_244 kd_62 kl_62 (by rfl) (by rfl) g1 (Nat.le_of_ble_eq_true rfl) (Nat.le_of_ble_eq_true rfl)) ?_
    refine lt_cI_c (fun v2 m2 => ?_)
    refine Eq.trans (li_if_ne (t := 33) d161_19 (by rfl)) ?_
    refine lt_ite (fun c1 => ?_) (fun c1 => ?_)
    · rfl
    · refine Eq.trans (li_aload_n d161_22 (by rfl)) ?_
      refine Eq.trans (li_geti d161_23 fa_11_269 g1 rfl) ?_
      refine Eq.trans (li_iconst d161_26 ic_1) ?_
      refine Eq.trans (li_icmp_eq (t := 33) d161_27 (by rfl)) ?_
      refine lt_ite (fun c2 => ?_) (fun c2 => ?_)
      · rfl
      · refine Eq.trans (li_bipush d161_30 bi_n2) ?_
        exact li_iret d161_32 rfl
theorem E161_33 (d : Nat) (a0 : Nat) (x1 : Int32) (b2 : Nat) (h0 : ts_sh a0 = (0, 11)) (hb2 : ts_sh b2 = (0, 4)) (m : lt_m) : L161_33 d a0 x1 b2 m = lt_cI (lt_ev d 63 [.inr (.inr (some b2))] m) (fun v1 m1 => (lt_gd (ts_sh (m.2.2.1) = (0, 5)) (lt_cI (lt_ev d 21 [.inr (.inr (some (m.2.2.1))), .inl v1] m1) (fun v2 m2 => (lt_cV (lt_ev d 74 [.inr (.inr (some a0)), .inl ((m.1 b2 4) - (m.1 b2 5)), .inl v2] m2) (fun m3 => (some (some (.inl (m3.1 b2 4)), m3)))))))) := by
  show lt_run d Y161 33 [some (.inr (.inr (some a0))), some (.inl x1), some (.inr (.inr (some b2)))] [] m = _
  refine Eq.trans (li_aload_n d161_33 (by rfl)) ?_
  refine Eq.trans (li_aload_n d161_34 (by rfl)) ?_
  refine Eq.trans (li_geti d161_35 fa_11_291 hb2 rfl) ?_
  refine Eq.trans (li_aload_n d161_38 (by rfl)) ?_
  refine Eq.trans (li_geti d161_39 fa_11_294 hb2 rfl) ?_
  refine Eq.trans (li_isub d161_42) ?_
  refine Eq.trans (li_aload_n d161_43 (by rfl)) ?_
  refine Eq.trans (li_getnet d161_44 fa_11_61 h0) ?_
  refine Eq.trans (li_aload_n d161_47 (by rfl)) ?_
  refine Eq.trans (li_ivI d161_48 ca_11_299 kd_63 kl_63 (by rfl) (by rfl) hb2 (Nat.le_of_ble_eq_true rfl) (Nat.le_of_ble_eq_true rfl)) ?_
  refine lt_cI_c (fun v1 m1 => ?_)
  refine Eq.trans (li_ginv d161_51 ca_11_113 kl_21 (by rfl)) ?_
  refine lt_gd_c (fun g1 => ?_)
  refine Eq.trans (li_ivI d161_51 ca_11_113 kd_21 kl_21 (by rfl) (by rfl) g1 (Nat.le_of_ble_eq_true rfl) (Nat.le_of_ble_eq_true rfl)) ?_
  refine lt_cI_c (fun v2 m2 => ?_)
  refine Eq.trans (li_ivV d161_54 ca_11_144 kd_74 kl_74 (by rfl) (by rfl) h0 (Nat.le_of_ble_eq_true rfl) (Nat.le_of_ble_eq_true rfl)) ?_
  refine lt_cV_c (fun m3 => ?_)
  refine Eq.trans (li_aload_n d161_57 (by rfl)) ?_
  refine Eq.trans (li_geti d161_58 fa_11_291 hb2 rfl) ?_
  exact li_iret d161_61 rfl
/-! TransitSeals.tightest()I -/
theorem d162_0 : decode Y162.2.1 0 = .ok (.iconst (-1), 1) := by decide +kernel
theorem d162_1 : decode Y162.2.1 1 = .ok (.istore_n 1, 1) := by decide +kernel
theorem d162_2 : decode Y162.2.1 2 = .ok (.iconst (-1), 1) := by decide +kernel
theorem d162_3 : decode Y162.2.1 3 = .ok (.istore_n 2, 1) := by decide +kernel
theorem d162_4 : decode Y162.2.1 4 = .ok (.iconst 0, 1) := by decide +kernel
theorem d162_5 : decode Y162.2.1 5 = .ok (.istore_n 3, 1) := by decide +kernel
theorem d162_6 : decode Y162.2.1 6 = .ok (.iload_n 3, 1) := by decide +kernel
theorem d162_7 : decode Y162.2.1 7 = .ok (.aload_n 0, 1) := by decide +kernel
theorem d162_8 : decode Y162.2.1 8 = .ok (.getfield 47, 3) := by decide +kernel
theorem d162_11 : decode Y162.2.1 11 = .ok (.getfield 165, 3) := by decide +kernel
theorem d162_14 : decode Y162.2.1 14 = .ok (.if_icmp .ge 56, 3) := by decide +kernel
theorem d162_17 : decode Y162.2.1 17 = .ok (.aload_n 0, 1) := by decide +kernel
theorem d162_18 : decode Y162.2.1 18 = .ok (.getfield 47, 3) := by decide +kernel
theorem d162_21 : decode Y162.2.1 21 = .ok (.iload_n 3, 1) := by decide +kernel
theorem d162_22 : decode Y162.2.1 22 = .ok (.invokevirtual 185, 3) := by decide +kernel
theorem d162_25 : decode Y162.2.1 25 = .ok (.istore 4, 2) := by decide +kernel
theorem d162_27 : decode Y162.2.1 27 = .ok (.iload 4, 2) := by decide +kernel
theorem d162_29 : decode Y162.2.1 29 = .ok (.ifCond .ne 7, 3) := by decide +kernel
theorem d162_32 : decode Y162.2.1 32 = .ok (.iconst 0, 1) := by decide +kernel
theorem d162_33 : decode Y162.2.1 33 = .ok (.goto 18, 3) := by decide +kernel
theorem d162_36 : decode Y162.2.1 36 = .ok (.sipush 1000, 3) := by decide +kernel
theorem d162_39 : decode Y162.2.1 39 = .ok (.aload_n 0, 1) := by decide +kernel
theorem d162_40 : decode Y162.2.1 40 = .ok (.getfield 47, 3) := by decide +kernel
theorem d162_43 : decode Y162.2.1 43 = .ok (.iload_n 3, 1) := by decide +kernel
theorem d162_44 : decode Y162.2.1 44 = .ok (.invokevirtual 178, 3) := by decide +kernel
theorem d162_47 : decode Y162.2.1 47 = .ok (.imul, 1) := by decide +kernel
theorem d162_48 : decode Y162.2.1 48 = .ok (.iload 4, 2) := by decide +kernel
theorem d162_50 : decode Y162.2.1 50 = .ok (.idiv, 1) := by decide +kernel
theorem d162_51 : decode Y162.2.1 51 = .ok (.istore 5, 2) := by decide +kernel
theorem d162_53 : decode Y162.2.1 53 = .ok (.iload 5, 2) := by decide +kernel
theorem d162_55 : decode Y162.2.1 55 = .ok (.iload_n 2, 1) := by decide +kernel
theorem d162_56 : decode Y162.2.1 56 = .ok (.if_icmp .le 8, 3) := by decide +kernel
theorem d162_59 : decode Y162.2.1 59 = .ok (.iload_n 3, 1) := by decide +kernel
theorem d162_60 : decode Y162.2.1 60 = .ok (.istore_n 1, 1) := by decide +kernel
theorem d162_61 : decode Y162.2.1 61 = .ok (.iload 5, 2) := by decide +kernel
theorem d162_63 : decode Y162.2.1 63 = .ok (.istore_n 2, 1) := by decide +kernel
theorem d162_64 : decode Y162.2.1 64 = .ok (.iinc 3 1, 3) := by decide +kernel
theorem d162_67 : decode Y162.2.1 67 = .ok (.goto (-61), 3) := by decide +kernel
theorem d162_70 : decode Y162.2.1 70 = .ok (.iload_n 1, 1) := by decide +kernel
theorem d162_71 : decode Y162.2.1 71 = .ok (.iconst (-1), 1) := by decide +kernel
theorem d162_72 : decode Y162.2.1 72 = .ok (.if_icmp .ne 6, 3) := by decide +kernel
theorem d162_75 : decode Y162.2.1 75 = .ok (.bipush (-2), 2) := by decide +kernel
theorem d162_77 : decode Y162.2.1 77 = .ok (.ireturn, 1) := by decide +kernel
theorem d162_78 : decode Y162.2.1 78 = .ok (.aload_n 0, 1) := by decide +kernel
theorem d162_79 : decode Y162.2.1 79 = .ok (.iload_n 2, 1) := by decide +kernel
theorem d162_80 : decode Y162.2.1 80 = .ok (.invokevirtual 157, 3) := by decide +kernel
theorem d162_83 : decode Y162.2.1 83 = .ok (.iload_n 1, 1) := by decide +kernel
theorem d162_84 : decode Y162.2.1 84 = .ok (.ireturn, 1) := by decide +kernel
noncomputable def L162_6 (d : Nat) (a0 : Nat) (x1 : Int32) (x2 : Int32) (x3 : Int32) (o4 : Option ts_V) (o5 : Option ts_V) (m : lt_m) : Option lt_r := lt_run d Y162 6 [some (.inr (.inr (some a0))), some (.inl x1), some (.inl x2), some (.inl x3), o4, o5] [] m
noncomputable def L162_51 (d : Nat) (a0 : Nat) (x1 : Int32) (x2 : Int32) (x3 : Int32) (x4 : Int32) (o5 : Option ts_V) (xt0 : Int32) (m : lt_m) : Option lt_r := lt_run d Y162 51 [some (.inr (.inr (some a0))), some (.inl x1), some (.inl x2), some (.inl x3), some (.inl x4), o5] [.inl xt0] m
theorem E162 (d : Nat) (a0 : Nat) (h0 : ts_sh a0 = (0, 11)) (m : lt_m) : lt_ev (d + 1) 162 [.inr (.inr (some a0))] m = L162_6 d a0 (-1 : Int32) (-1 : Int32) (0 : Int32) none none m := by
  refine Eq.trans (lt_enter2 (ls := [some (.inr (.inr (some a0))), none, none, none, none, none]) hY162 (Nat.le_of_ble_eq_true rfl) (by rfl)) ?_
  refine Eq.trans (li_iconst d162_0 ic_n1) ?_
  refine Eq.trans (li_istore_n (ls' := [some (.inr (.inr (some a0))), some (.inl (-1 : Int32)), none, none, none, none]) d162_1 (by decide) (by rfl)) ?_
  refine Eq.trans (li_iconst d162_2 ic_n1) ?_
  refine Eq.trans (li_istore_n (ls' := [some (.inr (.inr (some a0))), some (.inl (-1 : Int32)), some (.inl (-1 : Int32)), none, none, none]) d162_3 (by decide) (by rfl)) ?_
  refine Eq.trans (li_iconst d162_4 ic_0) ?_
  refine Eq.trans (li_istore_n (ls' := [some (.inr (.inr (some a0))), some (.inl (-1 : Int32)), some (.inl (-1 : Int32)), some (.inl (0 : Int32)), none, none]) d162_5 (by decide) (by rfl)) ?_
  rfl
theorem E162_6 (d : Nat) (a0 : Nat) (x1 : Int32) (x2 : Int32) (x3 : Int32) (o4 : Option ts_V) (o5 : Option ts_V) (h0 : ts_sh a0 = (0, 11)) (m : lt_m) : L162_6 d a0 x1 x2 x3 o4 o5 m = if (m.1 (a0 + 13) 5) ≤ x3 then (if ¬ x1 = (-1 : Int32) then (lt_cV (lt_ev d 75 [.inr (.inr (some a0)), .inl x2] m) (fun m1 => (some (some (.inl x1), m1)))) else (some (some (.inl (-2 : Int32)), m))) else (lt_cI (lt_ev d 94 [.inr (.inr (some (a0 + 13))), .inl x3] m) (fun v1 m2 => (if ¬ v1 = 0 then (lt_cI (lt_ev d 91 [.inr (.inr (some (a0 + 13))), .inl x3] m2) (fun v2 m3 => (lt_gd (¬ v1 = 0) (L162_51 d a0 x1 x2 x3 v1 (o5) (((1000 : Int32) * v2) / v1) m3)))) else (L162_51 d a0 x1 x2 x3 v1 (o5) (0 : Int32) m2)))) := by
  show lt_run d Y162 6 [some (.inr (.inr (some a0))), some (.inl x1), some (.inl x2), some (.inl x3), o4, o5] [] m = _
  refine Eq.trans (li_iload_n d162_6 (by rfl)) ?_
  refine Eq.trans (li_aload_n d162_7 (by rfl)) ?_
  refine Eq.trans (li_getr d162_8 fa_11_47 h0 rfl rfl rfl (by decide)) ?_
  refine Eq.trans (li_geti d162_11 fa_11_165 (sf_of h0 5 (by decide) (by decide)) rfl) ?_
  refine Eq.trans (li_icmp_ge (t := 70) d162_14 (by rfl)) ?_
  refine lt_ite (fun c1 => ?_) (fun c1 => ?_)
  · refine Eq.trans (li_iload_n d162_70 (by rfl)) ?_
    refine Eq.trans (li_iconst d162_71 ic_n1) ?_
    refine Eq.trans (li_icmp_ne (t := 78) d162_72 (by rfl)) ?_
    refine lt_ite (fun c2 => ?_) (fun c2 => ?_)
    · refine Eq.trans (li_aload_n d162_78 (by rfl)) ?_
      refine Eq.trans (li_iload_n d162_79 (by rfl)) ?_
      refine Eq.trans (li_ivV d162_80 ca_11_157 kd_75 kl_75 (by rfl) (by rfl) h0 (Nat.le_of_ble_eq_true rfl) (Nat.le_of_ble_eq_true rfl)) ?_
      refine lt_cV_c (fun m1 => ?_)
      refine Eq.trans (li_iload_n d162_83 (by rfl)) ?_
      exact li_iret d162_84 rfl
    · refine Eq.trans (li_bipush d162_75 bi_n2) ?_
      exact li_iret d162_77 rfl
  · refine Eq.trans (li_aload_n d162_17 (by rfl)) ?_
    refine Eq.trans (li_getr d162_18 fa_11_47 h0 rfl rfl rfl (by decide)) ?_
    refine Eq.trans (li_iload_n d162_21 (by rfl)) ?_
    refine Eq.trans (li_ivI d162_22 ca_11_185 kd_94 kl_94 (by rfl) (by rfl) (sf_of h0 5 (by decide) (by decide)) (Nat.le_of_ble_eq_true rfl) (Nat.le_of_ble_eq_true rfl)) ?_
    refine lt_cI_c (fun v1 m2 => ?_)
    refine Eq.trans (li_istore (ls' := [some (.inr (.inr (some a0))), some (.inl x1), some (.inl x2), some (.inl x3), some (.inl v1), o5]) d162_25 (by decide) (by rfl)) ?_
    refine Eq.trans (li_iload d162_27 (by rfl)) ?_
    refine Eq.trans (li_if_ne (t := 36) d162_29 (by rfl)) ?_
    refine lt_ite (fun c3 => ?_) (fun c3 => ?_)
    · refine Eq.trans (li_sipush d162_36 si_1000) ?_
      refine Eq.trans (li_aload_n d162_39 (by rfl)) ?_
      refine Eq.trans (li_getr d162_40 fa_11_47 h0 rfl rfl rfl (by decide)) ?_
      refine Eq.trans (li_iload_n d162_43 (by rfl)) ?_
      refine Eq.trans (li_ivI d162_44 ca_11_178 kd_91 kl_91 (by rfl) (by rfl) (sf_of h0 5 (by decide) (by decide)) (Nat.le_of_ble_eq_true rfl) (Nat.le_of_ble_eq_true rfl)) ?_
      refine lt_cI_c (fun v2 m3 => ?_)
      refine Eq.trans (li_imul d162_47) ?_
      refine Eq.trans (li_iload d162_48 (by rfl)) ?_
      refine Eq.trans (li_idiv d162_50) ?_
      refine lt_gd_c (fun g1 => ?_)
      rfl
    · refine Eq.trans (li_iconst d162_32 ic_0) ?_
      refine Eq.trans (li_goto (t := 51) d162_33 (by rfl)) ?_
      rfl
theorem E162_51 (d : Nat) (a0 : Nat) (x1 : Int32) (x2 : Int32) (x3 : Int32) (x4 : Int32) (o5 : Option ts_V) (xt0 : Int32)  (m : lt_m) : L162_51 d a0 x1 x2 x3 x4 o5 xt0 m = if xt0 ≤ x2 then (L162_6 d a0 x1 x2 (x3 + (1 : Int32)) (some (.inl x4)) (some (.inl xt0)) m) else (L162_6 d a0 x3 xt0 (x3 + (1 : Int32)) (some (.inl x4)) (some (.inl xt0)) m) := by
  show lt_run d Y162 51 [some (.inr (.inr (some a0))), some (.inl x1), some (.inl x2), some (.inl x3), some (.inl x4), o5] [.inl xt0] m = _
  refine Eq.trans (li_istore (ls' := [some (.inr (.inr (some a0))), some (.inl x1), some (.inl x2), some (.inl x3), some (.inl x4), some (.inl xt0)]) d162_51 (by decide) (by rfl)) ?_
  refine Eq.trans (li_iload d162_53 (by rfl)) ?_
  refine Eq.trans (li_iload_n d162_55 (by rfl)) ?_
  refine Eq.trans (li_icmp_le (t := 64) d162_56 (by rfl)) ?_
  refine lt_ite (fun c1 => ?_) (fun c1 => ?_)
  · refine Eq.trans (li_iinc (ls' := [some (.inr (.inr (some a0))), some (.inl x1), some (.inl x2), some (.inl (x3 + (1 : Int32))), some (.inl x4), some (.inl xt0)]) d162_64 (by rfl) (by decide) ic_1 (by rfl)) ?_
    refine Eq.trans (li_goto (t := 6) d162_67 (by rfl)) ?_
    rfl
  · refine Eq.trans (li_iload_n d162_59 (by rfl)) ?_
    refine Eq.trans (li_istore_n (ls' := [some (.inr (.inr (some a0))), some (.inl x3), some (.inl x2), some (.inl x3), some (.inl x4), some (.inl xt0)]) d162_60 (by decide) (by rfl)) ?_
    refine Eq.trans (li_iload d162_61 (by rfl)) ?_
    refine Eq.trans (li_istore_n (ls' := [some (.inr (.inr (some a0))), some (.inl x3), some (.inl xt0), some (.inl x3), some (.inl x4), some (.inl xt0)]) d162_63 (by decide) (by rfl)) ?_
    refine Eq.trans (li_iinc (ls' := [some (.inr (.inr (some a0))), some (.inl x3), some (.inl xt0), some (.inl (x3 + (1 : Int32))), some (.inl x4), some (.inl xt0)]) d162_64 (by rfl) (by decide) ic_1 (by rfl)) ?_
    refine Eq.trans (li_goto (t := 6) d162_67 (by rfl)) ?_
    rfl
/-! TransitSeals.book(II)I -/
theorem d163_0 : decode Y163.2.1 0 = .ok (.aload_n 0, 1) := by decide +kernel
theorem d163_1 : decode Y163.2.1 1 = .ok (.getfield 47, 3) := by decide +kernel
theorem d163_4 : decode Y163.2.1 4 = .ok (.getfield 377, 3) := by decide +kernel
theorem d163_7 : decode Y163.2.1 7 = .ok (.iload_n 1, 1) := by decide +kernel
theorem d163_8 : decode Y163.2.1 8 = .ok (.iload_n 2, 1) := by decide +kernel
theorem d163_9 : decode Y163.2.1 9 = .ok (.invokevirtual 381, 3) := by decide +kernel
theorem d163_12 : decode Y163.2.1 12 = .ok (.ireturn, 1) := by decide +kernel
theorem E163 (d : Nat) (a0 : Nat) (x1 : Int32) (x2 : Int32) (h0 : ts_sh a0 = (0, 11)) (m : lt_m) : lt_ev (d + 1) 163 [.inr (.inr (some a0)), .inl x1, .inl x2] m = lt_cI (lt_ev d 164 [.inr (.inr (some ((a0 + 13) + 4))), .inl x1, .inl x2] m) (fun v1 m1 => (some (some (.inl v1), m1))) := by
  refine Eq.trans (lt_enter2 (ls := [some (.inr (.inr (some a0))), some (.inl x1), some (.inl x2)]) hY163 (Nat.le_of_ble_eq_true rfl) (by rfl)) ?_
  refine Eq.trans (li_aload_n d163_0 (by rfl)) ?_
  refine Eq.trans (li_getr d163_1 fa_11_47 h0 rfl rfl rfl (by decide)) ?_
  refine Eq.trans (li_getr d163_4 fa_11_377 (sf_of h0 5 (by decide) (by decide)) rfl rfl rfl (by decide)) ?_
  refine Eq.trans (li_iload_n d163_7 (by rfl)) ?_
  refine Eq.trans (li_iload_n d163_8 (by rfl)) ?_
  refine Eq.trans (li_ivI d163_9 ca_11_381 kd_164 kl_164 (by rfl) (by rfl) (sf_of (sf_of h0 5 (by decide) (by decide)) 3 (by decide) (by decide)) (Nat.le_of_ble_eq_true rfl) (Nat.le_of_ble_eq_true rfl)) ?_
  refine lt_cI_c (fun v1 m1 => ?_)
  exact li_iret d163_12 rfl
/-! TransitSeals$Book.read(II)I -/
theorem d164_0 : decode Y164.2.1 0 = .ok (.iload_n 1, 1) := by decide +kernel
theorem d164_1 : decode Y164.2.1 1 = .ok (.ifCond .lt 11, 3) := by decide +kernel
theorem d164_4 : decode Y164.2.1 4 = .ok (.iload_n 1, 1) := by decide +kernel
theorem d164_5 : decode Y164.2.1 5 = .ok (.aload_n 0, 1) := by decide +kernel
theorem d164_6 : decode Y164.2.1 6 = .ok (.invokevirtual 35, 3) := by decide +kernel
theorem d164_9 : decode Y164.2.1 9 = .ok (.if_icmp .lt 5, 3) := by decide +kernel
theorem d164_12 : decode Y164.2.1 12 = .ok (.iconst (-1), 1) := by decide +kernel
theorem d164_13 : decode Y164.2.1 13 = .ok (.ireturn, 1) := by decide +kernel
theorem d164_14 : decode Y164.2.1 14 = .ok (.aload_n 0, 1) := by decide +kernel
theorem d164_15 : decode Y164.2.1 15 = .ok (.getfield 21, 3) := by decide +kernel
theorem d164_18 : decode Y164.2.1 18 = .ok (.iconst 1, 1) := by decide +kernel
theorem d164_19 : decode Y164.2.1 19 = .ok (.isub, 1) := by decide +kernel
theorem d164_20 : decode Y164.2.1 20 = .ok (.iload_n 1, 1) := by decide +kernel
theorem d164_21 : decode Y164.2.1 21 = .ok (.isub, 1) := by decide +kernel
theorem d164_22 : decode Y164.2.1 22 = .ok (.bipush 30, 2) := by decide +kernel
theorem d164_24 : decode Y164.2.1 24 = .ok (.irem, 1) := by decide +kernel
theorem d164_25 : decode Y164.2.1 25 = .ok (.istore_n 3, 1) := by decide +kernel
theorem d164_26 : decode Y164.2.1 26 = .ok (.iload_n 2, 1) := by decide +kernel
theorem d164_27 : decode Y164.2.1 27 = .ok (.tableswitch 52 0 2 #[25, 34, 43], 25) := by decide +kernel
theorem d164_52 : decode Y164.2.1 52 = .ok (.aload_n 0, 1) := by decide +kernel
theorem d164_53 : decode Y164.2.1 53 = .ok (.getfield 9, 3) := by decide +kernel
theorem d164_56 : decode Y164.2.1 56 = .ok (.iload_n 3, 1) := by decide +kernel
theorem d164_57 : decode Y164.2.1 57 = .ok (.invokestatic 39, 3) := by decide +kernel
theorem d164_60 : decode Y164.2.1 60 = .ok (.ireturn, 1) := by decide +kernel
theorem d164_61 : decode Y164.2.1 61 = .ok (.aload_n 0, 1) := by decide +kernel
theorem d164_62 : decode Y164.2.1 62 = .ok (.getfield 15, 3) := by decide +kernel
theorem d164_65 : decode Y164.2.1 65 = .ok (.iload_n 3, 1) := by decide +kernel
theorem d164_66 : decode Y164.2.1 66 = .ok (.invokestatic 39, 3) := by decide +kernel
theorem d164_69 : decode Y164.2.1 69 = .ok (.ireturn, 1) := by decide +kernel
theorem d164_70 : decode Y164.2.1 70 = .ok (.aload_n 0, 1) := by decide +kernel
theorem d164_71 : decode Y164.2.1 71 = .ok (.getfield 18, 3) := by decide +kernel
theorem d164_74 : decode Y164.2.1 74 = .ok (.iload_n 3, 1) := by decide +kernel
theorem d164_75 : decode Y164.2.1 75 = .ok (.invokestatic 39, 3) := by decide +kernel
theorem d164_78 : decode Y164.2.1 78 = .ok (.ireturn, 1) := by decide +kernel
theorem d164_79 : decode Y164.2.1 79 = .ok (.iconst (-1), 1) := by decide +kernel
theorem d164_80 : decode Y164.2.1 80 = .ok (.ireturn, 1) := by decide +kernel
theorem E164 (d : Nat) (a0 : Nat) (x1 : Int32) (x2 : Int32) (h0 : ts_sh a0 = (0, 0)) (m : lt_m) : lt_ev (d + 1) 164 [.inr (.inr (some a0)), .inl x1, .inl x2] m = if x1 < 0 then (some (some (.inl (-1 : Int32)), m)) else (lt_cI (lt_ev d 165 [.inr (.inr (some a0))] m) (fun v1 m1 => (if x1 < v1 then (lt_sw x2 [(lt_cI (lt_ev d 16 [.inr (.inr (some (a0 + 1))), .inl ((((m1.1 a0 3) - (1 : Int32)) - x1) - (((m1.1 a0 3) - (1 : Int32)) - x1) / (30 : Int32) * (30 : Int32))] m1) (fun v2 m2 => (some (some (.inl v2), m2)))), (lt_cI (lt_ev d 16 [.inr (.inr (some (a0 + 2))), .inl ((((m1.1 a0 3) - (1 : Int32)) - x1) - (((m1.1 a0 3) - (1 : Int32)) - x1) / (30 : Int32) * (30 : Int32))] m1) (fun v3 m3 => (some (some (.inl v3), m3)))), (lt_cI (lt_ev d 16 [.inr (.inr (some (a0 + 3))), .inl ((((m1.1 a0 3) - (1 : Int32)) - x1) - (((m1.1 a0 3) - (1 : Int32)) - x1) / (30 : Int32) * (30 : Int32))] m1) (fun v4 m4 => (some (some (.inl v4), m4))))] (some (some (.inl (-1 : Int32)), m1))) else (some (some (.inl (-1 : Int32)), m1))))) := by
  refine Eq.trans (lt_enter2 (ls := [some (.inr (.inr (some a0))), some (.inl x1), some (.inl x2), none]) hY164 (Nat.le_of_ble_eq_true rfl) (by rfl)) ?_
  refine Eq.trans (li_iload_n d164_0 (by rfl)) ?_
  refine Eq.trans (li_if_lt (t := 12) d164_1 (by rfl)) ?_
  refine lt_ite (fun c1 => ?_) (fun c1 => ?_)
  · refine Eq.trans (li_iconst d164_12 ic_n1) ?_
    exact li_iret d164_13 rfl
  · refine Eq.trans (li_iload_n d164_4 (by rfl)) ?_
    refine Eq.trans (li_aload_n d164_5 (by rfl)) ?_
    refine Eq.trans (li_ivI d164_6 ca_0_35 kd_165 kl_165 (by rfl) (by rfl) h0 (Nat.le_of_ble_eq_true rfl) (Nat.le_of_ble_eq_true rfl)) ?_
    refine lt_cI_c (fun v1 m1 => ?_)
    refine Eq.trans (li_icmp_lt (t := 14) d164_9 (by rfl)) ?_
    refine lt_ite (fun c2 => ?_) (fun c2 => ?_)
    · refine Eq.trans (li_aload_n d164_14 (by rfl)) ?_
      refine Eq.trans (li_geti d164_15 fa_0_21 h0 rfl) ?_
      refine Eq.trans (li_iconst d164_18 ic_1) ?_
      refine Eq.trans (li_isub d164_19) ?_
      refine Eq.trans (li_iload_n d164_20 (by rfl)) ?_
      refine Eq.trans (li_isub d164_21) ?_
      refine Eq.trans (li_bipush d164_22 bi_30) ?_
      refine Eq.trans (li_irem d164_24) ?_
      refine Eq.trans (lt_gd_t (by decide)) ?_
      refine Eq.trans (li_istore_n (ls' := [some (.inr (.inr (some a0))), some (.inl x1), some (.inl x2), some (.inl ((((m1.1 a0 3) - (1 : Int32)) - x1) - (((m1.1 a0 3) - (1 : Int32)) - x1) / (30 : Int32) * (30 : Int32)))]) d164_25 (by decide) (by rfl)) ?_
      refine Eq.trans (li_iload_n d164_26 (by rfl)) ?_
      refine Eq.trans (li_tsw (n := 2) (td := 79) (ts := [52, 61, 70]) d164_27 (by decide) (by decide) (by rfl)) ?_
      refine lt_sw_c ?_ ?_
      · simp only [List.map_cons, List.map_nil]
        refine lt_l2 ?_ (lt_l2 ?_ (lt_l2 ?_ (rfl)))
        · refine Eq.trans (li_aload_n d164_52 (by rfl)) ?_
          refine Eq.trans (li_getr d164_53 fa_0_9 h0 rfl rfl rfl (by decide)) ?_
          refine Eq.trans (li_iload_n d164_56 (by rfl)) ?_
          refine Eq.trans (li_isI d164_57 bi_0_39 ca_0_39 kd_16 (by rfl) (by rfl) (Nat.le_of_ble_eq_true rfl) (Nat.le_of_ble_eq_true rfl)) ?_
          refine lt_cI_c (fun v2 m2 => ?_)
          exact li_iret d164_60 rfl
        · refine Eq.trans (li_aload_n d164_61 (by rfl)) ?_
          refine Eq.trans (li_getr d164_62 fa_0_15 h0 rfl rfl rfl (by decide)) ?_
          refine Eq.trans (li_iload_n d164_65 (by rfl)) ?_
          refine Eq.trans (li_isI d164_66 bi_0_39 ca_0_39 kd_16 (by rfl) (by rfl) (Nat.le_of_ble_eq_true rfl) (Nat.le_of_ble_eq_true rfl)) ?_
          refine lt_cI_c (fun v3 m3 => ?_)
          exact li_iret d164_69 rfl
        · refine Eq.trans (li_aload_n d164_70 (by rfl)) ?_
          refine Eq.trans (li_getr d164_71 fa_0_18 h0 rfl rfl rfl (by decide)) ?_
          refine Eq.trans (li_iload_n d164_74 (by rfl)) ?_
          refine Eq.trans (li_isI d164_75 bi_0_39 ca_0_39 kd_16 (by rfl) (by rfl) (Nat.le_of_ble_eq_true rfl) (Nat.le_of_ble_eq_true rfl)) ?_
          refine lt_cI_c (fun v4 m4 => ?_)
          exact li_iret d164_78 rfl
      · refine Eq.trans (li_iconst d164_79 ic_n1) ?_
        exact li_iret d164_80 rfl
    · refine Eq.trans (li_iconst d164_12 ic_n1) ?_
      exact li_iret d164_13 rfl
/-! TransitSeals$Book.size()I -/
theorem d165_0 : decode Y165.2.1 0 = .ok (.aload_n 0, 1) := by decide +kernel
theorem d165_1 : decode Y165.2.1 1 = .ok (.getfield 21, 3) := by decide +kernel
theorem d165_4 : decode Y165.2.1 4 = .ok (.bipush 30, 2) := by decide +kernel
theorem d165_6 : decode Y165.2.1 6 = .ok (.invokestatic 25, 3) := by decide +kernel
theorem d165_9 : decode Y165.2.1 9 = .ok (.ireturn, 1) := by decide +kernel
theorem E165 (d : Nat) (a0 : Nat) (h0 : ts_sh a0 = (0, 0)) (m : lt_m) : lt_ev (d + 1) 165 [.inr (.inr (some a0))] m = some (some (.inl (lm_min (m.1 a0 3) (30 : Int32))), m) := by
  refine Eq.trans (lt_enter2 (ls := [some (.inr (.inr (some a0)))]) hY165 (Nat.le_of_ble_eq_true rfl) (by rfl)) ?_
  refine Eq.trans (li_aload_n d165_0 (by rfl)) ?_
  refine Eq.trans (li_geti d165_1 fa_0_21 h0 rfl) ?_
  refine Eq.trans (li_bipush d165_4 bi_30) ?_
  refine Eq.trans (li_min d165_6 bi_0_25 (Nat.le_of_ble_eq_true rfl)) ?_
  exact li_iret d165_9 rfl
/-! TransitSeals.written(I)I -/
theorem d166_0 : decode Y166.2.1 0 = .ok (.iload_n 1, 1) := by decide +kernel
theorem d166_1 : decode Y166.2.1 1 = .ok (.iconst (-1), 1) := by decide +kernel
theorem d166_2 : decode Y166.2.1 2 = .ok (.if_icmp .ne 16, 3) := by decide +kernel
theorem d166_5 : decode Y166.2.1 5 = .ok (.aload_n 0, 1) := by decide +kernel
theorem d166_6 : decode Y166.2.1 6 = .ok (.getfield 61, 3) := by decide +kernel
theorem d166_9 : decode Y166.2.1 9 = .ok (.getfield 386, 3) := by decide +kernel
theorem d166_12 : decode Y166.2.1 12 = .ok (.invokevirtual 72, 3) := by decide +kernel
theorem d166_15 : decode Y166.2.1 15 = .ok (.goto 14, 3) := by decide +kernel
theorem d166_18 : decode Y166.2.1 18 = .ok (.aload_n 0, 1) := by decide +kernel
theorem d166_19 : decode Y166.2.1 19 = .ok (.getfield 61, 3) := by decide +kernel
theorem d166_22 : decode Y166.2.1 22 = .ok (.getfield 386, 3) := by decide +kernel
theorem d166_25 : decode Y166.2.1 25 = .ok (.iload_n 1, 1) := by decide +kernel
theorem d166_26 : decode Y166.2.1 26 = .ok (.invokevirtual 389, 3) := by decide +kernel
theorem d166_29 : decode Y166.2.1 29 = .ok (.ireturn, 1) := by decide +kernel
theorem E166 (d : Nat) (a0 : Nat) (x1 : Int32) (h0 : ts_sh a0 = (0, 11)) (m : lt_m) : lt_ev (d + 1) 166 [.inr (.inr (some a0)), .inl x1] m = if ¬ x1 = (-1 : Int32) then (lt_gd (ts_sh (m.2.2.1) = (0, 5)) (lt_cI (lt_ev d 36 [.inr (.inr (some ((m.2.2.1) + 6))), .inl x1] m) (fun v1 m1 => (some (some (.inl v1), m1))))) else (lt_gd (ts_sh (m.2.2.1) = (0, 5)) (lt_cI (lt_ev d 27 [.inr (.inr (some ((m.2.2.1) + 6)))] m) (fun v2 m2 => (some (some (.inl v2), m2))))) := by
  refine Eq.trans (lt_enter2 (ls := [some (.inr (.inr (some a0))), some (.inl x1)]) hY166 (Nat.le_of_ble_eq_true rfl) (by rfl)) ?_
  refine Eq.trans (li_iload_n d166_0 (by rfl)) ?_
  refine Eq.trans (li_iconst d166_1 ic_n1) ?_
  refine Eq.trans (li_icmp_ne (t := 18) d166_2 (by rfl)) ?_
  refine lt_ite (fun c1 => ?_) (fun c1 => ?_)
  · refine Eq.trans (li_aload_n d166_18 (by rfl)) ?_
    refine Eq.trans (li_getnet d166_19 fa_11_61 h0) ?_
    refine Eq.trans (li_gget d166_22 fa_11_386) ?_
    refine lt_gd_c (fun g1 => ?_)
    refine Eq.trans (li_getr d166_22 fa_11_386 g1 rfl rfl rfl (by decide)) ?_
    refine Eq.trans (li_iload_n d166_25 (by rfl)) ?_
    refine Eq.trans (li_ivI d166_26 ca_11_389 kd_36 kl_36 (by rfl) (by rfl) (sf_of g1 5 (by decide) (by decide)) (Nat.le_of_ble_eq_true rfl) (Nat.le_of_ble_eq_true rfl)) ?_
    refine lt_cI_c (fun v1 m1 => ?_)
    exact li_iret d166_29 rfl
  · refine Eq.trans (li_aload_n d166_5 (by rfl)) ?_
    refine Eq.trans (li_getnet d166_6 fa_11_61 h0) ?_
    refine Eq.trans (li_gget d166_9 fa_11_386) ?_
    refine lt_gd_c (fun g2 => ?_)
    refine Eq.trans (li_getr d166_9 fa_11_386 g2 rfl rfl rfl (by decide)) ?_
    refine Eq.trans (li_ivI d166_12 ca_11_72 kd_27 kl_27 (by rfl) (by rfl) (sf_of g2 5 (by decide) (by decide)) (Nat.le_of_ble_eq_true rfl) (Nat.le_of_ble_eq_true rfl)) ?_
    refine lt_cI_c (fun v2 m2 => ?_)
    refine Eq.trans (li_goto (t := 29) d166_15 (by rfl)) ?_
    exact li_iret d166_29 rfl
/-! TransitSeals.undo()I -/
theorem d167_0 : decode Y167.2.1 0 = .ok (.aload_n 0, 1) := by decide +kernel
theorem d167_1 : decode Y167.2.1 1 = .ok (.getfield 54, 3) := by decide +kernel
theorem d167_4 : decode Y167.2.1 4 = .ok (.aload_n 0, 1) := by decide +kernel
theorem d167_5 : decode Y167.2.1 5 = .ok (.getfield 47, 3) := by decide +kernel
theorem d167_8 : decode Y167.2.1 8 = .ok (.invokevirtual 392, 3) := by decide +kernel
theorem d167_11 : decode Y167.2.1 11 = .ok (.ifCond .eq 13, 3) := by decide +kernel
theorem d167_14 : decode Y167.2.1 14 = .ok (.aload_n 0, 1) := by decide +kernel
theorem d167_15 : decode Y167.2.1 15 = .ok (.getfield 54, 3) := by decide +kernel
theorem d167_18 : decode Y167.2.1 18 = .ok (.getfield 396, 3) := by decide +kernel
theorem d167_21 : decode Y167.2.1 21 = .ok (.goto 5, 3) := by decide +kernel
theorem d167_24 : decode Y167.2.1 24 = .ok (.bipush (-2), 2) := by decide +kernel
theorem d167_26 : decode Y167.2.1 26 = .ok (.ireturn, 1) := by decide +kernel
theorem E167 (d : Nat) (a0 : Nat) (h0 : ts_sh a0 = (0, 11)) (m : lt_m) : lt_ev (d + 1) 167 [.inr (.inr (some a0))] m = lt_cI (lt_ev d 168 [.inr (.inr (some (a0 + 81))), .inr (.inr (some (a0 + 13)))] m) (fun v1 m1 => (if v1 = 0 then (some (some (.inl (-2 : Int32)), m1)) else (some (some (.inl (m1.1 (a0 + 81) 4)), m1)))) := by
  refine Eq.trans (lt_enter2 (ls := [some (.inr (.inr (some a0)))]) hY167 (Nat.le_of_ble_eq_true rfl) (by rfl)) ?_
  refine Eq.trans (li_aload_n d167_0 (by rfl)) ?_
  refine Eq.trans (li_getr d167_1 fa_11_54 h0 rfl rfl rfl (by decide)) ?_
  refine Eq.trans (li_aload_n d167_4 (by rfl)) ?_
  refine Eq.trans (li_getr d167_5 fa_11_47 h0 rfl rfl rfl (by decide)) ?_
  refine Eq.trans (li_ivI d167_8 ca_11_392 kd_168 kl_168 (by rfl) (by rfl) (sf_of h0 6 (by decide) (by decide)) (Nat.le_of_ble_eq_true rfl) (Nat.le_of_ble_eq_true rfl)) ?_
  refine lt_cI_c (fun v1 m1 => ?_)
  refine Eq.trans (li_if_eq (t := 24) d167_11 (by rfl)) ?_
  refine lt_ite (fun c1 => ?_) (fun c1 => ?_)
  · refine Eq.trans (li_bipush d167_24 bi_n2) ?_
    exact li_iret d167_26 rfl
  · refine Eq.trans (li_aload_n d167_14 (by rfl)) ?_
    refine Eq.trans (li_getr d167_15 fa_11_54 h0 rfl rfl rfl (by decide)) ?_
    refine Eq.trans (li_geti d167_18 fa_11_396 (sf_of h0 6 (by decide) (by decide)) rfl) ?_
    refine Eq.trans (li_goto (t := 26) d167_21 (by rfl)) ?_
    exact li_iret d167_26 rfl
/-! TransitSeals$History.takeBack(LTransitSeals$Ledger;)Z -/
theorem d168_0 : decode Y168.2.1 0 = .ok (.aload_n 0, 1) := by decide +kernel
theorem d168_1 : decode Y168.2.1 1 = .ok (.invokevirtual 39, 3) := by decide +kernel
theorem d168_4 : decode Y168.2.1 4 = .ok (.astore_n 2, 1) := by decide +kernel
theorem d168_5 : decode Y168.2.1 5 = .ok (.aload_n 0, 1) := by decide +kernel
theorem d168_6 : decode Y168.2.1 6 = .ok (.getfield 22, 3) := by decide +kernel
theorem d168_9 : decode Y168.2.1 9 = .ok (.ifCond .eq 7, 3) := by decide +kernel
theorem d168_12 : decode Y168.2.1 12 = .ok (.aload_n 2, 1) := by decide +kernel
theorem d168_13 : decode Y168.2.1 13 = .ok (.ifnonnull 5, 3) := by decide +kernel
theorem d168_16 : decode Y168.2.1 16 = .ok (.iconst 0, 1) := by decide +kernel
theorem d168_17 : decode Y168.2.1 17 = .ok (.ireturn, 1) := by decide +kernel
theorem d168_18 : decode Y168.2.1 18 = .ok (.aload_n 1, 1) := by decide +kernel
theorem d168_19 : decode Y168.2.1 19 = .ok (.aload_n 2, 1) := by decide +kernel
theorem d168_20 : decode Y168.2.1 20 = .ok (.invokevirtual 43, 3) := by decide +kernel
theorem d168_23 : decode Y168.2.1 23 = .ok (.aload_n 0, 1) := by decide +kernel
theorem d168_24 : decode Y168.2.1 24 = .ok (.aload_n 0, 1) := by decide +kernel
theorem d168_25 : decode Y168.2.1 25 = .ok (.getfield 30, 3) := by decide +kernel
theorem d168_28 : decode Y168.2.1 28 = .ok (.bipush 8, 2) := by decide +kernel
theorem d168_30 : decode Y168.2.1 30 = .ok (.iadd, 1) := by decide +kernel
theorem d168_31 : decode Y168.2.1 31 = .ok (.iconst 1, 1) := by decide +kernel
theorem d168_32 : decode Y168.2.1 32 = .ok (.isub, 1) := by decide +kernel
theorem d168_33 : decode Y168.2.1 33 = .ok (.bipush 8, 2) := by decide +kernel
theorem d168_35 : decode Y168.2.1 35 = .ok (.irem, 1) := by decide +kernel
theorem d168_36 : decode Y168.2.1 36 = .ok (.putfield 30, 3) := by decide +kernel
theorem d168_39 : decode Y168.2.1 39 = .ok (.aload_n 0, 1) := by decide +kernel
theorem d168_40 : decode Y168.2.1 40 = .ok (.dup, 1) := by decide +kernel
theorem d168_41 : decode Y168.2.1 41 = .ok (.getfield 22, 3) := by decide +kernel
theorem d168_44 : decode Y168.2.1 44 = .ok (.iconst 1, 1) := by decide +kernel
theorem d168_45 : decode Y168.2.1 45 = .ok (.isub, 1) := by decide +kernel
theorem d168_46 : decode Y168.2.1 46 = .ok (.putfield 22, 3) := by decide +kernel
theorem d168_49 : decode Y168.2.1 49 = .ok (.iconst 1, 1) := by decide +kernel
theorem d168_50 : decode Y168.2.1 50 = .ok (.ireturn, 1) := by decide +kernel
theorem E168 (d : Nat) (a0 : Nat) (a1 : Nat) (h0 : ts_sh a0 = (0, 1)) (h1 : ts_sh a1 = (0, 2)) (m : lt_m) : lt_ev (d + 1) 168 [.inr (.inr (some a0)), .inr (.inr (some a1))] m = lt_cR (lt_ev d 82 [.inr (.inr (some a0))] m) (fun v1 m1 => (if (m1.1 a0 4) = 0 then (some (some (.inl (0 : Int32)), m1)) else (lt_nl v1 (some (some (.inl (0 : Int32)), m1)) (fun q1 => (lt_cV (lt_ev d 83 [.inr (.inr (some a1)), .inr (.inr (some q1))] m1) (fun m2 => (lt_let (lm_i (lm_i m2 a0 3 ((((m2.1 a0 3) + (8 : Int32)) - (1 : Int32)) - (((m2.1 a0 3) + (8 : Int32)) - (1 : Int32)) / (8 : Int32) * (8 : Int32))) a0 4 (((lm_i m2 a0 3 ((((m2.1 a0 3) + (8 : Int32)) - (1 : Int32)) - (((m2.1 a0 3) + (8 : Int32)) - (1 : Int32)) / (8 : Int32) * (8 : Int32))).1 a0 4) - (1 : Int32))) (fun m3 => (some (some (.inl (1 : Int32)), m3)))))))))) := by
  refine Eq.trans (lt_enter2 (ls := [some (.inr (.inr (some a0))), some (.inr (.inr (some a1))), none]) hY168 (Nat.le_of_ble_eq_true rfl) (by rfl)) ?_
  refine Eq.trans (li_aload_n d168_0 (by rfl)) ?_
  refine Eq.trans (li_ivR d168_1 ca_1_39 kd_82 kl_82 (by rfl) (by rfl) h0 (Nat.le_of_ble_eq_true rfl) (Nat.le_of_ble_eq_true rfl)) ?_
  refine lt_cR_c (fun v1 m1 => ?_)
  refine Eq.trans (li_astore_n (ls' := [some (.inr (.inr (some a0))), some (.inr (.inr (some a1))), some (.inr (.inr v1))]) d168_4 (by decide) (by rfl)) ?_
  refine Eq.trans (li_aload_n d168_5 (by rfl)) ?_
  refine Eq.trans (li_geti d168_6 fa_1_22 h0 rfl) ?_
  refine Eq.trans (li_if_eq (t := 16) d168_9 (by rfl)) ?_
  refine lt_ite (fun c1 => ?_) (fun c1 => ?_)
  · refine Eq.trans (li_iconst d168_16 ic_0) ?_
    exact li_zret d168_17 rfl (by decide)
  · refine Eq.trans (li_aload_n d168_12 (by rfl)) ?_
    refine lt_nl_x (F := fun oz => lt_run d Y168 13 [some (.inr (.inr (some a0))), some (.inr (.inr (some a1))), some (.inr (.inr oz))] [.inr (.inr oz)] m1) ?_ (fun q1 => ?_)
    · refine Eq.trans (li_ifnonnull_n d168_13) ?_
      refine Eq.trans (li_iconst d168_16 ic_0) ?_
      exact li_zret d168_17 rfl (by decide)
    · refine Eq.trans (li_ifnonnull_s (t := 18) d168_13 (by rfl)) ?_
      refine Eq.trans (li_aload_n d168_18 (by rfl)) ?_
      refine Eq.trans (li_aload_n d168_19 (by rfl)) ?_
      refine Eq.trans (li_ivV d168_20 ca_1_43 kd_83 kl_83 (by rfl) (by rfl) h1 (Nat.le_of_ble_eq_true rfl) (Nat.le_of_ble_eq_true rfl)) ?_
      refine lt_cV_c (fun m2 => ?_)
      refine Eq.trans (li_aload_n d168_23 (by rfl)) ?_
      refine Eq.trans (li_aload_n d168_24 (by rfl)) ?_
      refine Eq.trans (li_geti d168_25 fa_1_30 h0 rfl) ?_
      refine Eq.trans (li_bipush d168_28 bi_8) ?_
      refine Eq.trans (li_iadd d168_30) ?_
      refine Eq.trans (li_iconst d168_31 ic_1) ?_
      refine Eq.trans (li_isub d168_32) ?_
      refine Eq.trans (li_bipush d168_33 bi_8) ?_
      refine Eq.trans (li_irem d168_35) ?_
      refine Eq.trans (lt_gd_t (by decide)) ?_
      refine Eq.trans (li_puti d168_36 fa_1_30 h0 rfl rfl) ?_
      refine Eq.trans (li_aload_n d168_39 (by rfl)) ?_
      refine Eq.trans (li_dup d168_40 rfl) ?_
      refine Eq.trans (li_geti d168_41 fa_1_22 h0 rfl) ?_
      refine Eq.trans (li_iconst d168_44 ic_1) ?_
      refine Eq.trans (li_isub d168_45) ?_
      refine Eq.trans (li_puti d168_46 fa_1_22 h0 rfl rfl) ?_
      refine lt_let_x (F := fun m3 => lt_run d Y168 49 [some (.inr (.inr (some a0))), some (.inr (.inr (some a1))), some (.inr (.inr (some q1)))] [] m3) (fun m3 => ?_)
      refine Eq.trans (li_iconst d168_49 ic_1) ?_
      exact li_zret d168_50 rfl (by decide)
/-! TransitSeals.keeps()I -/
theorem d169_0 : decode Y169.2.1 0 = .ok (.aload_n 0, 1) := by decide +kernel
theorem d169_1 : decode Y169.2.1 1 = .ok (.getfield 54, 3) := by decide +kernel
theorem d169_4 : decode Y169.2.1 4 = .ok (.aload_n 0, 1) := by decide +kernel
theorem d169_5 : decode Y169.2.1 5 = .ok (.getfield 47, 3) := by decide +kernel
theorem d169_8 : decode Y169.2.1 8 = .ok (.invokevirtual 399, 3) := by decide +kernel
theorem d169_11 : decode Y169.2.1 11 = .ok (.aload_n 0, 1) := by decide +kernel
theorem d169_12 : decode Y169.2.1 12 = .ok (.getfield 47, 3) := by decide +kernel
theorem d169_15 : decode Y169.2.1 15 = .ok (.getfield 223, 3) := by decide +kernel
theorem d169_18 : decode Y169.2.1 18 = .ok (.ireturn, 1) := by decide +kernel
theorem E169 (d : Nat) (a0 : Nat) (h0 : ts_sh a0 = (0, 11)) (m : lt_m) : lt_ev (d + 1) 169 [.inr (.inr (some a0))] m = lt_cV (lt_ev d 170 [.inr (.inr (some (a0 + 81))), .inr (.inr (some (a0 + 13)))] m) (fun m1 => (some (some (.inl (m1.1 (a0 + 13) 4)), m1))) := by
  refine Eq.trans (lt_enter2 (ls := [some (.inr (.inr (some a0)))]) hY169 (Nat.le_of_ble_eq_true rfl) (by rfl)) ?_
  refine Eq.trans (li_aload_n d169_0 (by rfl)) ?_
  refine Eq.trans (li_getr d169_1 fa_11_54 h0 rfl rfl rfl (by decide)) ?_
  refine Eq.trans (li_aload_n d169_4 (by rfl)) ?_
  refine Eq.trans (li_getr d169_5 fa_11_47 h0 rfl rfl rfl (by decide)) ?_
  refine Eq.trans (li_ivV d169_8 ca_11_399 kd_170 kl_170 (by rfl) (by rfl) (sf_of h0 6 (by decide) (by decide)) (Nat.le_of_ble_eq_true rfl) (Nat.le_of_ble_eq_true rfl)) ?_
  refine lt_cV_c (fun m1 => ?_)
  refine Eq.trans (li_aload_n d169_11 (by rfl)) ?_
  refine Eq.trans (li_getr d169_12 fa_11_47 h0 rfl rfl rfl (by decide)) ?_
  refine Eq.trans (li_geti d169_15 fa_11_223 (sf_of h0 5 (by decide) (by decide)) rfl) ?_
  exact li_iret d169_18 rfl
/-! TransitSeals$History.keep(LTransitSeals$Ledger;)V -/
theorem d170_0 : decode Y170.2.1 0 = .ok (.aload_n 0, 1) := by decide +kernel
theorem d170_1 : decode Y170.2.1 1 = .ok (.getfield 18, 3) := by decide +kernel
theorem d170_4 : decode Y170.2.1 4 = .ok (.aload_n 1, 1) := by decide +kernel
theorem d170_5 : decode Y170.2.1 5 = .ok (.invokevirtual 43, 3) := by decide +kernel
theorem d170_8 : decode Y170.2.1 8 = .ok (.aload_n 0, 1) := by decide +kernel
theorem d170_9 : decode Y170.2.1 9 = .ok (.iconst 1, 1) := by decide +kernel
theorem d170_10 : decode Y170.2.1 10 = .ok (.putfield 26, 3) := by decide +kernel
theorem d170_13 : decode Y170.2.1 13 = .ok (.return_, 1) := by decide +kernel
theorem E170 (d : Nat) (a0 : Nat) (a1 : Nat) (h0 : ts_sh a0 = (0, 1)) (h1 : ts_sh a1 = (0, 2)) (m : lt_m) : lt_ev (d + 1) 170 [.inr (.inr (some a0)), .inr (.inr (some a1))] m = lt_cV (lt_ev d 83 [.inr (.inr (some (a0 + 2))), .inr (.inr (some a1))] m) (fun m1 => (some (none, (lm_i m1 a0 2 (1 : Int32))))) := by
  refine Eq.trans (lt_enter2 (ls := [some (.inr (.inr (some a0))), some (.inr (.inr (some a1)))]) hY170 (Nat.le_of_ble_eq_true rfl) (by rfl)) ?_
  refine Eq.trans (li_aload_n d170_0 (by rfl)) ?_
  refine Eq.trans (li_getr d170_1 fa_1_18 h0 rfl rfl rfl (by decide)) ?_
  refine Eq.trans (li_aload_n d170_4 (by rfl)) ?_
  refine Eq.trans (li_ivV d170_5 ca_1_43 kd_83 kl_83 (by rfl) (by rfl) (sf_of h0 1 (by decide) (by decide)) (Nat.le_of_ble_eq_true rfl) (Nat.le_of_ble_eq_true rfl)) ?_
  refine lt_cV_c (fun m1 => ?_)
  refine Eq.trans (li_aload_n d170_8 (by rfl)) ?_
  refine Eq.trans (li_iconst d170_9 ic_1) ?_
  refine Eq.trans (li_putz d170_10 fa_1_26 h0 rfl rfl) ?_
  refine Eq.trans (lt_gd_t (by decide)) ?_
  exact li_vret d170_13 rfl
/-! TransitSeals.back()I -/
theorem d171_0 : decode Y171.2.1 0 = .ok (.aload_n 0, 1) := by decide +kernel
theorem d171_1 : decode Y171.2.1 1 = .ok (.getfield 54, 3) := by decide +kernel
theorem d171_4 : decode Y171.2.1 4 = .ok (.aload_n 0, 1) := by decide +kernel
theorem d171_5 : decode Y171.2.1 5 = .ok (.getfield 47, 3) := by decide +kernel
theorem d171_8 : decode Y171.2.1 8 = .ok (.invokevirtual 402, 3) := by decide +kernel
theorem d171_11 : decode Y171.2.1 11 = .ok (.ifCond .eq 13, 3) := by decide +kernel
theorem d171_14 : decode Y171.2.1 14 = .ok (.aload_n 0, 1) := by decide +kernel
theorem d171_15 : decode Y171.2.1 15 = .ok (.getfield 47, 3) := by decide +kernel
theorem d171_18 : decode Y171.2.1 18 = .ok (.getfield 223, 3) := by decide +kernel
theorem d171_21 : decode Y171.2.1 21 = .ok (.goto 5, 3) := by decide +kernel
theorem d171_24 : decode Y171.2.1 24 = .ok (.bipush (-2), 2) := by decide +kernel
theorem d171_26 : decode Y171.2.1 26 = .ok (.ireturn, 1) := by decide +kernel
theorem E171 (d : Nat) (a0 : Nat) (h0 : ts_sh a0 = (0, 11)) (m : lt_m) : lt_ev (d + 1) 171 [.inr (.inr (some a0))] m = lt_cI (lt_ev d 172 [.inr (.inr (some (a0 + 81))), .inr (.inr (some (a0 + 13)))] m) (fun v1 m1 => (if v1 = 0 then (some (some (.inl (-2 : Int32)), m1)) else (some (some (.inl (m1.1 (a0 + 13) 4)), m1)))) := by
  refine Eq.trans (lt_enter2 (ls := [some (.inr (.inr (some a0)))]) hY171 (Nat.le_of_ble_eq_true rfl) (by rfl)) ?_
  refine Eq.trans (li_aload_n d171_0 (by rfl)) ?_
  refine Eq.trans (li_getr d171_1 fa_11_54 h0 rfl rfl rfl (by decide)) ?_
  refine Eq.trans (li_aload_n d171_4 (by rfl)) ?_
  refine Eq.trans (li_getr d171_5 fa_11_47 h0 rfl rfl rfl (by decide)) ?_
  refine Eq.trans (li_ivI d171_8 ca_11_402 kd_172 kl_172 (by rfl) (by rfl) (sf_of h0 6 (by decide) (by decide)) (Nat.le_of_ble_eq_true rfl) (Nat.le_of_ble_eq_true rfl)) ?_
  refine lt_cI_c (fun v1 m1 => ?_)
  refine Eq.trans (li_if_eq (t := 24) d171_11 (by rfl)) ?_
  refine lt_ite (fun c1 => ?_) (fun c1 => ?_)
  · refine Eq.trans (li_bipush d171_24 bi_n2) ?_
    exact li_iret d171_26 rfl
  · refine Eq.trans (li_aload_n d171_14 (by rfl)) ?_
    refine Eq.trans (li_getr d171_15 fa_11_47 h0 rfl rfl rfl (by decide)) ?_
    refine Eq.trans (li_geti d171_18 fa_11_223 (sf_of h0 5 (by decide) (by decide)) rfl) ?_
    refine Eq.trans (li_goto (t := 26) d171_21 (by rfl)) ?_
    exact li_iret d171_26 rfl
/-! TransitSeals$History.bringBack(LTransitSeals$Ledger;)Z -/
theorem d172_0 : decode Y172.2.1 0 = .ok (.aload_n 0, 1) := by decide +kernel
theorem d172_1 : decode Y172.2.1 1 = .ok (.getfield 26, 3) := by decide +kernel
theorem d172_4 : decode Y172.2.1 4 = .ok (.ifCond .ne 5, 3) := by decide +kernel
theorem d172_7 : decode Y172.2.1 7 = .ok (.iconst 0, 1) := by decide +kernel
theorem d172_8 : decode Y172.2.1 8 = .ok (.ireturn, 1) := by decide +kernel
theorem d172_9 : decode Y172.2.1 9 = .ok (.aload_n 0, 1) := by decide +kernel
theorem d172_10 : decode Y172.2.1 10 = .ok (.aload_n 1, 1) := by decide +kernel
theorem d172_11 : decode Y172.2.1 11 = .ok (.invokevirtual 47, 3) := by decide +kernel
theorem d172_14 : decode Y172.2.1 14 = .ok (.aload_n 1, 1) := by decide +kernel
theorem d172_15 : decode Y172.2.1 15 = .ok (.aload_n 0, 1) := by decide +kernel
theorem d172_16 : decode Y172.2.1 16 = .ok (.getfield 18, 3) := by decide +kernel
theorem d172_19 : decode Y172.2.1 19 = .ok (.invokevirtual 43, 3) := by decide +kernel
theorem d172_22 : decode Y172.2.1 22 = .ok (.iconst 1, 1) := by decide +kernel
theorem d172_23 : decode Y172.2.1 23 = .ok (.ireturn, 1) := by decide +kernel
theorem E172 (d : Nat) (a0 : Nat) (a1 : Nat) (h0 : ts_sh a0 = (0, 1)) (h1 : ts_sh a1 = (0, 2)) (m : lt_m) : lt_ev (d + 1) 172 [.inr (.inr (some a0)), .inr (.inr (some a1))] m = if ¬ (m.1 a0 2) = 0 then (lt_cV (lt_ev d 81 [.inr (.inr (some a0)), .inr (.inr (some a1))] m) (fun m1 => (lt_cV (lt_ev d 83 [.inr (.inr (some a1)), .inr (.inr (some (a0 + 2)))] m1) (fun m2 => (some (some (.inl (1 : Int32)), m2)))))) else (some (some (.inl (0 : Int32)), m)) := by
  refine Eq.trans (lt_enter2 (ls := [some (.inr (.inr (some a0))), some (.inr (.inr (some a1)))]) hY172 (Nat.le_of_ble_eq_true rfl) (by rfl)) ?_
  refine Eq.trans (li_aload_n d172_0 (by rfl)) ?_
  refine Eq.trans (li_geti d172_1 fa_1_26 h0 rfl) ?_
  refine Eq.trans (li_if_ne (t := 9) d172_4 (by rfl)) ?_
  refine lt_ite (fun c1 => ?_) (fun c1 => ?_)
  · refine Eq.trans (li_aload_n d172_9 (by rfl)) ?_
    refine Eq.trans (li_aload_n d172_10 (by rfl)) ?_
    refine Eq.trans (li_ivV d172_11 ca_1_47 kd_81 kl_81 (by rfl) (by rfl) h0 (Nat.le_of_ble_eq_true rfl) (Nat.le_of_ble_eq_true rfl)) ?_
    refine lt_cV_c (fun m1 => ?_)
    refine Eq.trans (li_aload_n d172_14 (by rfl)) ?_
    refine Eq.trans (li_aload_n d172_15 (by rfl)) ?_
    refine Eq.trans (li_getr d172_16 fa_1_18 h0 rfl rfl rfl (by decide)) ?_
    refine Eq.trans (li_ivV d172_19 ca_1_43 kd_83 kl_83 (by rfl) (by rfl) h1 (Nat.le_of_ble_eq_true rfl) (Nat.le_of_ble_eq_true rfl)) ?_
    refine lt_cV_c (fun m2 => ?_)
    refine Eq.trans (li_iconst d172_22 ic_1) ?_
    exact li_zret d172_23 rfl (by decide)
  · refine Eq.trans (li_iconst d172_7 ic_0) ?_
    exact li_zret d172_8 rfl (by decide)
/-! TransitSeals.count(I)I -/
theorem d173_0 : decode Y173.2.1 0 = .ok (.iload_n 1, 1) := by decide +kernel
theorem d173_1 : decode Y173.2.1 1 = .ok (.tableswitch 153 0 10 #[59, 67, 75, 83, 91, 99, 107, 115, 126, 134, 145], 59) := by decide +kernel
theorem d173_60 : decode Y173.2.1 60 = .ok (.aload_n 0, 1) := by decide +kernel
theorem d173_61 : decode Y173.2.1 61 = .ok (.getfield 47, 3) := by decide +kernel
theorem d173_64 : decode Y173.2.1 64 = .ok (.getfield 223, 3) := by decide +kernel
theorem d173_67 : decode Y173.2.1 67 = .ok (.ireturn, 1) := by decide +kernel
theorem d173_68 : decode Y173.2.1 68 = .ok (.aload_n 0, 1) := by decide +kernel
theorem d173_69 : decode Y173.2.1 69 = .ok (.getfield 61, 3) := by decide +kernel
theorem d173_72 : decode Y173.2.1 72 = .ok (.getfield 101, 3) := by decide +kernel
theorem d173_75 : decode Y173.2.1 75 = .ok (.ireturn, 1) := by decide +kernel
theorem d173_76 : decode Y173.2.1 76 = .ok (.aload_n 0, 1) := by decide +kernel
theorem d173_77 : decode Y173.2.1 77 = .ok (.getfield 61, 3) := by decide +kernel
theorem d173_80 : decode Y173.2.1 80 = .ok (.getfield 405, 3) := by decide +kernel
theorem d173_83 : decode Y173.2.1 83 = .ok (.ireturn, 1) := by decide +kernel
theorem d173_84 : decode Y173.2.1 84 = .ok (.aload_n 0, 1) := by decide +kernel
theorem d173_85 : decode Y173.2.1 85 = .ok (.getfield 61, 3) := by decide +kernel
theorem d173_88 : decode Y173.2.1 88 = .ok (.getfield 408, 3) := by decide +kernel
theorem d173_91 : decode Y173.2.1 91 = .ok (.ireturn, 1) := by decide +kernel
theorem d173_92 : decode Y173.2.1 92 = .ok (.aload_n 0, 1) := by decide +kernel
theorem d173_93 : decode Y173.2.1 93 = .ok (.getfield 47, 3) := by decide +kernel
theorem d173_96 : decode Y173.2.1 96 = .ok (.getfield 165, 3) := by decide +kernel
theorem d173_99 : decode Y173.2.1 99 = .ok (.ireturn, 1) := by decide +kernel
theorem d173_100 : decode Y173.2.1 100 = .ok (.aload_n 0, 1) := by decide +kernel
theorem d173_101 : decode Y173.2.1 101 = .ok (.getfield 47, 3) := by decide +kernel
theorem d173_104 : decode Y173.2.1 104 = .ok (.getfield 230, 3) := by decide +kernel
theorem d173_107 : decode Y173.2.1 107 = .ok (.ireturn, 1) := by decide +kernel
theorem d173_108 : decode Y173.2.1 108 = .ok (.aload_n 0, 1) := by decide +kernel
theorem d173_109 : decode Y173.2.1 109 = .ok (.getfield 54, 3) := by decide +kernel
theorem d173_112 : decode Y173.2.1 112 = .ok (.getfield 396, 3) := by decide +kernel
theorem d173_115 : decode Y173.2.1 115 = .ok (.ireturn, 1) := by decide +kernel
theorem d173_116 : decode Y173.2.1 116 = .ok (.aload_n 0, 1) := by decide +kernel
theorem d173_117 : decode Y173.2.1 117 = .ok (.getfield 47, 3) := by decide +kernel
theorem d173_120 : decode Y173.2.1 120 = .ok (.getfield 377, 3) := by decide +kernel
theorem d173_123 : decode Y173.2.1 123 = .ok (.invokevirtual 409, 3) := by decide +kernel
theorem d173_126 : decode Y173.2.1 126 = .ok (.ireturn, 1) := by decide +kernel
theorem d173_127 : decode Y173.2.1 127 = .ok (.aload_n 0, 1) := by decide +kernel
theorem d173_128 : decode Y173.2.1 128 = .ok (.getfield 19, 3) := by decide +kernel
theorem d173_131 : decode Y173.2.1 131 = .ok (.invokevirtual 410, 3) := by decide +kernel
theorem d173_134 : decode Y173.2.1 134 = .ok (.ireturn, 1) := by decide +kernel
theorem d173_135 : decode Y173.2.1 135 = .ok (.aload_n 0, 1) := by decide +kernel
theorem d173_136 : decode Y173.2.1 136 = .ok (.getfield 10, 3) := by decide +kernel
theorem d173_139 : decode Y173.2.1 139 = .ok (.getfield 68, 3) := by decide +kernel
theorem d173_142 : decode Y173.2.1 142 = .ok (.invokevirtual 72, 3) := by decide +kernel
theorem d173_145 : decode Y173.2.1 145 = .ok (.ireturn, 1) := by decide +kernel
theorem d173_146 : decode Y173.2.1 146 = .ok (.aload_n 0, 1) := by decide +kernel
theorem d173_147 : decode Y173.2.1 147 = .ok (.getfield 47, 3) := by decide +kernel
theorem d173_150 : decode Y173.2.1 150 = .ok (.invokevirtual 263, 3) := by decide +kernel
theorem d173_153 : decode Y173.2.1 153 = .ok (.ireturn, 1) := by decide +kernel
theorem d173_154 : decode Y173.2.1 154 = .ok (.iconst (-1), 1) := by decide +kernel
theorem d173_155 : decode Y173.2.1 155 = .ok (.ireturn, 1) := by decide +kernel
theorem E173 (d : Nat) (a0 : Nat) (x1 : Int32) (h0 : ts_sh a0 = (0, 11)) (m : lt_m) : lt_ev (d + 1) 173 [.inr (.inr (some a0)), .inl x1] m = lt_sw x1 [(some (some (.inl (m.1 (a0 + 13) 4)), m)), (lt_gd (ts_sh (m.2.2.1) = (0, 5)) (some (some (.inl (m.1 (m.2.2.1) 6)), m))), (lt_gd (ts_sh (m.2.2.1) = (0, 5)) (some (some (.inl (m.1 (m.2.2.1) 7)), m))), (lt_gd (ts_sh (m.2.2.1) = (0, 5)) (some (some (.inl (m.1 (m.2.2.1) 8)), m))), (some (some (.inl (m.1 (a0 + 13) 5)), m)), (some (some (.inl (m.1 (a0 + 13) 6)), m)), (some (some (.inl (m.1 (a0 + 81) 4)), m)), (lt_cI (lt_ev d 165 [.inr (.inr (some ((a0 + 13) + 4)))] m) (fun v1 m1 => (some (some (.inl v1), m1)))), (lt_cI (lt_ev d 174 [.inr (.inr (some (a0 + 4)))] m) (fun v2 m2 => (some (some (.inl v2), m2)))), (lt_cI (lt_ev d 27 [.inr (.inr (some ((a0 + 1) + 1)))] m) (fun v3 m3 => (some (some (.inl v3), m3)))), (lt_cI (lt_ev d 118 [.inr (.inr (some (a0 + 13)))] m) (fun v4 m4 => (some (some (.inl v4), m4))))] (some (some (.inl (-1 : Int32)), m)) := by
  refine Eq.trans (lt_enter2 (ls := [some (.inr (.inr (some a0))), some (.inl x1)]) hY173 (Nat.le_of_ble_eq_true rfl) (by rfl)) ?_
  refine Eq.trans (li_iload_n d173_0 (by rfl)) ?_
  refine Eq.trans (li_tsw (n := 10) (td := 154) (ts := [60, 68, 76, 84, 92, 100, 108, 116, 127, 135, 146]) d173_1 (by decide) (by decide) (by rfl)) ?_
  refine lt_sw_c ?_ ?_
  · simp only [List.map_cons, List.map_nil]
    refine lt_l2 ?_ (lt_l2 ?_ (lt_l2 ?_ (lt_l2 ?_ (lt_l2 ?_ (lt_l2 ?_ (lt_l2 ?_ (lt_l2 ?_ (lt_l2 ?_ (lt_l2 ?_ (lt_l2 ?_ (rfl)))))))))))
    · refine Eq.trans (li_aload_n d173_60 (by rfl)) ?_
      refine Eq.trans (li_getr d173_61 fa_11_47 h0 rfl rfl rfl (by decide)) ?_
      refine Eq.trans (li_geti d173_64 fa_11_223 (sf_of h0 5 (by decide) (by decide)) rfl) ?_
      exact li_iret d173_67 rfl
    · refine Eq.trans (li_aload_n d173_68 (by rfl)) ?_
      refine Eq.trans (li_getnet d173_69 fa_11_61 h0) ?_
      refine Eq.trans (li_gget d173_72 fa_11_101) ?_
      refine lt_gd_c (fun g1 => ?_)
      refine Eq.trans (li_geti d173_72 fa_11_101 g1 rfl) ?_
      exact li_iret d173_75 rfl
    · refine Eq.trans (li_aload_n d173_76 (by rfl)) ?_
      refine Eq.trans (li_getnet d173_77 fa_11_61 h0) ?_
      refine Eq.trans (li_gget d173_80 fa_11_405) ?_
      refine lt_gd_c (fun g2 => ?_)
      refine Eq.trans (li_geti d173_80 fa_11_405 g2 rfl) ?_
      exact li_iret d173_83 rfl
    · refine Eq.trans (li_aload_n d173_84 (by rfl)) ?_
      refine Eq.trans (li_getnet d173_85 fa_11_61 h0) ?_
      refine Eq.trans (li_gget d173_88 fa_11_408) ?_
      refine lt_gd_c (fun g3 => ?_)
      refine Eq.trans (li_geti d173_88 fa_11_408 g3 rfl) ?_
      exact li_iret d173_91 rfl
    · refine Eq.trans (li_aload_n d173_92 (by rfl)) ?_
      refine Eq.trans (li_getr d173_93 fa_11_47 h0 rfl rfl rfl (by decide)) ?_
      refine Eq.trans (li_geti d173_96 fa_11_165 (sf_of h0 5 (by decide) (by decide)) rfl) ?_
      exact li_iret d173_99 rfl
    · refine Eq.trans (li_aload_n d173_100 (by rfl)) ?_
      refine Eq.trans (li_getr d173_101 fa_11_47 h0 rfl rfl rfl (by decide)) ?_
      refine Eq.trans (li_geti d173_104 fa_11_230 (sf_of h0 5 (by decide) (by decide)) rfl) ?_
      exact li_iret d173_107 rfl
    · refine Eq.trans (li_aload_n d173_108 (by rfl)) ?_
      refine Eq.trans (li_getr d173_109 fa_11_54 h0 rfl rfl rfl (by decide)) ?_
      refine Eq.trans (li_geti d173_112 fa_11_396 (sf_of h0 6 (by decide) (by decide)) rfl) ?_
      exact li_iret d173_115 rfl
    · refine Eq.trans (li_aload_n d173_116 (by rfl)) ?_
      refine Eq.trans (li_getr d173_117 fa_11_47 h0 rfl rfl rfl (by decide)) ?_
      refine Eq.trans (li_getr d173_120 fa_11_377 (sf_of h0 5 (by decide) (by decide)) rfl rfl rfl (by decide)) ?_
      refine Eq.trans (li_ivI d173_123 ca_11_409 kd_165 kl_165 (by rfl) (by rfl) (sf_of (sf_of h0 5 (by decide) (by decide)) 3 (by decide) (by decide)) (Nat.le_of_ble_eq_true rfl) (Nat.le_of_ble_eq_true rfl)) ?_
      refine lt_cI_c (fun v1 m1 => ?_)
      exact li_iret d173_126 rfl
    · refine Eq.trans (li_aload_n d173_127 (by rfl)) ?_
      refine Eq.trans (li_getr d173_128 fa_11_19 h0 rfl rfl rfl (by decide)) ?_
      refine Eq.trans (li_ivI d173_131 ca_11_410 kd_174 kl_174 (by rfl) (by rfl) (sf_of h0 1 (by decide) (by decide)) (Nat.le_of_ble_eq_true rfl) (Nat.le_of_ble_eq_true rfl)) ?_
      refine lt_cI_c (fun v2 m2 => ?_)
      exact li_iret d173_134 rfl
    · refine Eq.trans (li_aload_n d173_135 (by rfl)) ?_
      refine Eq.trans (li_getr d173_136 fa_11_10 h0 rfl rfl rfl (by decide)) ?_
      refine Eq.trans (li_getr d173_139 fa_11_68 (sf_of h0 0 (by decide) (by decide)) rfl rfl rfl (by decide)) ?_
      refine Eq.trans (li_ivI d173_142 ca_11_72 kd_27 kl_27 (by rfl) (by rfl) (sf_of (sf_of h0 0 (by decide) (by decide)) 0 (by decide) (by decide)) (Nat.le_of_ble_eq_true rfl) (Nat.le_of_ble_eq_true rfl)) ?_
      refine lt_cI_c (fun v3 m3 => ?_)
      exact li_iret d173_145 rfl
    · refine Eq.trans (li_aload_n d173_146 (by rfl)) ?_
      refine Eq.trans (li_getr d173_147 fa_11_47 h0 rfl rfl rfl (by decide)) ?_
      refine Eq.trans (li_ivI d173_150 ca_11_263 kd_118 kl_118 (by rfl) (by rfl) (sf_of h0 5 (by decide) (by decide)) (Nat.le_of_ble_eq_true rfl) (Nat.le_of_ble_eq_true rfl)) ?_
      refine lt_cI_c (fun v4 m4 => ?_)
      exact li_iret d173_153 rfl
  · refine Eq.trans (li_iconst d173_154 ic_n1) ?_
    exact li_iret d173_155 rfl
/-! TransitSeals$Row.size()I -/
theorem d174_0 : decode Y174.2.1 0 = .ok (.aload_n 0, 1) := by decide +kernel
theorem d174_1 : decode Y174.2.1 1 = .ok (.getfield 15, 3) := by decide +kernel
theorem d174_4 : decode Y174.2.1 4 = .ok (.ireturn, 1) := by decide +kernel
theorem E174 (d : Nat) (a0 : Nat) (h0 : ts_sh a0 = (0, 8)) (m : lt_m) : lt_ev (d + 1) 174 [.inr (.inr (some a0))] m = some (some (.inl (m.1 a0 1)), m) := by
  refine Eq.trans (lt_enter2 (ls := [some (.inr (.inr (some a0)))]) hY174 (Nat.le_of_ble_eq_true rfl) (by rfl)) ?_
  refine Eq.trans (li_aload_n d174_0 (by rfl)) ?_
  refine Eq.trans (li_geti d174_1 fa_8_15 h0 rfl) ?_
  exact li_iret d174_4 rfl
/-! TransitSeals$Row.numberAt(I)I -/
theorem d176_0 : decode Y176.2.1 0 = .ok (.aload_n 0, 1) := by decide +kernel
theorem d176_1 : decode Y176.2.1 1 = .ok (.getfield 9, 3) := by decide +kernel
theorem d176_4 : decode Y176.2.1 4 = .ok (.iload_n 1, 1) := by decide +kernel
theorem d176_5 : decode Y176.2.1 5 = .ok (.invokestatic 23, 3) := by decide +kernel
theorem d176_8 : decode Y176.2.1 8 = .ok (.ireturn, 1) := by decide +kernel
theorem E176 (d : Nat) (a0 : Nat) (x1 : Int32) (h0 : ts_sh a0 = (0, 8)) (m : lt_m) : lt_ev (d + 1) 176 [.inr (.inr (some a0)), .inl x1] m = lt_cI (lt_ev d 16 [.inr (.inr (some (a0 + 1))), .inl x1] m) (fun v1 m1 => (some (some (.inl v1), m1))) := by
  refine Eq.trans (lt_enter2 (ls := [some (.inr (.inr (some a0))), some (.inl x1)]) hY176 (Nat.le_of_ble_eq_true rfl) (by rfl)) ?_
  refine Eq.trans (li_aload_n d176_0 (by rfl)) ?_
  refine Eq.trans (li_getr d176_1 fa_8_9 h0 rfl rfl rfl (by decide)) ?_
  refine Eq.trans (li_iload_n d176_4 (by rfl)) ?_
  refine Eq.trans (li_isI d176_5 bi_8_23 ca_8_23 kd_16 (by rfl) (by rfl) (Nat.le_of_ble_eq_true rfl) (Nat.le_of_ble_eq_true rfl)) ?_
  refine lt_cI_c (fun v1 m1 => ?_)
  exact li_iret d176_8 rfl
/-! TransitSealsModel.thrown()I -/
theorem d178_0 : decode Y178.2.1 0 = .ok (.aload_n 0, 1) := by decide +kernel
theorem d178_1 : decode Y178.2.1 1 = .ok (.getfield 67, 3) := by decide +kernel
theorem d178_4 : decode Y178.2.1 4 = .ok (.ireturn, 1) := by decide +kernel
theorem E178 (d : Nat) (a0 : Nat) (h0 : ts_sh a0 = (0, 12)) (m : lt_m) : lt_ev (d + 1) 178 [.inr (.inr (some a0))] m = some (some (.inl (m.1 a0 15)), m) := by
  refine Eq.trans (lt_enter2 (ls := [some (.inr (.inr (some a0)))]) hY178 (Nat.le_of_ble_eq_true rfl) (by rfl)) ?_
  refine Eq.trans (li_aload_n d178_0 (by rfl)) ?_
  refine Eq.trans (li_geti d178_1 fa_12_67 h0 rfl) ?_
  exact li_iret d178_4 rfl
/-! TransitSealsModel.sign(I)I -/
theorem d179_0 : decode Y179.2.1 0 = .ok (.aload_n 0, 1) := by decide +kernel
theorem d179_1 : decode Y179.2.1 1 = .ok (.iconst 0, 1) := by decide +kernel
theorem d179_2 : decode Y179.2.1 2 = .ok (.putfield 67, 3) := by decide +kernel
theorem d179_5 : decode Y179.2.1 5 = .ok (.aload_n 0, 1) := by decide +kernel
theorem d179_6 : decode Y179.2.1 6 = .ok (.getfield 73, 3) := by decide +kernel
theorem d179_9 : decode Y179.2.1 9 = .ok (.iconst 4, 1) := by decide +kernel
theorem d179_10 : decode Y179.2.1 10 = .ok (.iadd, 1) := by decide +kernel
theorem d179_11 : decode Y179.2.1 11 = .ok (.sipush 200, 3) := by decide +kernel
theorem d179_14 : decode Y179.2.1 14 = .ok (.if_icmp .le 5, 3) := by decide +kernel
theorem d179_17 : decode Y179.2.1 17 = .ok (.iconst (-1), 1) := by decide +kernel
theorem d179_18 : decode Y179.2.1 18 = .ok (.ireturn, 1) := by decide +kernel
theorem d179_19 : decode Y179.2.1 19 = .ok (.iconst 3, 1) := by decide +kernel
theorem d179_20 : decode Y179.2.1 20 = .ok (.istore_n 2, 1) := by decide +kernel
theorem d179_21 : decode Y179.2.1 21 = .ok (.iload_n 2, 1) := by decide +kernel
theorem d179_22 : decode Y179.2.1 22 = .ok (.ifCond .lt 32, 3) := by decide +kernel
theorem d179_25 : decode Y179.2.1 25 = .ok (.aload_n 0, 1) := by decide +kernel
theorem d179_26 : decode Y179.2.1 26 = .ok (.getfield 32, 3) := by decide +kernel
theorem d179_29 : decode Y179.2.1 29 = .ok (.aload_n 0, 1) := by decide +kernel
theorem d179_30 : decode Y179.2.1 30 = .ok (.dup, 1) := by decide +kernel
theorem d179_31 : decode Y179.2.1 31 = .ok (.getfield 73, 3) := by decide +kernel
theorem d179_34 : decode Y179.2.1 34 = .ok (.dup_x1, 1) := by decide +kernel
theorem d179_35 : decode Y179.2.1 35 = .ok (.iconst 1, 1) := by decide +kernel
theorem d179_36 : decode Y179.2.1 36 = .ok (.iadd, 1) := by decide +kernel
theorem d179_37 : decode Y179.2.1 37 = .ok (.putfield 73, 3) := by decide +kernel
theorem d179_40 : decode Y179.2.1 40 = .ok (.iload_n 1, 1) := by decide +kernel
theorem d179_41 : decode Y179.2.1 41 = .ok (.bipush 8, 2) := by decide +kernel
theorem d179_43 : decode Y179.2.1 43 = .ok (.iload_n 2, 1) := by decide +kernel
theorem d179_44 : decode Y179.2.1 44 = .ok (.imul, 1) := by decide +kernel
theorem d179_45 : decode Y179.2.1 45 = .ok (.ishr, 1) := by decide +kernel
theorem d179_46 : decode Y179.2.1 46 = .ok (.i2b, 1) := by decide +kernel
theorem d179_47 : decode Y179.2.1 47 = .ok (.bastore, 1) := by decide +kernel
theorem d179_48 : decode Y179.2.1 48 = .ok (.iinc 2 (-1), 3) := by decide +kernel
theorem d179_51 : decode Y179.2.1 51 = .ok (.goto (-30), 3) := by decide +kernel
theorem d179_54 : decode Y179.2.1 54 = .ok (.aload_n 0, 1) := by decide +kernel
theorem d179_55 : decode Y179.2.1 55 = .ok (.getfield 73, 3) := by decide +kernel
theorem d179_58 : decode Y179.2.1 58 = .ok (.ireturn, 1) := by decide +kernel
noncomputable def L179_21 (d : Nat) (a0 : Nat) (x1 : Int32) (x2 : Int32) (m : lt_m) : Option lt_r := lt_run d Y179 21 [some (.inr (.inr (some a0))), some (.inl x1), some (.inl x2)] [] m
theorem E179 (d : Nat) (a0 : Nat) (x1 : Int32) (h0 : ts_sh a0 = (0, 12)) (m : lt_m) : lt_ev (d + 1) 179 [.inr (.inr (some a0)), .inl x1] m = if (((lm_i m a0 15 (0 : Int32)).1 a0 12) + (4 : Int32)) ≤ (200 : Int32) then (L179_21 d a0 x1 (3 : Int32) (lm_i m a0 15 (0 : Int32))) else (some (some (.inl (-1 : Int32)), (lm_i m a0 15 (0 : Int32)))) := by
  refine Eq.trans (lt_enter2 (ls := [some (.inr (.inr (some a0))), some (.inl x1), none]) hY179 (Nat.le_of_ble_eq_true rfl) (by rfl)) ?_
  refine Eq.trans (li_aload_n d179_0 (by rfl)) ?_
  refine Eq.trans (li_iconst d179_1 ic_0) ?_
  refine Eq.trans (li_puti d179_2 fa_12_67 h0 rfl rfl) ?_
  refine Eq.trans (li_aload_n d179_5 (by rfl)) ?_
  refine Eq.trans (li_geti d179_6 fa_12_73 h0 rfl) ?_
  refine Eq.trans (li_iconst d179_9 ic_4) ?_
  refine Eq.trans (li_iadd d179_10) ?_
  refine Eq.trans (li_sipush d179_11 si_200) ?_
  refine Eq.trans (li_icmp_le (t := 19) d179_14 (by rfl)) ?_
  refine lt_ite (fun c1 => ?_) (fun c1 => ?_)
  · refine Eq.trans (li_iconst d179_19 ic_3) ?_
    refine Eq.trans (li_istore_n (ls' := [some (.inr (.inr (some a0))), some (.inl x1), some (.inl (3 : Int32))]) d179_20 (by decide) (by rfl)) ?_
    rfl
  · refine Eq.trans (li_iconst d179_17 ic_n1) ?_
    exact li_iret d179_18 rfl
theorem E179_21 (d : Nat) (a0 : Nat) (x1 : Int32) (x2 : Int32) (h0 : ts_sh a0 = (0, 12)) (m : lt_m) : L179_21 d a0 x1 x2 m = if x2 < 0 then (some (some (.inl (m.1 a0 12)), m)) else (lt_gd (0 ≤ (m.1 a0 12) ∧ ((m.1 a0 12)).toNatClampNeg < 200) (L179_21 d a0 x1 (x2 + (-1 : Int32)) (lm_i (lm_i m a0 12 ((m.1 a0 12) + (1 : Int32))) (a0 + 7) ((m.1 a0 12)).toNatClampNeg (vp_nar .byte (((x1 >>> (((8 : Int32) * x2) &&& 31))).toInt8.toInt32))))) := by
  show lt_run d Y179 21 [some (.inr (.inr (some a0))), some (.inl x1), some (.inl x2)] [] m = _
  refine Eq.trans (li_iload_n d179_21 (by rfl)) ?_
  refine Eq.trans (li_if_lt (t := 54) d179_22 (by rfl)) ?_
  refine lt_ite (fun c1 => ?_) (fun c1 => ?_)
  · refine Eq.trans (li_aload_n d179_54 (by rfl)) ?_
    refine Eq.trans (li_geti d179_55 fa_12_73 h0 rfl) ?_
    exact li_iret d179_58 rfl
  · refine Eq.trans (li_aload_n d179_25 (by rfl)) ?_
    refine Eq.trans (li_getr d179_26 fa_12_32 h0 rfl rfl rfl (by decide)) ?_
    refine Eq.trans (li_aload_n d179_29 (by rfl)) ?_
    refine Eq.trans (li_dup d179_30 rfl) ?_
    refine Eq.trans (li_geti d179_31 fa_12_73 h0 rfl) ?_
    refine Eq.trans (li_dup_x1 d179_34 rfl rfl) ?_
    refine Eq.trans (li_iconst d179_35 ic_1) ?_
    refine Eq.trans (li_iadd d179_36) ?_
    refine Eq.trans (li_puti d179_37 fa_12_73 h0 rfl rfl) ?_
    refine Eq.trans (li_iload_n d179_40 (by rfl)) ?_
    refine Eq.trans (li_bipush d179_41 bi_8) ?_
    refine Eq.trans (li_iload_n d179_43 (by rfl)) ?_
    refine Eq.trans (li_imul d179_44) ?_
    refine Eq.trans (li_ishr d179_45) ?_
    refine Eq.trans (li_i2b d179_46) ?_
    refine Eq.trans (li_bast d179_47 (sf_of h0 11 (by decide) (by decide))) ?_
    refine lt_gd_c (fun g1 => ?_)
    refine Eq.trans (li_iinc (ls' := [some (.inr (.inr (some a0))), some (.inl x1), some (.inl (x2 + (-1 : Int32)))]) d179_48 (by rfl) (by decide) ic_n1 (by rfl)) ?_
    refine Eq.trans (li_goto (t := 21) d179_51 (by rfl)) ?_
    rfl
/-! TransitSealsModel.end(I)Z -/
theorem d180_0 : decode Y180.2.1 0 = .ok (.aload_n 0, 1) := by decide +kernel
theorem d180_1 : decode Y180.2.1 1 = .ok (.iconst 0, 1) := by decide +kernel
theorem d180_2 : decode Y180.2.1 2 = .ok (.putfield 67, 3) := by decide +kernel
theorem d180_5 : decode Y180.2.1 5 = .ok (.iload_n 1, 1) := by decide +kernel
theorem d180_6 : decode Y180.2.1 6 = .ok (.i2l, 1) := by decide +kernel
theorem d180_7 : decode Y180.2.1 7 = .ok (.lconst 0, 1) := by decide +kernel
theorem d180_8 : decode Y180.2.1 8 = .ok (.aload_n 0, 1) := by decide +kernel
theorem d180_9 : decode Y180.2.1 9 = .ok (.getfield 73, 3) := by decide +kernel
theorem d180_12 : decode Y180.2.1 12 = .ok (.i2l, 1) := by decide +kernel
theorem d180_13 : decode Y180.2.1 13 = .ok (.invokestatic 76, 3) := by decide +kernel
theorem d180_16 : decode Y180.2.1 16 = .ok (.ifCond .ne 5, 3) := by decide +kernel
theorem d180_19 : decode Y180.2.1 19 = .ok (.iconst 0, 1) := by decide +kernel
theorem d180_20 : decode Y180.2.1 20 = .ok (.ireturn, 1) := by decide +kernel
theorem d180_21 : decode Y180.2.1 21 = .ok (.aload_n 0, 1) := by decide +kernel
theorem d180_22 : decode Y180.2.1 22 = .ok (.iload_n 1, 1) := by decide +kernel
theorem d180_23 : decode Y180.2.1 23 = .ok (.putfield 73, 3) := by decide +kernel
theorem d180_26 : decode Y180.2.1 26 = .ok (.iconst 1, 1) := by decide +kernel
theorem d180_27 : decode Y180.2.1 27 = .ok (.ireturn, 1) := by decide +kernel
theorem E180 (d : Nat) (a0 : Nat) (x1 : Int32) (h0 : ts_sh a0 = (0, 12)) (m : lt_m) : lt_ev (d + 1) 180 [.inr (.inr (some a0)), .inl x1] m = lt_cI (lt_ev d 181 [.inr (.inl ((x1).toInt64)), .inr (.inl (0 : Int64)), .inr (.inl ((((lm_i m a0 15 (0 : Int32)).1 a0 12)).toInt64))] (lm_i m a0 15 (0 : Int32))) (fun v1 m1 => (if ¬ v1 = 0 then (some (some (.inl (1 : Int32)), (lm_i m1 a0 12 x1))) else (some (some (.inl (0 : Int32)), m1)))) := by
  refine Eq.trans (lt_enter2 (ls := [some (.inr (.inr (some a0))), some (.inl x1)]) hY180 (Nat.le_of_ble_eq_true rfl) (by rfl)) ?_
  refine Eq.trans (li_aload_n d180_0 (by rfl)) ?_
  refine Eq.trans (li_iconst d180_1 ic_0) ?_
  refine Eq.trans (li_puti d180_2 fa_12_67 h0 rfl rfl) ?_
  refine Eq.trans (li_iload_n d180_5 (by rfl)) ?_
  refine Eq.trans (li_i2l d180_6) ?_
  refine Eq.trans (li_lconst (v := 0) d180_7 (by decide)) ?_
  refine Eq.trans (li_aload_n d180_8 (by rfl)) ?_
  refine Eq.trans (li_geti d180_9 fa_12_73 h0 rfl) ?_
  refine Eq.trans (li_i2l d180_12) ?_
  refine Eq.trans (li_isI d180_13 bi_12_76 ca_12_76 kd_181 (by rfl) (by rfl) (Nat.le_of_ble_eq_true rfl) (Nat.le_of_ble_eq_true rfl)) ?_
  refine lt_cI_c (fun v1 m1 => ?_)
  refine Eq.trans (li_if_ne (t := 21) d180_16 (by rfl)) ?_
  refine lt_ite (fun c1 => ?_) (fun c1 => ?_)
  · refine Eq.trans (li_aload_n d180_21 (by rfl)) ?_
    refine Eq.trans (li_iload_n d180_22 (by rfl)) ?_
    refine Eq.trans (li_puti d180_23 fa_12_73 h0 rfl rfl) ?_
    refine Eq.trans (li_iconst d180_26 ic_1) ?_
    exact li_zret d180_27 rfl (by decide)
  · refine Eq.trans (li_iconst d180_19 ic_0) ?_
    exact li_zret d180_20 rfl (by decide)
/-! TransitSealsModel.in(JJJ)Z -/
theorem d181_0 : decode Y181.2.1 0 = .ok (.lload_n 0, 1) := by decide +kernel
theorem d181_1 : decode Y181.2.1 1 = .ok (.lload_n 2, 1) := by decide +kernel
theorem d181_2 : decode Y181.2.1 2 = .ok (.lcmp, 1) := by decide +kernel
theorem d181_3 : decode Y181.2.1 3 = .ok (.ifCond .lt 14, 3) := by decide +kernel
theorem d181_6 : decode Y181.2.1 6 = .ok (.lload_n 0, 1) := by decide +kernel
theorem d181_7 : decode Y181.2.1 7 = .ok (.lload 4, 2) := by decide +kernel
theorem d181_9 : decode Y181.2.1 9 = .ok (.lcmp, 1) := by decide +kernel
theorem d181_10 : decode Y181.2.1 10 = .ok (.ifCond .gt 7, 3) := by decide +kernel
theorem d181_13 : decode Y181.2.1 13 = .ok (.iconst 1, 1) := by decide +kernel
theorem d181_14 : decode Y181.2.1 14 = .ok (.goto 4, 3) := by decide +kernel
theorem d181_17 : decode Y181.2.1 17 = .ok (.iconst 0, 1) := by decide +kernel
theorem d181_18 : decode Y181.2.1 18 = .ok (.ireturn, 1) := by decide +kernel
theorem E181 (d : Nat) (x0 : Int64) (x2 : Int64) (x4 : Int64)  (m : lt_m) : lt_ev (d + 1) 181 [.inr (.inl x0), .inr (.inl x2), .inr (.inl x4)] m = if (lg_cmp x0 x2) < 0 then (some (some (.inl (0 : Int32)), m)) else (if 0 < (lg_cmp x0 x4) then (some (some (.inl (0 : Int32)), m)) else (some (some (.inl (1 : Int32)), m))) := by
  refine Eq.trans (lt_enter2 (ls := [some (.inr (.inl x0)), none, some (.inr (.inl x2)), none, some (.inr (.inl x4)), none]) hY181 (Nat.le_of_ble_eq_true rfl) (by rfl)) ?_
  refine Eq.trans (li_lload_n d181_0 (by rfl)) ?_
  refine Eq.trans (li_lload_n d181_1 (by rfl)) ?_
  refine Eq.trans (li_lcmp d181_2) ?_
  refine Eq.trans (li_if_lt (t := 17) d181_3 (by rfl)) ?_
  refine lt_ite (fun c1 => ?_) (fun c1 => ?_)
  · refine Eq.trans (li_iconst d181_17 ic_0) ?_
    exact li_zret d181_18 rfl (by decide)
  · refine Eq.trans (li_lload_n d181_6 (by rfl)) ?_
    refine Eq.trans (li_lload d181_7 (by rfl)) ?_
    refine Eq.trans (li_lcmp d181_9) ?_
    refine Eq.trans (li_if_gt (t := 17) d181_10 (by rfl)) ?_
    refine lt_ite (fun c2 => ?_) (fun c2 => ?_)
    · refine Eq.trans (li_iconst d181_17 ic_0) ?_
      exact li_zret d181_18 rfl (by decide)
    · refine Eq.trans (li_iconst d181_13 ic_1) ?_
      refine Eq.trans (li_goto (t := 18) d181_14 (by rfl)) ?_
      exact li_zret d181_18 rfl (by decide)
/-! TransitSealsModel.net()I -/
theorem d182_0 : decode Y182.2.1 0 = .ok (.aload_n 0, 1) := by decide +kernel
theorem d182_1 : decode Y182.2.1 1 = .ok (.iconst 0, 1) := by decide +kernel
theorem d182_2 : decode Y182.2.1 2 = .ok (.putfield 67, 3) := by decide +kernel
theorem d182_5 : decode Y182.2.1 5 = .ok (.aload_n 0, 1) := by decide +kernel
theorem d182_6 : decode Y182.2.1 6 = .ok (.invokevirtual 148, 3) := by decide +kernel
theorem d182_9 : decode Y182.2.1 9 = .ok (.aload_n 0, 1) := by decide +kernel
theorem d182_10 : decode Y182.2.1 10 = .ok (.invokevirtual 151, 3) := by decide +kernel
theorem d182_13 : decode Y182.2.1 13 = .ok (.aload_n 0, 1) := by decide +kernel
theorem d182_14 : decode Y182.2.1 14 = .ok (.getfield 107, 3) := by decide +kernel
theorem d182_17 : decode Y182.2.1 17 = .ok (.iconst (-1), 1) := by decide +kernel
theorem d182_18 : decode Y182.2.1 18 = .ok (.if_icmp .eq 11, 3) := by decide +kernel
theorem d182_21 : decode Y182.2.1 21 = .ok (.bipush (-21), 2) := by decide +kernel
theorem d182_23 : decode Y182.2.1 23 = .ok (.aload_n 0, 1) := by decide +kernel
theorem d182_24 : decode Y182.2.1 24 = .ok (.getfield 107, 3) := by decide +kernel
theorem d182_27 : decode Y182.2.1 27 = .ok (.isub, 1) := by decide +kernel
theorem d182_28 : decode Y182.2.1 28 = .ok (.ireturn, 1) := by decide +kernel
theorem d182_29 : decode Y182.2.1 29 = .ok (.aload_n 0, 1) := by decide +kernel
theorem d182_30 : decode Y182.2.1 30 = .ok (.aload_n 0, 1) := by decide +kernel
theorem d182_31 : decode Y182.2.1 31 = .ok (.getfield 126, 3) := by decide +kernel
theorem d182_34 : decode Y182.2.1 34 = .ok (.putfield 28, 3) := by decide +kernel
theorem d182_37 : decode Y182.2.1 37 = .ok (.aload_n 0, 1) := by decide +kernel
theorem d182_38 : decode Y182.2.1 38 = .ok (.aload_n 0, 1) := by decide +kernel
theorem d182_39 : decode Y182.2.1 39 = .ok (.getfield 136, 3) := by decide +kernel
theorem d182_42 : decode Y182.2.1 42 = .ok (.putfield 154, 3) := by decide +kernel
theorem d182_45 : decode Y182.2.1 45 = .ok (.aload_n 0, 1) := by decide +kernel
theorem d182_46 : decode Y182.2.1 46 = .ok (.aload_n 0, 1) := by decide +kernel
theorem d182_47 : decode Y182.2.1 47 = .ok (.getfield 139, 3) := by decide +kernel
theorem d182_50 : decode Y182.2.1 50 = .ok (.putfield 80, 3) := by decide +kernel
theorem d182_53 : decode Y182.2.1 53 = .ok (.iconst 0, 1) := by decide +kernel
theorem d182_54 : decode Y182.2.1 54 = .ok (.istore_n 1, 1) := by decide +kernel
theorem d182_55 : decode Y182.2.1 55 = .ok (.iload_n 1, 1) := by decide +kernel
theorem d182_56 : decode Y182.2.1 56 = .ok (.aload_n 0, 1) := by decide +kernel
theorem d182_57 : decode Y182.2.1 57 = .ok (.getfield 28, 3) := by decide +kernel
theorem d182_60 : decode Y182.2.1 60 = .ok (.if_icmp .ge 21, 3) := by decide +kernel
theorem d182_63 : decode Y182.2.1 63 = .ok (.aload_n 0, 1) := by decide +kernel
theorem d182_64 : decode Y182.2.1 64 = .ok (.getfield 19, 3) := by decide +kernel
theorem d182_67 : decode Y182.2.1 67 = .ok (.iload_n 1, 1) := by decide +kernel
theorem d182_68 : decode Y182.2.1 68 = .ok (.aload_n 0, 1) := by decide +kernel
theorem d182_69 : decode Y182.2.1 69 = .ok (.getfield 40, 3) := by decide +kernel
theorem d182_72 : decode Y182.2.1 72 = .ok (.iload_n 1, 1) := by decide +kernel
theorem d182_73 : decode Y182.2.1 73 = .ok (.iaload, 1) := by decide +kernel
theorem d182_74 : decode Y182.2.1 74 = .ok (.iastore, 1) := by decide +kernel
theorem d182_75 : decode Y182.2.1 75 = .ok (.iinc 1 1, 3) := by decide +kernel
theorem d182_78 : decode Y182.2.1 78 = .ok (.goto (-23), 3) := by decide +kernel
theorem d182_81 : decode Y182.2.1 81 = .ok (.iconst 0, 1) := by decide +kernel
theorem d182_82 : decode Y182.2.1 82 = .ok (.istore_n 1, 1) := by decide +kernel
theorem d182_83 : decode Y182.2.1 83 = .ok (.iload_n 1, 1) := by decide +kernel
theorem d182_84 : decode Y182.2.1 84 = .ok (.sipush 144, 3) := by decide +kernel
theorem d182_87 : decode Y182.2.1 87 = .ok (.if_icmp .ge 21, 3) := by decide +kernel
theorem d182_90 : decode Y182.2.1 90 = .ok (.aload_n 0, 1) := by decide +kernel
theorem d182_91 : decode Y182.2.1 91 = .ok (.getfield 22, 3) := by decide +kernel
theorem d182_94 : decode Y182.2.1 94 = .ok (.iload_n 1, 1) := by decide +kernel
theorem d182_95 : decode Y182.2.1 95 = .ok (.aload_n 0, 1) := by decide +kernel
theorem d182_96 : decode Y182.2.1 96 = .ok (.getfield 43, 3) := by decide +kernel
theorem d182_99 : decode Y182.2.1 99 = .ok (.iload_n 1, 1) := by decide +kernel
theorem d182_100 : decode Y182.2.1 100 = .ok (.iaload, 1) := by decide +kernel
theorem d182_101 : decode Y182.2.1 101 = .ok (.iastore, 1) := by decide +kernel
theorem d182_102 : decode Y182.2.1 102 = .ok (.iinc 1 1, 3) := by decide +kernel
theorem d182_105 : decode Y182.2.1 105 = .ok (.goto (-22), 3) := by decide +kernel
theorem d182_108 : decode Y182.2.1 108 = .ok (.iconst 0, 1) := by decide +kernel
theorem d182_109 : decode Y182.2.1 109 = .ok (.istore_n 1, 1) := by decide +kernel
theorem d182_110 : decode Y182.2.1 110 = .ok (.iload_n 1, 1) := by decide +kernel
theorem d182_111 : decode Y182.2.1 111 = .ok (.aload_n 0, 1) := by decide +kernel
theorem d182_112 : decode Y182.2.1 112 = .ok (.getfield 80, 3) := by decide +kernel
theorem d182_115 : decode Y182.2.1 115 = .ok (.if_icmp .ge 21, 3) := by decide +kernel
theorem d182_118 : decode Y182.2.1 118 = .ok (.aload_n 0, 1) := by decide +kernel
theorem d182_119 : decode Y182.2.1 119 = .ok (.getfield 25, 3) := by decide +kernel
theorem d182_122 : decode Y182.2.1 122 = .ok (.iload_n 1, 1) := by decide +kernel
theorem d182_123 : decode Y182.2.1 123 = .ok (.aload_n 0, 1) := by decide +kernel
theorem d182_124 : decode Y182.2.1 124 = .ok (.getfield 46, 3) := by decide +kernel
theorem d182_127 : decode Y182.2.1 127 = .ok (.iload_n 1, 1) := by decide +kernel
theorem d182_128 : decode Y182.2.1 128 = .ok (.iaload, 1) := by decide +kernel
theorem d182_129 : decode Y182.2.1 129 = .ok (.iastore, 1) := by decide +kernel
theorem d182_130 : decode Y182.2.1 130 = .ok (.iinc 1 1, 3) := by decide +kernel
theorem d182_133 : decode Y182.2.1 133 = .ok (.goto (-23), 3) := by decide +kernel
theorem d182_136 : decode Y182.2.1 136 = .ok (.iconst 0, 1) := by decide +kernel
theorem d182_137 : decode Y182.2.1 137 = .ok (.istore_n 1, 1) := by decide +kernel
theorem d182_138 : decode Y182.2.1 138 = .ok (.iload_n 1, 1) := by decide +kernel
theorem d182_139 : decode Y182.2.1 139 = .ok (.sipush 626, 3) := by decide +kernel
theorem d182_142 : decode Y182.2.1 142 = .ok (.if_icmp .ge 16, 3) := by decide +kernel
theorem d182_145 : decode Y182.2.1 145 = .ok (.aload_n 0, 1) := by decide +kernel
theorem d182_146 : decode Y182.2.1 146 = .ok (.getfield 7, 3) := by decide +kernel
theorem d182_149 : decode Y182.2.1 149 = .ok (.iload_n 1, 1) := by decide +kernel
theorem d182_150 : decode Y182.2.1 150 = .ok (.iconst 0, 1) := by decide +kernel
theorem d182_151 : decode Y182.2.1 151 = .ok (.iastore, 1) := by decide +kernel
theorem d182_152 : decode Y182.2.1 152 = .ok (.iinc 1 1, 3) := by decide +kernel
theorem d182_155 : decode Y182.2.1 155 = .ok (.goto (-17), 3) := by decide +kernel
theorem d182_158 : decode Y182.2.1 158 = .ok (.aload_n 0, 1) := by decide +kernel
theorem d182_159 : decode Y182.2.1 159 = .ok (.iconst 0, 1) := by decide +kernel
theorem d182_160 : decode Y182.2.1 160 = .ok (.putfield 91, 3) := by decide +kernel
theorem d182_163 : decode Y182.2.1 163 = .ok (.aload_n 0, 1) := by decide +kernel
theorem d182_164 : decode Y182.2.1 164 = .ok (.iconst 0, 1) := by decide +kernel
theorem d182_165 : decode Y182.2.1 165 = .ok (.putfield 157, 3) := by decide +kernel
theorem d182_168 : decode Y182.2.1 168 = .ok (.aload_n 0, 1) := by decide +kernel
theorem d182_169 : decode Y182.2.1 169 = .ok (.iconst 0, 1) := by decide +kernel
theorem d182_170 : decode Y182.2.1 170 = .ok (.putfield 70, 3) := by decide +kernel
theorem d182_173 : decode Y182.2.1 173 = .ok (.aload_n 0, 1) := by decide +kernel
theorem d182_174 : decode Y182.2.1 174 = .ok (.getfield 28, 3) := by decide +kernel
theorem d182_177 : decode Y182.2.1 177 = .ok (.ireturn, 1) := by decide +kernel
noncomputable def L182_55 (d : Nat) (a0 : Nat) (x1 : Int32) (m : lt_m) : Option lt_r := lt_run d Y182 55 [some (.inr (.inr (some a0))), some (.inl x1)] [] m
noncomputable def L182_83 (d : Nat) (a0 : Nat) (x1 : Int32) (m : lt_m) : Option lt_r := lt_run d Y182 83 [some (.inr (.inr (some a0))), some (.inl x1)] [] m
noncomputable def L182_110 (d : Nat) (a0 : Nat) (x1 : Int32) (m : lt_m) : Option lt_r := lt_run d Y182 110 [some (.inr (.inr (some a0))), some (.inl x1)] [] m
noncomputable def L182_138 (d : Nat) (a0 : Nat) (x1 : Int32) (m : lt_m) : Option lt_r := lt_run d Y182 138 [some (.inr (.inr (some a0))), some (.inl x1)] [] m
theorem E182 (d : Nat) (a0 : Nat) (h0 : ts_sh a0 = (0, 12)) (m : lt_m) : lt_ev (d + 1) 182 [.inr (.inr (some a0))] m = lt_cV (lt_ev d 183 [.inr (.inr (some a0))] (lm_i m a0 15 (0 : Int32))) (fun m1 => (lt_cV (lt_ev d 184 [.inr (.inr (some a0))] m1) (fun m2 => (if (m2.1 a0 18) = (-1 : Int32) then (lt_let (lm_i (lm_i (lm_i m2 a0 8 (m2.1 a0 19)) a0 9 ((lm_i m2 a0 8 (m2.1 a0 19)).1 a0 22)) a0 10 ((lm_i (lm_i m2 a0 8 (m2.1 a0 19)) a0 9 ((lm_i m2 a0 8 (m2.1 a0 19)).1 a0 22)).1 a0 24)) (fun m3 => (L182_55 d a0 (0 : Int32) m3))) else (some (some (.inl ((-21 : Int32) - (m2.1 a0 18))), m2)))))) := by
  refine Eq.trans (lt_enter2 (ls := [some (.inr (.inr (some a0))), none]) hY182 (Nat.le_of_ble_eq_true rfl) (by rfl)) ?_
  refine Eq.trans (li_aload_n d182_0 (by rfl)) ?_
  refine Eq.trans (li_iconst d182_1 ic_0) ?_
  refine Eq.trans (li_puti d182_2 fa_12_67 h0 rfl rfl) ?_
  refine Eq.trans (li_aload_n d182_5 (by rfl)) ?_
  refine Eq.trans (li_ivV d182_6 ca_12_148 kd_183 kl_183 (by rfl) (by rfl) h0 (Nat.le_of_ble_eq_true rfl) (Nat.le_of_ble_eq_true rfl)) ?_
  refine lt_cV_c (fun m1 => ?_)
  refine Eq.trans (li_aload_n d182_9 (by rfl)) ?_
  refine Eq.trans (li_ivV d182_10 ca_12_151 kd_184 kl_184 (by rfl) (by rfl) h0 (Nat.le_of_ble_eq_true rfl) (Nat.le_of_ble_eq_true rfl)) ?_
  refine lt_cV_c (fun m2 => ?_)
  refine Eq.trans (li_aload_n d182_13 (by rfl)) ?_
  refine Eq.trans (li_geti d182_14 fa_12_107 h0 rfl) ?_
  refine Eq.trans (li_iconst d182_17 ic_n1) ?_
  refine Eq.trans (li_icmp_eq (t := 29) d182_18 (by rfl)) ?_
  refine lt_ite (fun c1 => ?_) (fun c1 => ?_)
  · refine Eq.trans (li_aload_n d182_29 (by rfl)) ?_
    refine Eq.trans (li_aload_n d182_30 (by rfl)) ?_
    refine Eq.trans (li_geti d182_31 fa_12_126 h0 rfl) ?_
    refine Eq.trans (li_puti d182_34 fa_12_28 h0 rfl rfl) ?_
    refine Eq.trans (li_aload_n d182_37 (by rfl)) ?_
    refine Eq.trans (li_aload_n d182_38 (by rfl)) ?_
    refine Eq.trans (li_geti d182_39 fa_12_136 h0 rfl) ?_
    refine Eq.trans (li_puti d182_42 fa_12_154 h0 rfl rfl) ?_
    refine Eq.trans (li_aload_n d182_45 (by rfl)) ?_
    refine Eq.trans (li_aload_n d182_46 (by rfl)) ?_
    refine Eq.trans (li_geti d182_47 fa_12_139 h0 rfl) ?_
    refine Eq.trans (li_puti d182_50 fa_12_80 h0 rfl rfl) ?_
    refine lt_let_x (F := fun m3 => lt_run d Y182 53 [some (.inr (.inr (some a0))), none] [] m3) (fun m3 => ?_)
    refine Eq.trans (li_iconst d182_53 ic_0) ?_
    refine Eq.trans (li_istore_n (ls' := [some (.inr (.inr (some a0))), some (.inl (0 : Int32))]) d182_54 (by decide) (by rfl)) ?_
    rfl
  · refine Eq.trans (li_bipush d182_21 bi_n21) ?_
    refine Eq.trans (li_aload_n d182_23 (by rfl)) ?_
    refine Eq.trans (li_geti d182_24 fa_12_107 h0 rfl) ?_
    refine Eq.trans (li_isub d182_27) ?_
    exact li_iret d182_28 rfl
theorem E182_55 (d : Nat) (a0 : Nat) (x1 : Int32) (h0 : ts_sh a0 = (0, 12)) (m : lt_m) : L182_55 d a0 x1 m = if (m.1 a0 8) ≤ x1 then (L182_83 d a0 (0 : Int32) m) else (lt_gd (0 ≤ x1 ∧ (x1).toNatClampNeg < 12) (lt_gd (0 ≤ x1 ∧ (x1).toNatClampNeg < 12) (L182_55 d a0 (x1 + (1 : Int32)) (lm_i m (a0 + 4) (x1).toNatClampNeg (m.1 (a0 + 9) (x1).toNatClampNeg))))) := by
  show lt_run d Y182 55 [some (.inr (.inr (some a0))), some (.inl x1)] [] m = _
  refine Eq.trans (li_iload_n d182_55 (by rfl)) ?_
  refine Eq.trans (li_aload_n d182_56 (by rfl)) ?_
  refine Eq.trans (li_geti d182_57 fa_12_28 h0 rfl) ?_
  refine Eq.trans (li_icmp_ge (t := 81) d182_60 (by rfl)) ?_
  refine lt_ite (fun c1 => ?_) (fun c1 => ?_)
  · refine Eq.trans (li_iconst d182_81 ic_0) ?_
    refine Eq.trans (li_istore_n (ls' := [some (.inr (.inr (some a0))), some (.inl (0 : Int32))]) d182_82 (by decide) (by rfl)) ?_
    rfl
  · refine Eq.trans (li_aload_n d182_63 (by rfl)) ?_
    refine Eq.trans (li_getr d182_64 fa_12_19 h0 rfl rfl rfl (by decide)) ?_
    refine Eq.trans (li_iload_n d182_67 (by rfl)) ?_
    refine Eq.trans (li_aload_n d182_68 (by rfl)) ?_
    refine Eq.trans (li_getr d182_69 fa_12_40 h0 rfl rfl rfl (by decide)) ?_
    refine Eq.trans (li_iload_n d182_72 (by rfl)) ?_
    refine Eq.trans (li_iald d182_73 (sf_of h0 20 (by decide) (by decide))) ?_
    refine lt_gd_c (fun g1 => ?_)
    refine Eq.trans (li_iast d182_74 (sf_of h0 5 (by decide) (by decide))) ?_
    refine lt_gd_c (fun g2 => ?_)
    refine Eq.trans (li_iinc (ls' := [some (.inr (.inr (some a0))), some (.inl (x1 + (1 : Int32)))]) d182_75 (by rfl) (by decide) ic_1 (by rfl)) ?_
    refine Eq.trans (li_goto (t := 55) d182_78 (by rfl)) ?_
    rfl
theorem E182_83 (d : Nat) (a0 : Nat) (x1 : Int32) (h0 : ts_sh a0 = (0, 12)) (m : lt_m) : L182_83 d a0 x1 m = if (144 : Int32) ≤ x1 then (L182_110 d a0 (0 : Int32) m) else (lt_gd (0 ≤ x1 ∧ (x1).toNatClampNeg < 144) (lt_gd (0 ≤ x1 ∧ (x1).toNatClampNeg < 144) (L182_83 d a0 (x1 + (1 : Int32)) (lm_i m (a0 + 5) (x1).toNatClampNeg (m.1 (a0 + 10) (x1).toNatClampNeg))))) := by
  show lt_run d Y182 83 [some (.inr (.inr (some a0))), some (.inl x1)] [] m = _
  refine Eq.trans (li_iload_n d182_83 (by rfl)) ?_
  refine Eq.trans (li_sipush d182_84 si_144) ?_
  refine Eq.trans (li_icmp_ge (t := 108) d182_87 (by rfl)) ?_
  refine lt_ite (fun c1 => ?_) (fun c1 => ?_)
  · refine Eq.trans (li_iconst d182_108 ic_0) ?_
    refine Eq.trans (li_istore_n (ls' := [some (.inr (.inr (some a0))), some (.inl (0 : Int32))]) d182_109 (by decide) (by rfl)) ?_
    rfl
  · refine Eq.trans (li_aload_n d182_90 (by rfl)) ?_
    refine Eq.trans (li_getr d182_91 fa_12_22 h0 rfl rfl rfl (by decide)) ?_
    refine Eq.trans (li_iload_n d182_94 (by rfl)) ?_
    refine Eq.trans (li_aload_n d182_95 (by rfl)) ?_
    refine Eq.trans (li_getr d182_96 fa_12_43 h0 rfl rfl rfl (by decide)) ?_
    refine Eq.trans (li_iload_n d182_99 (by rfl)) ?_
    refine Eq.trans (li_iald d182_100 (sf_of h0 21 (by decide) (by decide))) ?_
    refine lt_gd_c (fun g1 => ?_)
    refine Eq.trans (li_iast d182_101 (sf_of h0 6 (by decide) (by decide))) ?_
    refine lt_gd_c (fun g2 => ?_)
    refine Eq.trans (li_iinc (ls' := [some (.inr (.inr (some a0))), some (.inl (x1 + (1 : Int32)))]) d182_102 (by rfl) (by decide) ic_1 (by rfl)) ?_
    refine Eq.trans (li_goto (t := 83) d182_105 (by rfl)) ?_
    rfl
theorem E182_110 (d : Nat) (a0 : Nat) (x1 : Int32) (h0 : ts_sh a0 = (0, 12)) (m : lt_m) : L182_110 d a0 x1 m = if (m.1 a0 10) ≤ x1 then (L182_138 d a0 (0 : Int32) m) else (lt_gd (0 ≤ x1 ∧ (x1).toNatClampNeg < 6) (lt_gd (0 ≤ x1 ∧ (x1).toNatClampNeg < 6) (L182_110 d a0 (x1 + (1 : Int32)) (lm_i m (a0 + 6) (x1).toNatClampNeg (m.1 (a0 + 11) (x1).toNatClampNeg))))) := by
  show lt_run d Y182 110 [some (.inr (.inr (some a0))), some (.inl x1)] [] m = _
  refine Eq.trans (li_iload_n d182_110 (by rfl)) ?_
  refine Eq.trans (li_aload_n d182_111 (by rfl)) ?_
  refine Eq.trans (li_geti d182_112 fa_12_80 h0 rfl) ?_
  refine Eq.trans (li_icmp_ge (t := 136) d182_115 (by rfl)) ?_
  refine lt_ite (fun c1 => ?_) (fun c1 => ?_)
  · refine Eq.trans (li_iconst d182_136 ic_0) ?_
    refine Eq.trans (li_istore_n (ls' := [some (.inr (.inr (some a0))), some (.inl (0 : Int32))]) d182_137 (by decide) (by rfl)) ?_
    rfl
  · refine Eq.trans (li_aload_n d182_118 (by rfl)) ?_
    refine Eq.trans (li_getr d182_119 fa_12_25 h0 rfl rfl rfl (by decide)) ?_
    refine Eq.trans (li_iload_n d182_122 (by rfl)) ?_
    refine Eq.trans (li_aload_n d182_123 (by rfl)) ?_
    refine Eq.trans (li_getr d182_124 fa_12_46 h0 rfl rfl rfl (by decide)) ?_
    refine Eq.trans (li_iload_n d182_127 (by rfl)) ?_
    refine Eq.trans (li_iald d182_128 (sf_of h0 23 (by decide) (by decide))) ?_
    refine lt_gd_c (fun g1 => ?_)
    refine Eq.trans (li_iast d182_129 (sf_of h0 7 (by decide) (by decide))) ?_
    refine lt_gd_c (fun g2 => ?_)
    refine Eq.trans (li_iinc (ls' := [some (.inr (.inr (some a0))), some (.inl (x1 + (1 : Int32)))]) d182_130 (by rfl) (by decide) ic_1 (by rfl)) ?_
    refine Eq.trans (li_goto (t := 110) d182_133 (by rfl)) ?_
    rfl
theorem E182_138 (d : Nat) (a0 : Nat) (x1 : Int32) (h0 : ts_sh a0 = (0, 12)) (m : lt_m) : L182_138 d a0 x1 m = if (626 : Int32) ≤ x1 then (some (some (.inl ((lm_i (lm_i (lm_i m a0 4 (0 : Int32)) a0 2 (0 : Int32)) a0 14 (0 : Int32)).1 a0 8)), (lm_i (lm_i (lm_i m a0 4 (0 : Int32)) a0 2 (0 : Int32)) a0 14 (0 : Int32)))) else (lt_gd (0 ≤ x1 ∧ (x1).toNatClampNeg < 626) (L182_138 d a0 (x1 + (1 : Int32)) (lm_i m (a0 + 1) (x1).toNatClampNeg (0 : Int32)))) := by
  show lt_run d Y182 138 [some (.inr (.inr (some a0))), some (.inl x1)] [] m = _
  refine Eq.trans (li_iload_n d182_138 (by rfl)) ?_
  refine Eq.trans (li_sipush d182_139 si_626) ?_
  refine Eq.trans (li_icmp_ge (t := 158) d182_142 (by rfl)) ?_
  refine lt_ite (fun c1 => ?_) (fun c1 => ?_)
  · refine Eq.trans (li_aload_n d182_158 (by rfl)) ?_
    refine Eq.trans (li_iconst d182_159 ic_0) ?_
    refine Eq.trans (li_puti d182_160 fa_12_91 h0 rfl rfl) ?_
    refine Eq.trans (li_aload_n d182_163 (by rfl)) ?_
    refine Eq.trans (li_iconst d182_164 ic_0) ?_
    refine Eq.trans (li_putz d182_165 fa_12_157 h0 rfl rfl) ?_
    refine Eq.trans (lt_gd_t (by decide)) ?_
    refine Eq.trans (li_aload_n d182_168 (by rfl)) ?_
    refine Eq.trans (li_iconst d182_169 ic_0) ?_
    refine Eq.trans (li_puti d182_170 fa_12_70 h0 rfl rfl) ?_
    refine Eq.trans (li_aload_n d182_173 (by rfl)) ?_
    refine Eq.trans (li_geti d182_174 fa_12_28 h0 rfl) ?_
    exact li_iret d182_177 rfl
  · refine Eq.trans (li_aload_n d182_145 (by rfl)) ?_
    refine Eq.trans (li_getr d182_146 fa_12_7 h0 rfl rfl rfl (by decide)) ?_
    refine Eq.trans (li_iload_n d182_149 (by rfl)) ?_
    refine Eq.trans (li_iconst d182_150 ic_0) ?_
    refine Eq.trans (li_iast d182_151 (sf_of h0 0 (by decide) (by decide))) ?_
    refine lt_gd_c (fun g1 => ?_)
    refine Eq.trans (li_iinc (ls' := [some (.inr (.inr (some a0))), some (.inl (x1 + (1 : Int32)))]) d182_152 (by rfl) (by decide) ic_1 (by rfl)) ?_
    refine Eq.trans (li_goto (t := 138) d182_155 (by rfl)) ?_
    rfl
/-! TransitSealsModel.begin()V -/
theorem d183_0 : decode Y183.2.1 0 = .ok (.aload_n 0, 1) := by decide +kernel
theorem d183_1 : decode Y183.2.1 1 = .ok (.aload_n 0, 1) := by decide +kernel
theorem d183_2 : decode Y183.2.1 2 = .ok (.getfield 73, 3) := by decide +kernel
theorem d183_5 : decode Y183.2.1 5 = .ok (.putfield 101, 3) := by decide +kernel
theorem d183_8 : decode Y183.2.1 8 = .ok (.aload_n 0, 1) := by decide +kernel
theorem d183_9 : decode Y183.2.1 9 = .ok (.iconst 0, 1) := by decide +kernel
theorem d183_10 : decode Y183.2.1 10 = .ok (.putfield 73, 3) := by decide +kernel
theorem d183_13 : decode Y183.2.1 13 = .ok (.aload_n 0, 1) := by decide +kernel
theorem d183_14 : decode Y183.2.1 14 = .ok (.iconst 0, 1) := by decide +kernel
theorem d183_15 : decode Y183.2.1 15 = .ok (.putfield 104, 3) := by decide +kernel
theorem d183_18 : decode Y183.2.1 18 = .ok (.aload_n 0, 1) := by decide +kernel
theorem d183_19 : decode Y183.2.1 19 = .ok (.iconst (-1), 1) := by decide +kernel
theorem d183_20 : decode Y183.2.1 20 = .ok (.putfield 107, 3) := by decide +kernel
theorem d183_23 : decode Y183.2.1 23 = .ok (.return_, 1) := by decide +kernel
theorem E183 (d : Nat) (a0 : Nat) (h0 : ts_sh a0 = (0, 12)) (m : lt_m) : lt_ev (d + 1) 183 [.inr (.inr (some a0))] m = some (none, (lm_i (lm_i (lm_i (lm_i m a0 16 (m.1 a0 12)) a0 12 (0 : Int32)) a0 17 (0 : Int32)) a0 18 (-1 : Int32))) := by
  refine Eq.trans (lt_enter2 (ls := [some (.inr (.inr (some a0)))]) hY183 (Nat.le_of_ble_eq_true rfl) (by rfl)) ?_
  refine Eq.trans (li_aload_n d183_0 (by rfl)) ?_
  refine Eq.trans (li_aload_n d183_1 (by rfl)) ?_
  refine Eq.trans (li_geti d183_2 fa_12_73 h0 rfl) ?_
  refine Eq.trans (li_puti d183_5 fa_12_101 h0 rfl rfl) ?_
  refine Eq.trans (li_aload_n d183_8 (by rfl)) ?_
  refine Eq.trans (li_iconst d183_9 ic_0) ?_
  refine Eq.trans (li_puti d183_10 fa_12_73 h0 rfl rfl) ?_
  refine Eq.trans (li_aload_n d183_13 (by rfl)) ?_
  refine Eq.trans (li_iconst d183_14 ic_0) ?_
  refine Eq.trans (li_puti d183_15 fa_12_104 h0 rfl rfl) ?_
  refine Eq.trans (li_aload_n d183_18 (by rfl)) ?_
  refine Eq.trans (li_iconst d183_19 ic_n1) ?_
  refine Eq.trans (li_puti d183_20 fa_12_107 h0 rfl rfl) ?_
  exact li_vret d183_23 rfl
/-! TransitSealsModel.readsNet()V -/
theorem d184_0 : decode Y184.2.1 0 = .ok (.iconst 0, 1) := by decide +kernel
theorem d184_1 : decode Y184.2.1 1 = .ok (.istore_n 1, 1) := by decide +kernel
theorem d184_2 : decode Y184.2.1 2 = .ok (.iload_n 1, 1) := by decide +kernel
theorem d184_3 : decode Y184.2.1 3 = .ok (.sipush 144, 3) := by decide +kernel
theorem d184_6 : decode Y184.2.1 6 = .ok (.if_icmp .ge 16, 3) := by decide +kernel
theorem d184_9 : decode Y184.2.1 9 = .ok (.aload_n 0, 1) := by decide +kernel
theorem d184_10 : decode Y184.2.1 10 = .ok (.getfield 43, 3) := by decide +kernel
theorem d184_13 : decode Y184.2.1 13 = .ok (.iload_n 1, 1) := by decide +kernel
theorem d184_14 : decode Y184.2.1 14 = .ok (.iconst 0, 1) := by decide +kernel
theorem d184_15 : decode Y184.2.1 15 = .ok (.iastore, 1) := by decide +kernel
theorem d184_16 : decode Y184.2.1 16 = .ok (.iinc 1 1, 3) := by decide +kernel
theorem d184_19 : decode Y184.2.1 19 = .ok (.goto (-17), 3) := by decide +kernel
theorem d184_22 : decode Y184.2.1 22 = .ok (.aload_n 0, 1) := by decide +kernel
theorem d184_23 : decode Y184.2.1 23 = .ok (.iconst 0, 1) := by decide +kernel
theorem d184_24 : decode Y184.2.1 24 = .ok (.putfield 136, 3) := by decide +kernel
theorem d184_27 : decode Y184.2.1 27 = .ok (.aload_n 0, 1) := by decide +kernel
theorem d184_28 : decode Y184.2.1 28 = .ok (.iconst 0, 1) := by decide +kernel
theorem d184_29 : decode Y184.2.1 29 = .ok (.putfield 139, 3) := by decide +kernel
theorem d184_32 : decode Y184.2.1 32 = .ok (.aload_n 0, 1) := by decide +kernel
theorem d184_33 : decode Y184.2.1 33 = .ok (.invokevirtual 142, 3) := by decide +kernel
theorem d184_36 : decode Y184.2.1 36 = .ok (.aload_n 0, 1) := by decide +kernel
theorem d184_37 : decode Y184.2.1 37 = .ok (.getfield 107, 3) := by decide +kernel
theorem d184_40 : decode Y184.2.1 40 = .ok (.iconst (-1), 1) := by decide +kernel
theorem d184_41 : decode Y184.2.1 41 = .ok (.if_icmp .ne 27, 3) := by decide +kernel
theorem d184_44 : decode Y184.2.1 44 = .ok (.aload_n 0, 1) := by decide +kernel
theorem d184_45 : decode Y184.2.1 45 = .ok (.getfield 104, 3) := by decide +kernel
theorem d184_48 : decode Y184.2.1 48 = .ok (.aload_n 0, 1) := by decide +kernel
theorem d184_49 : decode Y184.2.1 49 = .ok (.getfield 101, 3) := by decide +kernel
theorem d184_52 : decode Y184.2.1 52 = .ok (.if_icmp .ge 16, 3) := by decide +kernel
theorem d184_55 : decode Y184.2.1 55 = .ok (.aload_n 0, 1) := by decide +kernel
theorem d184_56 : decode Y184.2.1 56 = .ok (.invokevirtual 110, 3) := by decide +kernel
theorem d184_59 : decode Y184.2.1 59 = .ok (.bipush 124, 2) := by decide +kernel
theorem d184_61 : decode Y184.2.1 61 = .ok (.if_icmp .eq 7, 3) := by decide +kernel
theorem d184_64 : decode Y184.2.1 64 = .ok (.iconst 1, 1) := by decide +kernel
theorem d184_65 : decode Y184.2.1 65 = .ok (.goto 4, 3) := by decide +kernel
theorem d184_68 : decode Y184.2.1 68 = .ok (.iconst 0, 1) := by decide +kernel
theorem d184_69 : decode Y184.2.1 69 = .ok (.istore_n 1, 1) := by decide +kernel
theorem d184_70 : decode Y184.2.1 70 = .ok (.iload_n 1, 1) := by decide +kernel
theorem d184_71 : decode Y184.2.1 71 = .ok (.ifCond .eq 64, 3) := by decide +kernel
theorem d184_74 : decode Y184.2.1 74 = .ok (.aload_n 0, 1) := by decide +kernel
theorem d184_75 : decode Y184.2.1 75 = .ok (.getfield 107, 3) := by decide +kernel
theorem d184_78 : decode Y184.2.1 78 = .ok (.iconst (-1), 1) := by decide +kernel
theorem d184_79 : decode Y184.2.1 79 = .ok (.if_icmp .ne 56, 3) := by decide +kernel
theorem d184_82 : decode Y184.2.1 82 = .ok (.aload_n 0, 1) := by decide +kernel
theorem d184_83 : decode Y184.2.1 83 = .ok (.invokevirtual 145, 3) := by decide +kernel
theorem d184_86 : decode Y184.2.1 86 = .ok (.aload_n 0, 1) := by decide +kernel
theorem d184_87 : decode Y184.2.1 87 = .ok (.getfield 107, 3) := by decide +kernel
theorem d184_90 : decode Y184.2.1 90 = .ok (.iconst (-1), 1) := by decide +kernel
theorem d184_91 : decode Y184.2.1 91 = .ok (.if_icmp .ne 25, 3) := by decide +kernel
theorem d184_94 : decode Y184.2.1 94 = .ok (.aload_n 0, 1) := by decide +kernel
theorem d184_95 : decode Y184.2.1 95 = .ok (.invokevirtual 110, 3) := by decide +kernel
theorem d184_98 : decode Y184.2.1 98 = .ok (.bipush 44, 2) := by decide +kernel
theorem d184_100 : decode Y184.2.1 100 = .ok (.if_icmp .ne 16, 3) := by decide +kernel
theorem d184_103 : decode Y184.2.1 103 = .ok (.aload_n 0, 1) := by decide +kernel
theorem d184_104 : decode Y184.2.1 104 = .ok (.getfield 136, 3) := by decide +kernel
theorem d184_107 : decode Y184.2.1 107 = .ok (.bipush 40, 2) := by decide +kernel
theorem d184_109 : decode Y184.2.1 109 = .ok (.if_icmp .ge 7, 3) := by decide +kernel
theorem d184_112 : decode Y184.2.1 112 = .ok (.iconst 1, 1) := by decide +kernel
theorem d184_113 : decode Y184.2.1 113 = .ok (.goto 4, 3) := by decide +kernel
theorem d184_116 : decode Y184.2.1 116 = .ok (.iconst 0, 1) := by decide +kernel
theorem d184_117 : decode Y184.2.1 117 = .ok (.istore_n 1, 1) := by decide +kernel
theorem d184_118 : decode Y184.2.1 118 = .ok (.iload_n 1, 1) := by decide +kernel
theorem d184_119 : decode Y184.2.1 119 = .ok (.ifCond .eq (-49), 3) := by decide +kernel
theorem d184_122 : decode Y184.2.1 122 = .ok (.aload_n 0, 1) := by decide +kernel
theorem d184_123 : decode Y184.2.1 123 = .ok (.dup, 1) := by decide +kernel
theorem d184_124 : decode Y184.2.1 124 = .ok (.getfield 104, 3) := by decide +kernel
theorem d184_127 : decode Y184.2.1 127 = .ok (.iconst 1, 1) := by decide +kernel
theorem d184_128 : decode Y184.2.1 128 = .ok (.iadd, 1) := by decide +kernel
theorem d184_129 : decode Y184.2.1 129 = .ok (.putfield 104, 3) := by decide +kernel
theorem d184_132 : decode Y184.2.1 132 = .ok (.goto (-62), 3) := by decide +kernel
theorem d184_135 : decode Y184.2.1 135 = .ok (.aload_n 0, 1) := by decide +kernel
theorem d184_136 : decode Y184.2.1 136 = .ok (.getfield 107, 3) := by decide +kernel
theorem d184_139 : decode Y184.2.1 139 = .ok (.iconst (-1), 1) := by decide +kernel
theorem d184_140 : decode Y184.2.1 140 = .ok (.if_icmp .ne 16, 3) := by decide +kernel
theorem d184_143 : decode Y184.2.1 143 = .ok (.aload_n 0, 1) := by decide +kernel
theorem d184_144 : decode Y184.2.1 144 = .ok (.invokevirtual 110, 3) := by decide +kernel
theorem d184_147 : decode Y184.2.1 147 = .ok (.bipush 124, 2) := by decide +kernel
theorem d184_149 : decode Y184.2.1 149 = .ok (.if_icmp .ne 7, 3) := by decide +kernel
theorem d184_152 : decode Y184.2.1 152 = .ok (.iconst 1, 1) := by decide +kernel
theorem d184_153 : decode Y184.2.1 153 = .ok (.goto 4, 3) := by decide +kernel
theorem d184_156 : decode Y184.2.1 156 = .ok (.iconst 0, 1) := by decide +kernel
theorem d184_157 : decode Y184.2.1 157 = .ok (.istore_n 1, 1) := by decide +kernel
theorem d184_158 : decode Y184.2.1 158 = .ok (.iload_n 1, 1) := by decide +kernel
theorem d184_159 : decode Y184.2.1 159 = .ok (.ifCond .eq 13, 3) := by decide +kernel
theorem d184_162 : decode Y184.2.1 162 = .ok (.aload_n 0, 1) := by decide +kernel
theorem d184_163 : decode Y184.2.1 163 = .ok (.dup, 1) := by decide +kernel
theorem d184_164 : decode Y184.2.1 164 = .ok (.getfield 104, 3) := by decide +kernel
theorem d184_167 : decode Y184.2.1 167 = .ok (.iconst 1, 1) := by decide +kernel
theorem d184_168 : decode Y184.2.1 168 = .ok (.iadd, 1) := by decide +kernel
theorem d184_169 : decode Y184.2.1 169 = .ok (.putfield 104, 3) := by decide +kernel
theorem d184_172 : decode Y184.2.1 172 = .ok (.iload_n 1, 1) := by decide +kernel
theorem d184_173 : decode Y184.2.1 173 = .ok (.ifCond .eq 91, 3) := by decide +kernel
theorem d184_176 : decode Y184.2.1 176 = .ok (.aload_n 0, 1) := by decide +kernel
theorem d184_177 : decode Y184.2.1 177 = .ok (.getfield 107, 3) := by decide +kernel
theorem d184_180 : decode Y184.2.1 180 = .ok (.iconst (-1), 1) := by decide +kernel
theorem d184_181 : decode Y184.2.1 181 = .ok (.if_icmp .ne 83, 3) := by decide +kernel
theorem d184_184 : decode Y184.2.1 184 = .ok (.aload_n 0, 1) := by decide +kernel
theorem d184_185 : decode Y184.2.1 185 = .ok (.iconst 1, 1) := by decide +kernel
theorem d184_186 : decode Y184.2.1 186 = .ok (.sipush 999, 3) := by decide +kernel
theorem d184_189 : decode Y184.2.1 189 = .ok (.iconst 3, 1) := by decide +kernel
theorem d184_190 : decode Y184.2.1 190 = .ok (.invokevirtual 122, 3) := by decide +kernel
theorem d184_193 : decode Y184.2.1 193 = .ok (.istore_n 2, 1) := by decide +kernel
theorem d184_194 : decode Y184.2.1 194 = .ok (.aload_n 0, 1) := by decide +kernel
theorem d184_195 : decode Y184.2.1 195 = .ok (.getfield 107, 3) := by decide +kernel
theorem d184_198 : decode Y184.2.1 198 = .ok (.iconst (-1), 1) := by decide +kernel
theorem d184_199 : decode Y184.2.1 199 = .ok (.if_icmp .eq 4, 3) := by decide +kernel
theorem d184_202 : decode Y184.2.1 202 = .ok (.return_, 1) := by decide +kernel
theorem d184_203 : decode Y184.2.1 203 = .ok (.aload_n 0, 1) := by decide +kernel
theorem d184_204 : decode Y184.2.1 204 = .ok (.getfield 46, 3) := by decide +kernel
theorem d184_207 : decode Y184.2.1 207 = .ok (.aload_n 0, 1) := by decide +kernel
theorem d184_208 : decode Y184.2.1 208 = .ok (.getfield 139, 3) := by decide +kernel
theorem d184_211 : decode Y184.2.1 211 = .ok (.iload_n 2, 1) := by decide +kernel
theorem d184_212 : decode Y184.2.1 212 = .ok (.iastore, 1) := by decide +kernel
theorem d184_213 : decode Y184.2.1 213 = .ok (.aload_n 0, 1) := by decide +kernel
theorem d184_214 : decode Y184.2.1 214 = .ok (.dup, 1) := by decide +kernel
theorem d184_215 : decode Y184.2.1 215 = .ok (.getfield 139, 3) := by decide +kernel
theorem d184_218 : decode Y184.2.1 218 = .ok (.iconst 1, 1) := by decide +kernel
theorem d184_219 : decode Y184.2.1 219 = .ok (.iadd, 1) := by decide +kernel
theorem d184_220 : decode Y184.2.1 220 = .ok (.putfield 139, 3) := by decide +kernel
theorem d184_223 : decode Y184.2.1 223 = .ok (.aload_n 0, 1) := by decide +kernel
theorem d184_224 : decode Y184.2.1 224 = .ok (.invokevirtual 110, 3) := by decide +kernel
theorem d184_227 : decode Y184.2.1 227 = .ok (.bipush 44, 2) := by decide +kernel
theorem d184_229 : decode Y184.2.1 229 = .ok (.if_icmp .ne 16, 3) := by decide +kernel
theorem d184_232 : decode Y184.2.1 232 = .ok (.aload_n 0, 1) := by decide +kernel
theorem d184_233 : decode Y184.2.1 233 = .ok (.getfield 139, 3) := by decide +kernel
theorem d184_236 : decode Y184.2.1 236 = .ok (.bipush 6, 2) := by decide +kernel
theorem d184_238 : decode Y184.2.1 238 = .ok (.if_icmp .ge 7, 3) := by decide +kernel
theorem d184_241 : decode Y184.2.1 241 = .ok (.iconst 1, 1) := by decide +kernel
theorem d184_242 : decode Y184.2.1 242 = .ok (.goto 4, 3) := by decide +kernel
theorem d184_245 : decode Y184.2.1 245 = .ok (.iconst 0, 1) := by decide +kernel
theorem d184_246 : decode Y184.2.1 246 = .ok (.istore_n 1, 1) := by decide +kernel
theorem d184_247 : decode Y184.2.1 247 = .ok (.iload_n 1, 1) := by decide +kernel
theorem d184_248 : decode Y184.2.1 248 = .ok (.ifCond .eq 13, 3) := by decide +kernel
theorem d184_251 : decode Y184.2.1 251 = .ok (.aload_n 0, 1) := by decide +kernel
theorem d184_252 : decode Y184.2.1 252 = .ok (.dup, 1) := by decide +kernel
theorem d184_253 : decode Y184.2.1 253 = .ok (.getfield 104, 3) := by decide +kernel
theorem d184_256 : decode Y184.2.1 256 = .ok (.iconst 1, 1) := by decide +kernel
theorem d184_257 : decode Y184.2.1 257 = .ok (.iadd, 1) := by decide +kernel
theorem d184_258 : decode Y184.2.1 258 = .ok (.putfield 104, 3) := by decide +kernel
theorem d184_261 : decode Y184.2.1 261 = .ok (.goto (-89), 3) := by decide +kernel
theorem d184_264 : decode Y184.2.1 264 = .ok (.aload_n 0, 1) := by decide +kernel
theorem d184_265 : decode Y184.2.1 265 = .ok (.getfield 107, 3) := by decide +kernel
theorem d184_268 : decode Y184.2.1 268 = .ok (.iconst (-1), 1) := by decide +kernel
theorem d184_269 : decode Y184.2.1 269 = .ok (.if_icmp .ne 22, 3) := by decide +kernel
theorem d184_272 : decode Y184.2.1 272 = .ok (.aload_n 0, 1) := by decide +kernel
theorem d184_273 : decode Y184.2.1 273 = .ok (.getfield 104, 3) := by decide +kernel
theorem d184_276 : decode Y184.2.1 276 = .ok (.aload_n 0, 1) := by decide +kernel
theorem d184_277 : decode Y184.2.1 277 = .ok (.getfield 101, 3) := by decide +kernel
theorem d184_280 : decode Y184.2.1 280 = .ok (.if_icmp .ge 11, 3) := by decide +kernel
theorem d184_283 : decode Y184.2.1 283 = .ok (.aload_n 0, 1) := by decide +kernel
theorem d184_284 : decode Y184.2.1 284 = .ok (.aload_n 0, 1) := by decide +kernel
theorem d184_285 : decode Y184.2.1 285 = .ok (.getfield 104, 3) := by decide +kernel
theorem d184_288 : decode Y184.2.1 288 = .ok (.invokevirtual 114, 3) := by decide +kernel
theorem d184_291 : decode Y184.2.1 291 = .ok (.return_, 1) := by decide +kernel
noncomputable def L184_2 (d : Nat) (a0 : Nat) (x1 : Int32) (m : lt_m) : Option lt_r := lt_run d Y184 2 [some (.inr (.inr (some a0))), some (.inl x1), none] [] m
noncomputable def L184_70 (d : Nat) (a0 : Nat) (x1 : Int32) (m : lt_m) : Option lt_r := lt_run d Y184 70 [some (.inr (.inr (some a0))), some (.inl x1), none] [] m
noncomputable def L184_117 (d : Nat) (a0 : Nat) (x1 : Int32) (xt0 : Int32) (m : lt_m) : Option lt_r := lt_run d Y184 117 [some (.inr (.inr (some a0))), some (.inl x1), none] [.inl xt0] m
noncomputable def L184_135 (d : Nat) (a0 : Nat) (x1 : Int32) (m : lt_m) : Option lt_r := lt_run d Y184 135 [some (.inr (.inr (some a0))), some (.inl x1), none] [] m
noncomputable def L184_157 (d : Nat) (a0 : Nat) (x1 : Int32) (xt0 : Int32) (m : lt_m) : Option lt_r := lt_run d Y184 157 [some (.inr (.inr (some a0))), some (.inl x1), none] [.inl xt0] m
noncomputable def L184_172 (d : Nat) (a0 : Nat) (x1 : Int32) (o2 : Option ts_V) (m : lt_m) : Option lt_r := lt_run d Y184 172 [some (.inr (.inr (some a0))), some (.inl x1), o2] [] m
noncomputable def L184_246 (d : Nat) (a0 : Nat) (x1 : Int32) (x2 : Int32) (xt0 : Int32) (m : lt_m) : Option lt_r := lt_run d Y184 246 [some (.inr (.inr (some a0))), some (.inl x1), some (.inl x2)] [.inl xt0] m
noncomputable def L184_264 (d : Nat) (a0 : Nat) (x1 : Int32) (o2 : Option ts_V) (m : lt_m) : Option lt_r := lt_run d Y184 264 [some (.inr (.inr (some a0))), some (.inl x1), o2] [] m
theorem E184 (d : Nat) (a0 : Nat) (h0 : ts_sh a0 = (0, 12)) (m : lt_m) : lt_ev (d + 1) 184 [.inr (.inr (some a0))] m = L184_2 d a0 (0 : Int32) m := by
  refine Eq.trans (lt_enter2 (ls := [some (.inr (.inr (some a0))), none, none]) hY184 (Nat.le_of_ble_eq_true rfl) (by rfl)) ?_
  refine Eq.trans (li_iconst d184_0 ic_0) ?_
  refine Eq.trans (li_istore_n (ls' := [some (.inr (.inr (some a0))), some (.inl (0 : Int32)), none]) d184_1 (by decide) (by rfl)) ?_
  rfl
theorem E184_2 (d : Nat) (a0 : Nat) (x1 : Int32) (h0 : ts_sh a0 = (0, 12)) (m : lt_m) : L184_2 d a0 x1 m = if (144 : Int32) ≤ x1 then (lt_cV (lt_ev d 185 [.inr (.inr (some a0))] (lm_i (lm_i m a0 22 (0 : Int32)) a0 24 (0 : Int32))) (fun m1 => (if ¬ (m1.1 a0 18) = (-1 : Int32) then (L184_70 d a0 (0 : Int32) m1) else (if (m1.1 a0 16) ≤ (m1.1 a0 17) then (L184_70 d a0 (0 : Int32) m1) else (lt_cI (lt_ev d 186 [.inr (.inr (some a0))] m1) (fun v1 m2 => (if v1 = (124 : Int32) then (L184_70 d a0 (0 : Int32) m2) else (L184_70 d a0 (1 : Int32) m2)))))))) else (lt_gd (0 ≤ x1 ∧ (x1).toNatClampNeg < 144) (L184_2 d a0 (x1 + (1 : Int32)) (lm_i m (a0 + 10) (x1).toNatClampNeg (0 : Int32)))) := by
  show lt_run d Y184 2 [some (.inr (.inr (some a0))), some (.inl x1), none] [] m = _
  refine Eq.trans (li_iload_n d184_2 (by rfl)) ?_
  refine Eq.trans (li_sipush d184_3 si_144) ?_
  refine Eq.trans (li_icmp_ge (t := 22) d184_6 (by rfl)) ?_
  refine lt_ite (fun c1 => ?_) (fun c1 => ?_)
  · refine Eq.trans (li_aload_n d184_22 (by rfl)) ?_
    refine Eq.trans (li_iconst d184_23 ic_0) ?_
    refine Eq.trans (li_puti d184_24 fa_12_136 h0 rfl rfl) ?_
    refine Eq.trans (li_aload_n d184_27 (by rfl)) ?_
    refine Eq.trans (li_iconst d184_28 ic_0) ?_
    refine Eq.trans (li_puti d184_29 fa_12_139 h0 rfl rfl) ?_
    refine Eq.trans (li_aload_n d184_32 (by rfl)) ?_
    refine Eq.trans (li_ivV d184_33 ca_12_142 kd_185 kl_185 (by rfl) (by rfl) h0 (Nat.le_of_ble_eq_true rfl) (Nat.le_of_ble_eq_true rfl)) ?_
    refine lt_cV_c (fun m1 => ?_)
    refine Eq.trans (li_aload_n d184_36 (by rfl)) ?_
    refine Eq.trans (li_geti d184_37 fa_12_107 h0 rfl) ?_
    refine Eq.trans (li_iconst d184_40 ic_n1) ?_
    refine Eq.trans (li_icmp_ne (t := 68) d184_41 (by rfl)) ?_
    refine lt_ite (fun c2 => ?_) (fun c2 => ?_)
    · refine Eq.trans (li_iconst d184_68 ic_0) ?_
      refine Eq.trans (li_istore_n (ls' := [some (.inr (.inr (some a0))), some (.inl (0 : Int32)), none]) d184_69 (by decide) (by rfl)) ?_
      rfl
    · refine Eq.trans (li_aload_n d184_44 (by rfl)) ?_
      refine Eq.trans (li_geti d184_45 fa_12_104 h0 rfl) ?_
      refine Eq.trans (li_aload_n d184_48 (by rfl)) ?_
      refine Eq.trans (li_geti d184_49 fa_12_101 h0 rfl) ?_
      refine Eq.trans (li_icmp_ge (t := 68) d184_52 (by rfl)) ?_
      refine lt_ite (fun c3 => ?_) (fun c3 => ?_)
      · refine Eq.trans (li_iconst d184_68 ic_0) ?_
        refine Eq.trans (li_istore_n (ls' := [some (.inr (.inr (some a0))), some (.inl (0 : Int32)), none]) d184_69 (by decide) (by rfl)) ?_
        rfl
      · refine Eq.trans (li_aload_n d184_55 (by rfl)) ?_
        refine Eq.trans (li_ivI d184_56 ca_12_110 kd_186 kl_186 (by rfl) (by rfl) h0 (Nat.le_of_ble_eq_true rfl) (Nat.le_of_ble_eq_true rfl)) ?_
        refine lt_cI_c (fun v1 m2 => ?_)
        refine Eq.trans (li_bipush d184_59 bi_124) ?_
        refine Eq.trans (li_icmp_eq (t := 68) d184_61 (by rfl)) ?_
        refine lt_ite (fun c4 => ?_) (fun c4 => ?_)
        · refine Eq.trans (li_iconst d184_68 ic_0) ?_
          refine Eq.trans (li_istore_n (ls' := [some (.inr (.inr (some a0))), some (.inl (0 : Int32)), none]) d184_69 (by decide) (by rfl)) ?_
          rfl
        · refine Eq.trans (li_iconst d184_64 ic_1) ?_
          refine Eq.trans (li_goto (t := 69) d184_65 (by rfl)) ?_
          refine Eq.trans (li_istore_n (ls' := [some (.inr (.inr (some a0))), some (.inl (1 : Int32)), none]) d184_69 (by decide) (by rfl)) ?_
          rfl
  · refine Eq.trans (li_aload_n d184_9 (by rfl)) ?_
    refine Eq.trans (li_getr d184_10 fa_12_43 h0 rfl rfl rfl (by decide)) ?_
    refine Eq.trans (li_iload_n d184_13 (by rfl)) ?_
    refine Eq.trans (li_iconst d184_14 ic_0) ?_
    refine Eq.trans (li_iast d184_15 (sf_of h0 21 (by decide) (by decide))) ?_
    refine lt_gd_c (fun g1 => ?_)
    refine Eq.trans (li_iinc (ls' := [some (.inr (.inr (some a0))), some (.inl (x1 + (1 : Int32))), none]) d184_16 (by rfl) (by decide) ic_1 (by rfl)) ?_
    refine Eq.trans (li_goto (t := 2) d184_19 (by rfl)) ?_
    rfl
theorem E184_70 (d : Nat) (a0 : Nat) (x1 : Int32) (h0 : ts_sh a0 = (0, 12)) (m : lt_m) : L184_70 d a0 x1 m = if x1 = 0 then (L184_135 d a0 x1 m) else (if ¬ (m.1 a0 18) = (-1 : Int32) then (L184_135 d a0 x1 m) else (lt_cV (lt_ev d 190 [.inr (.inr (some a0))] m) (fun m1 => (if ¬ (m1.1 a0 18) = (-1 : Int32) then (L184_117 d a0 x1 (0 : Int32) m1) else (lt_cI (lt_ev d 186 [.inr (.inr (some a0))] m1) (fun v1 m2 => (if ¬ v1 = (44 : Int32) then (L184_117 d a0 x1 (0 : Int32) m2) else (if (40 : Int32) ≤ (m2.1 a0 22) then (L184_117 d a0 x1 (0 : Int32) m2) else (L184_117 d a0 x1 (1 : Int32) m2))))))))) := by
  show lt_run d Y184 70 [some (.inr (.inr (some a0))), some (.inl x1), none] [] m = _
  refine Eq.trans (li_iload_n d184_70 (by rfl)) ?_
  refine Eq.trans (li_if_eq (t := 135) d184_71 (by rfl)) ?_
  refine lt_ite (fun c1 => ?_) (fun c1 => ?_)
  · rfl
  · refine Eq.trans (li_aload_n d184_74 (by rfl)) ?_
    refine Eq.trans (li_geti d184_75 fa_12_107 h0 rfl) ?_
    refine Eq.trans (li_iconst d184_78 ic_n1) ?_
    refine Eq.trans (li_icmp_ne (t := 135) d184_79 (by rfl)) ?_
    refine lt_ite (fun c2 => ?_) (fun c2 => ?_)
    · rfl
    · refine Eq.trans (li_aload_n d184_82 (by rfl)) ?_
      refine Eq.trans (li_ivV d184_83 ca_12_145 kd_190 kl_190 (by rfl) (by rfl) h0 (Nat.le_of_ble_eq_true rfl) (Nat.le_of_ble_eq_true rfl)) ?_
      refine lt_cV_c (fun m1 => ?_)
      refine Eq.trans (li_aload_n d184_86 (by rfl)) ?_
      refine Eq.trans (li_geti d184_87 fa_12_107 h0 rfl) ?_
      refine Eq.trans (li_iconst d184_90 ic_n1) ?_
      refine Eq.trans (li_icmp_ne (t := 116) d184_91 (by rfl)) ?_
      refine lt_ite (fun c3 => ?_) (fun c3 => ?_)
      · refine Eq.trans (li_iconst d184_116 ic_0) ?_
        rfl
      · refine Eq.trans (li_aload_n d184_94 (by rfl)) ?_
        refine Eq.trans (li_ivI d184_95 ca_12_110 kd_186 kl_186 (by rfl) (by rfl) h0 (Nat.le_of_ble_eq_true rfl) (Nat.le_of_ble_eq_true rfl)) ?_
        refine lt_cI_c (fun v1 m2 => ?_)
        refine Eq.trans (li_bipush d184_98 bi_44) ?_
        refine Eq.trans (li_icmp_ne (t := 116) d184_100 (by rfl)) ?_
        refine lt_ite (fun c4 => ?_) (fun c4 => ?_)
        · refine Eq.trans (li_iconst d184_116 ic_0) ?_
          rfl
        · refine Eq.trans (li_aload_n d184_103 (by rfl)) ?_
          refine Eq.trans (li_geti d184_104 fa_12_136 h0 rfl) ?_
          refine Eq.trans (li_bipush d184_107 bi_40) ?_
          refine Eq.trans (li_icmp_ge (t := 116) d184_109 (by rfl)) ?_
          refine lt_ite (fun c5 => ?_) (fun c5 => ?_)
          · refine Eq.trans (li_iconst d184_116 ic_0) ?_
            rfl
          · refine Eq.trans (li_iconst d184_112 ic_1) ?_
            refine Eq.trans (li_goto (t := 117) d184_113 (by rfl)) ?_
            rfl
theorem E184_117 (d : Nat) (a0 : Nat) (x1 : Int32) (xt0 : Int32) (h0 : ts_sh a0 = (0, 12)) (m : lt_m) : L184_117 d a0 x1 xt0 m = if xt0 = 0 then (L184_70 d a0 xt0 m) else (L184_70 d a0 xt0 (lm_i m a0 17 ((m.1 a0 17) + (1 : Int32)))) := by
  show lt_run d Y184 117 [some (.inr (.inr (some a0))), some (.inl x1), none] [.inl xt0] m = _
  refine Eq.trans (li_istore_n (ls' := [some (.inr (.inr (some a0))), some (.inl xt0), none]) d184_117 (by decide) (by rfl)) ?_
  refine Eq.trans (li_iload_n d184_118 (by rfl)) ?_
  refine Eq.trans (li_if_eq (t := 70) d184_119 (by rfl)) ?_
  refine lt_ite (fun c1 => ?_) (fun c1 => ?_)
  · rfl
  · refine Eq.trans (li_aload_n d184_122 (by rfl)) ?_
    refine Eq.trans (li_dup d184_123 rfl) ?_
    refine Eq.trans (li_geti d184_124 fa_12_104 h0 rfl) ?_
    refine Eq.trans (li_iconst d184_127 ic_1) ?_
    refine Eq.trans (li_iadd d184_128) ?_
    refine Eq.trans (li_puti d184_129 fa_12_104 h0 rfl rfl) ?_
    refine Eq.trans (li_goto (t := 70) d184_132 (by rfl)) ?_
    rfl
theorem E184_135 (d : Nat) (a0 : Nat) (x1 : Int32) (h0 : ts_sh a0 = (0, 12)) (m : lt_m) : L184_135 d a0 x1 m = if ¬ (m.1 a0 18) = (-1 : Int32) then (L184_157 d a0 x1 (0 : Int32) m) else (lt_cI (lt_ev d 186 [.inr (.inr (some a0))] m) (fun v1 m1 => (if ¬ v1 = (124 : Int32) then (L184_157 d a0 x1 (0 : Int32) m1) else (L184_157 d a0 x1 (1 : Int32) m1)))) := by
  show lt_run d Y184 135 [some (.inr (.inr (some a0))), some (.inl x1), none] [] m = _
  refine Eq.trans (li_aload_n d184_135 (by rfl)) ?_
  refine Eq.trans (li_geti d184_136 fa_12_107 h0 rfl) ?_
  refine Eq.trans (li_iconst d184_139 ic_n1) ?_
  refine Eq.trans (li_icmp_ne (t := 156) d184_140 (by rfl)) ?_
  refine lt_ite (fun c1 => ?_) (fun c1 => ?_)
  · refine Eq.trans (li_iconst d184_156 ic_0) ?_
    rfl
  · refine Eq.trans (li_aload_n d184_143 (by rfl)) ?_
    refine Eq.trans (li_ivI d184_144 ca_12_110 kd_186 kl_186 (by rfl) (by rfl) h0 (Nat.le_of_ble_eq_true rfl) (Nat.le_of_ble_eq_true rfl)) ?_
    refine lt_cI_c (fun v1 m1 => ?_)
    refine Eq.trans (li_bipush d184_147 bi_124) ?_
    refine Eq.trans (li_icmp_ne (t := 156) d184_149 (by rfl)) ?_
    refine lt_ite (fun c2 => ?_) (fun c2 => ?_)
    · refine Eq.trans (li_iconst d184_156 ic_0) ?_
      rfl
    · refine Eq.trans (li_iconst d184_152 ic_1) ?_
      refine Eq.trans (li_goto (t := 157) d184_153 (by rfl)) ?_
      rfl
theorem E184_157 (d : Nat) (a0 : Nat) (x1 : Int32) (xt0 : Int32) (h0 : ts_sh a0 = (0, 12)) (m : lt_m) : L184_157 d a0 x1 xt0 m = if xt0 = 0 then (L184_172 d a0 xt0 none m) else (L184_172 d a0 xt0 none (lm_i m a0 17 ((m.1 a0 17) + (1 : Int32)))) := by
  show lt_run d Y184 157 [some (.inr (.inr (some a0))), some (.inl x1), none] [.inl xt0] m = _
  refine Eq.trans (li_istore_n (ls' := [some (.inr (.inr (some a0))), some (.inl xt0), none]) d184_157 (by decide) (by rfl)) ?_
  refine Eq.trans (li_iload_n d184_158 (by rfl)) ?_
  refine Eq.trans (li_if_eq (t := 172) d184_159 (by rfl)) ?_
  refine lt_ite (fun c1 => ?_) (fun c1 => ?_)
  · rfl
  · refine Eq.trans (li_aload_n d184_162 (by rfl)) ?_
    refine Eq.trans (li_dup d184_163 rfl) ?_
    refine Eq.trans (li_geti d184_164 fa_12_104 h0 rfl) ?_
    refine Eq.trans (li_iconst d184_167 ic_1) ?_
    refine Eq.trans (li_iadd d184_168) ?_
    refine Eq.trans (li_puti d184_169 fa_12_104 h0 rfl rfl) ?_
    rfl
theorem E184_172 (d : Nat) (a0 : Nat) (x1 : Int32) (o2 : Option ts_V) (h0 : ts_sh a0 = (0, 12)) (m : lt_m) : L184_172 d a0 x1 o2 m = if x1 = 0 then (L184_264 d a0 x1 (o2) m) else (if ¬ (m.1 a0 18) = (-1 : Int32) then (L184_264 d a0 x1 (o2) m) else (lt_cI (lt_ev d 188 [.inr (.inr (some a0)), .inl (1 : Int32), .inl (999 : Int32), .inl (3 : Int32)] m) (fun v1 m1 => (if (m1.1 a0 18) = (-1 : Int32) then (lt_gd (0 ≤ (m1.1 a0 24) ∧ ((m1.1 a0 24)).toNatClampNeg < 6) (lt_cI (lt_ev d 186 [.inr (.inr (some a0))] (lm_i (lm_i m1 (a0 + 11) ((m1.1 a0 24)).toNatClampNeg v1) a0 24 (((lm_i m1 (a0 + 11) ((m1.1 a0 24)).toNatClampNeg v1).1 a0 24) + (1 : Int32)))) (fun v2 m2 => (if ¬ v2 = (44 : Int32) then (L184_246 d a0 x1 v1 (0 : Int32) m2) else (if (6 : Int32) ≤ (m2.1 a0 24) then (L184_246 d a0 x1 v1 (0 : Int32) m2) else (L184_246 d a0 x1 v1 (1 : Int32) m2)))))) else (some (none, m1)))))) := by
  show lt_run d Y184 172 [some (.inr (.inr (some a0))), some (.inl x1), o2] [] m = _
  refine Eq.trans (li_iload_n d184_172 (by rfl)) ?_
  refine Eq.trans (li_if_eq (t := 264) d184_173 (by rfl)) ?_
  refine lt_ite (fun c1 => ?_) (fun c1 => ?_)
  · rfl
  · refine Eq.trans (li_aload_n d184_176 (by rfl)) ?_
    refine Eq.trans (li_geti d184_177 fa_12_107 h0 rfl) ?_
    refine Eq.trans (li_iconst d184_180 ic_n1) ?_
    refine Eq.trans (li_icmp_ne (t := 264) d184_181 (by rfl)) ?_
    refine lt_ite (fun c2 => ?_) (fun c2 => ?_)
    · rfl
    · refine Eq.trans (li_aload_n d184_184 (by rfl)) ?_
      refine Eq.trans (li_iconst d184_185 ic_1) ?_
      refine Eq.trans (li_sipush d184_186 si_999) ?_
      refine Eq.trans (li_iconst d184_189 ic_3) ?_
      refine Eq.trans (li_ivI d184_190 ca_12_122 kd_188 kl_188 (by rfl) (by rfl) h0 (Nat.le_of_ble_eq_true rfl) (Nat.le_of_ble_eq_true rfl)) ?_
      refine lt_cI_c (fun v1 m1 => ?_)
      refine Eq.trans (li_istore_n (ls' := [some (.inr (.inr (some a0))), some (.inl x1), some (.inl v1)]) d184_193 (by decide) (by rfl)) ?_
      refine Eq.trans (li_aload_n d184_194 (by rfl)) ?_
      refine Eq.trans (li_geti d184_195 fa_12_107 h0 rfl) ?_
      refine Eq.trans (li_iconst d184_198 ic_n1) ?_
      refine Eq.trans (li_icmp_eq (t := 203) d184_199 (by rfl)) ?_
      refine lt_ite (fun c3 => ?_) (fun c3 => ?_)
      · refine Eq.trans (li_aload_n d184_203 (by rfl)) ?_
        refine Eq.trans (li_getr d184_204 fa_12_46 h0 rfl rfl rfl (by decide)) ?_
        refine Eq.trans (li_aload_n d184_207 (by rfl)) ?_
        refine Eq.trans (li_geti d184_208 fa_12_139 h0 rfl) ?_
        refine Eq.trans (li_iload_n d184_211 (by rfl)) ?_
        refine Eq.trans (li_iast d184_212 (sf_of h0 23 (by decide) (by decide))) ?_
        refine lt_gd_c (fun g1 => ?_)
        refine Eq.trans (li_aload_n d184_213 (by rfl)) ?_
        refine Eq.trans (li_dup d184_214 rfl) ?_
        refine Eq.trans (li_geti d184_215 fa_12_139 h0 rfl) ?_
        refine Eq.trans (li_iconst d184_218 ic_1) ?_
        refine Eq.trans (li_iadd d184_219) ?_
        refine Eq.trans (li_puti d184_220 fa_12_139 h0 rfl rfl) ?_
        refine Eq.trans (li_aload_n d184_223 (by rfl)) ?_
        refine Eq.trans (li_ivI d184_224 ca_12_110 kd_186 kl_186 (by rfl) (by rfl) h0 (Nat.le_of_ble_eq_true rfl) (Nat.le_of_ble_eq_true rfl)) ?_
        refine lt_cI_c (fun v2 m2 => ?_)
        refine Eq.trans (li_bipush d184_227 bi_44) ?_
        refine Eq.trans (li_icmp_ne (t := 245) d184_229 (by rfl)) ?_
        refine lt_ite (fun c4 => ?_) (fun c4 => ?_)
        · refine Eq.trans (li_iconst d184_245 ic_0) ?_
          rfl
        · refine Eq.trans (li_aload_n d184_232 (by rfl)) ?_
          refine Eq.trans (li_geti d184_233 fa_12_139 h0 rfl) ?_
          refine Eq.trans (li_bipush d184_236 bi_6) ?_
          refine Eq.trans (li_icmp_ge (t := 245) d184_238 (by rfl)) ?_
          refine lt_ite (fun c5 => ?_) (fun c5 => ?_)
          · refine Eq.trans (li_iconst d184_245 ic_0) ?_
            rfl
          · refine Eq.trans (li_iconst d184_241 ic_1) ?_
            refine Eq.trans (li_goto (t := 246) d184_242 (by rfl)) ?_
            rfl
      · exact li_vret d184_202 rfl
theorem E184_246 (d : Nat) (a0 : Nat) (x1 : Int32) (x2 : Int32) (xt0 : Int32) (h0 : ts_sh a0 = (0, 12)) (m : lt_m) : L184_246 d a0 x1 x2 xt0 m = if xt0 = 0 then (L184_172 d a0 xt0 (some (.inl x2)) m) else (L184_172 d a0 xt0 (some (.inl x2)) (lm_i m a0 17 ((m.1 a0 17) + (1 : Int32)))) := by
  show lt_run d Y184 246 [some (.inr (.inr (some a0))), some (.inl x1), some (.inl x2)] [.inl xt0] m = _
  refine Eq.trans (li_istore_n (ls' := [some (.inr (.inr (some a0))), some (.inl xt0), some (.inl x2)]) d184_246 (by decide) (by rfl)) ?_
  refine Eq.trans (li_iload_n d184_247 (by rfl)) ?_
  refine Eq.trans (li_if_eq (t := 261) d184_248 (by rfl)) ?_
  refine lt_ite (fun c1 => ?_) (fun c1 => ?_)
  · refine Eq.trans (li_goto (t := 172) d184_261 (by rfl)) ?_
    rfl
  · refine Eq.trans (li_aload_n d184_251 (by rfl)) ?_
    refine Eq.trans (li_dup d184_252 rfl) ?_
    refine Eq.trans (li_geti d184_253 fa_12_104 h0 rfl) ?_
    refine Eq.trans (li_iconst d184_256 ic_1) ?_
    refine Eq.trans (li_iadd d184_257) ?_
    refine Eq.trans (li_puti d184_258 fa_12_104 h0 rfl rfl) ?_
    refine Eq.trans (li_goto (t := 172) d184_261 (by rfl)) ?_
    rfl
theorem E184_264 (d : Nat) (a0 : Nat) (x1 : Int32) (o2 : Option ts_V) (h0 : ts_sh a0 = (0, 12)) (m : lt_m) : L184_264 d a0 x1 o2 m = if ¬ (m.1 a0 18) = (-1 : Int32) then (some (none, m)) else (if (m.1 a0 16) ≤ (m.1 a0 17) then (some (none, m)) else (lt_cV (lt_ev d 187 [.inr (.inr (some a0)), .inl (m.1 a0 17)] m) (fun m1 => (some (none, m1))))) := by
  show lt_run d Y184 264 [some (.inr (.inr (some a0))), some (.inl x1), o2] [] m = _
  refine Eq.trans (li_aload_n d184_264 (by rfl)) ?_
  refine Eq.trans (li_geti d184_265 fa_12_107 h0 rfl) ?_
  refine Eq.trans (li_iconst d184_268 ic_n1) ?_
  refine Eq.trans (li_icmp_ne (t := 291) d184_269 (by rfl)) ?_
  refine lt_ite (fun c1 => ?_) (fun c1 => ?_)
  · exact li_vret d184_291 rfl
  · refine Eq.trans (li_aload_n d184_272 (by rfl)) ?_
    refine Eq.trans (li_geti d184_273 fa_12_104 h0 rfl) ?_
    refine Eq.trans (li_aload_n d184_276 (by rfl)) ?_
    refine Eq.trans (li_geti d184_277 fa_12_101 h0 rfl) ?_
    refine Eq.trans (li_icmp_ge (t := 291) d184_280 (by rfl)) ?_
    refine lt_ite (fun c2 => ?_) (fun c2 => ?_)
    · exact li_vret d184_291 rfl
    · refine Eq.trans (li_aload_n d184_283 (by rfl)) ?_
      refine Eq.trans (li_aload_n d184_284 (by rfl)) ?_
      refine Eq.trans (li_geti d184_285 fa_12_104 h0 rfl) ?_
      refine Eq.trans (li_ivV d184_288 ca_12_114 kd_187 kl_187 (by rfl) (by rfl) h0 (Nat.le_of_ble_eq_true rfl) (Nat.le_of_ble_eq_true rfl)) ?_
      refine lt_cV_c (fun m1 => ?_)
      exact li_vret d184_291 rfl
/-! TransitSealsModel.readsOffices()V -/
theorem d185_0 : decode Y185.2.1 0 = .ok (.aload_n 0, 1) := by decide +kernel
theorem d185_1 : decode Y185.2.1 1 = .ok (.iconst 0, 1) := by decide +kernel
theorem d185_2 : decode Y185.2.1 2 = .ok (.putfield 126, 3) := by decide +kernel
theorem d185_5 : decode Y185.2.1 5 = .ok (.aload_n 0, 1) := by decide +kernel
theorem d185_6 : decode Y185.2.1 6 = .ok (.getfield 107, 3) := by decide +kernel
theorem d185_9 : decode Y185.2.1 9 = .ok (.iconst (-1), 1) := by decide +kernel
theorem d185_10 : decode Y185.2.1 10 = .ok (.if_icmp .ne 77, 3) := by decide +kernel
theorem d185_13 : decode Y185.2.1 13 = .ok (.aload_n 0, 1) := by decide +kernel
theorem d185_14 : decode Y185.2.1 14 = .ok (.getfield 126, 3) := by decide +kernel
theorem d185_17 : decode Y185.2.1 17 = .ok (.iconst 2, 1) := by decide +kernel
theorem d185_18 : decode Y185.2.1 18 = .ok (.if_icmp .lt 12, 3) := by decide +kernel
theorem d185_21 : decode Y185.2.1 21 = .ok (.aload_n 0, 1) := by decide +kernel
theorem d185_22 : decode Y185.2.1 22 = .ok (.invokevirtual 110, 3) := by decide +kernel
theorem d185_25 : decode Y185.2.1 25 = .ok (.bipush 124, 2) := by decide +kernel
theorem d185_27 : decode Y185.2.1 27 = .ok (.if_icmp .eq 60, 3) := by decide +kernel
theorem d185_30 : decode Y185.2.1 30 = .ok (.aload_n 0, 1) := by decide +kernel
theorem d185_31 : decode Y185.2.1 31 = .ok (.getfield 126, 3) := by decide +kernel
theorem d185_34 : decode Y185.2.1 34 = .ok (.bipush 12, 2) := by decide +kernel
theorem d185_36 : decode Y185.2.1 36 = .ok (.if_icmp .ne 11, 3) := by decide +kernel
theorem d185_39 : decode Y185.2.1 39 = .ok (.aload_n 0, 1) := by decide +kernel
theorem d185_40 : decode Y185.2.1 40 = .ok (.aload_n 0, 1) := by decide +kernel
theorem d185_41 : decode Y185.2.1 41 = .ok (.getfield 104, 3) := by decide +kernel
theorem d185_44 : decode Y185.2.1 44 = .ok (.invokevirtual 114, 3) := by decide +kernel
theorem d185_47 : decode Y185.2.1 47 = .ok (.aload_n 0, 1) := by decide +kernel
theorem d185_48 : decode Y185.2.1 48 = .ok (.iconst 0, 1) := by decide +kernel
theorem d185_49 : decode Y185.2.1 49 = .ok (.iconst 5, 1) := by decide +kernel
theorem d185_50 : decode Y185.2.1 50 = .ok (.iconst 1, 1) := by decide +kernel
theorem d185_51 : decode Y185.2.1 51 = .ok (.invokevirtual 122, 3) := by decide +kernel
theorem d185_54 : decode Y185.2.1 54 = .ok (.istore_n 1, 1) := by decide +kernel
theorem d185_55 : decode Y185.2.1 55 = .ok (.aload_n 0, 1) := by decide +kernel
theorem d185_56 : decode Y185.2.1 56 = .ok (.getfield 107, 3) := by decide +kernel
theorem d185_59 : decode Y185.2.1 59 = .ok (.iconst (-1), 1) := by decide +kernel
theorem d185_60 : decode Y185.2.1 60 = .ok (.if_icmp .eq 4, 3) := by decide +kernel
theorem d185_63 : decode Y185.2.1 63 = .ok (.return_, 1) := by decide +kernel
theorem d185_64 : decode Y185.2.1 64 = .ok (.aload_n 0, 1) := by decide +kernel
theorem d185_65 : decode Y185.2.1 65 = .ok (.getfield 40, 3) := by decide +kernel
theorem d185_68 : decode Y185.2.1 68 = .ok (.aload_n 0, 1) := by decide +kernel
theorem d185_69 : decode Y185.2.1 69 = .ok (.getfield 126, 3) := by decide +kernel
theorem d185_72 : decode Y185.2.1 72 = .ok (.iload_n 1, 1) := by decide +kernel
theorem d185_73 : decode Y185.2.1 73 = .ok (.iastore, 1) := by decide +kernel
theorem d185_74 : decode Y185.2.1 74 = .ok (.aload_n 0, 1) := by decide +kernel
theorem d185_75 : decode Y185.2.1 75 = .ok (.dup, 1) := by decide +kernel
theorem d185_76 : decode Y185.2.1 76 = .ok (.getfield 126, 3) := by decide +kernel
theorem d185_79 : decode Y185.2.1 79 = .ok (.iconst 1, 1) := by decide +kernel
theorem d185_80 : decode Y185.2.1 80 = .ok (.iadd, 1) := by decide +kernel
theorem d185_81 : decode Y185.2.1 81 = .ok (.putfield 126, 3) := by decide +kernel
theorem d185_84 : decode Y185.2.1 84 = .ok (.goto (-79), 3) := by decide +kernel
theorem d185_87 : decode Y185.2.1 87 = .ok (.aload_n 0, 1) := by decide +kernel
theorem d185_88 : decode Y185.2.1 88 = .ok (.bipush 124, 2) := by decide +kernel
theorem d185_90 : decode Y185.2.1 90 = .ok (.invokevirtual 129, 3) := by decide +kernel
theorem d185_93 : decode Y185.2.1 93 = .ok (.return_, 1) := by decide +kernel
noncomputable def L185_5 (d : Nat) (a0 : Nat) (o1 : Option ts_V) (m : lt_m) : Option lt_r := lt_run d Y185 5 [some (.inr (.inr (some a0))), o1] [] m
noncomputable def L185_30 (d : Nat) (a0 : Nat) (o1 : Option ts_V) (m : lt_m) : Option lt_r := lt_run d Y185 30 [some (.inr (.inr (some a0))), o1] [] m
noncomputable def L185_47 (d : Nat) (a0 : Nat) (o1 : Option ts_V) (m : lt_m) : Option lt_r := lt_run d Y185 47 [some (.inr (.inr (some a0))), o1] [] m
theorem E185 (d : Nat) (a0 : Nat) (h0 : ts_sh a0 = (0, 12)) (m : lt_m) : lt_ev (d + 1) 185 [.inr (.inr (some a0))] m = L185_5 d a0 none (lm_i m a0 19 (0 : Int32)) := by
  refine Eq.trans (lt_enter2 (ls := [some (.inr (.inr (some a0))), none]) hY185 (Nat.le_of_ble_eq_true rfl) (by rfl)) ?_
  refine Eq.trans (li_aload_n d185_0 (by rfl)) ?_
  refine Eq.trans (li_iconst d185_1 ic_0) ?_
  refine Eq.trans (li_puti d185_2 fa_12_126 h0 rfl rfl) ?_
  rfl
theorem E185_5 (d : Nat) (a0 : Nat) (o1 : Option ts_V) (h0 : ts_sh a0 = (0, 12)) (m : lt_m) : L185_5 d a0 o1 m = if ¬ (m.1 a0 18) = (-1 : Int32) then (lt_cV (lt_ev d 189 [.inr (.inr (some a0)), .inl (124 : Int32)] m) (fun m1 => (some (none, m1)))) else (if (m.1 a0 19) < (2 : Int32) then (L185_30 d a0 (o1) m) else (lt_cI (lt_ev d 186 [.inr (.inr (some a0))] m) (fun v1 m2 => (if v1 = (124 : Int32) then (lt_cV (lt_ev d 189 [.inr (.inr (some a0)), .inl (124 : Int32)] m2) (fun m3 => (some (none, m3)))) else (L185_30 d a0 (o1) m2))))) := by
  show lt_run d Y185 5 [some (.inr (.inr (some a0))), o1] [] m = _
  refine Eq.trans (li_aload_n d185_5 (by rfl)) ?_
  refine Eq.trans (li_geti d185_6 fa_12_107 h0 rfl) ?_
  refine Eq.trans (li_iconst d185_9 ic_n1) ?_
  refine Eq.trans (li_icmp_ne (t := 87) d185_10 (by rfl)) ?_
  refine lt_ite (fun c1 => ?_) (fun c1 => ?_)
  · refine Eq.trans (li_aload_n d185_87 (by rfl)) ?_
    refine Eq.trans (li_bipush d185_88 bi_124) ?_
    refine Eq.trans (li_ivV d185_90 ca_12_129 kd_189 kl_189 (by rfl) (by rfl) h0 (Nat.le_of_ble_eq_true rfl) (Nat.le_of_ble_eq_true rfl)) ?_
    refine lt_cV_c (fun m1 => ?_)
    exact li_vret d185_93 rfl
  · refine Eq.trans (li_aload_n d185_13 (by rfl)) ?_
    refine Eq.trans (li_geti d185_14 fa_12_126 h0 rfl) ?_
    refine Eq.trans (li_iconst d185_17 ic_2) ?_
    refine Eq.trans (li_icmp_lt (t := 30) d185_18 (by rfl)) ?_
    refine lt_ite (fun c2 => ?_) (fun c2 => ?_)
    · rfl
    · refine Eq.trans (li_aload_n d185_21 (by rfl)) ?_
      refine Eq.trans (li_ivI d185_22 ca_12_110 kd_186 kl_186 (by rfl) (by rfl) h0 (Nat.le_of_ble_eq_true rfl) (Nat.le_of_ble_eq_true rfl)) ?_
      refine lt_cI_c (fun v1 m2 => ?_)
      refine Eq.trans (li_bipush d185_25 bi_124) ?_
      refine Eq.trans (li_icmp_eq (t := 87) d185_27 (by rfl)) ?_
      refine lt_ite (fun c3 => ?_) (fun c3 => ?_)
      · refine Eq.trans (li_aload_n d185_87 (by rfl)) ?_
        refine Eq.trans (li_bipush d185_88 bi_124) ?_
        refine Eq.trans (li_ivV d185_90 ca_12_129 kd_189 kl_189 (by rfl) (by rfl) h0 (Nat.le_of_ble_eq_true rfl) (Nat.le_of_ble_eq_true rfl)) ?_
        refine lt_cV_c (fun m3 => ?_)
        exact li_vret d185_93 rfl
      · rfl
theorem E185_30 (d : Nat) (a0 : Nat) (o1 : Option ts_V) (h0 : ts_sh a0 = (0, 12)) (m : lt_m) : L185_30 d a0 o1 m = if ¬ (m.1 a0 19) = (12 : Int32) then (L185_47 d a0 (o1) m) else (lt_cV (lt_ev d 187 [.inr (.inr (some a0)), .inl (m.1 a0 17)] m) (fun m1 => (L185_47 d a0 (o1) m1))) := by
  show lt_run d Y185 30 [some (.inr (.inr (some a0))), o1] [] m = _
  refine Eq.trans (li_aload_n d185_30 (by rfl)) ?_
  refine Eq.trans (li_geti d185_31 fa_12_126 h0 rfl) ?_
  refine Eq.trans (li_bipush d185_34 bi_12) ?_
  refine Eq.trans (li_icmp_ne (t := 47) d185_36 (by rfl)) ?_
  refine lt_ite (fun c1 => ?_) (fun c1 => ?_)
  · rfl
  · refine Eq.trans (li_aload_n d185_39 (by rfl)) ?_
    refine Eq.trans (li_aload_n d185_40 (by rfl)) ?_
    refine Eq.trans (li_geti d185_41 fa_12_104 h0 rfl) ?_
    refine Eq.trans (li_ivV d185_44 ca_12_114 kd_187 kl_187 (by rfl) (by rfl) h0 (Nat.le_of_ble_eq_true rfl) (Nat.le_of_ble_eq_true rfl)) ?_
    refine lt_cV_c (fun m1 => ?_)
    rfl
theorem E185_47 (d : Nat) (a0 : Nat) (o1 : Option ts_V) (h0 : ts_sh a0 = (0, 12)) (m : lt_m) : L185_47 d a0 o1 m = lt_cI (lt_ev d 188 [.inr (.inr (some a0)), .inl (0 : Int32), .inl (5 : Int32), .inl (1 : Int32)] m) (fun v1 m1 => (if (m1.1 a0 18) = (-1 : Int32) then (lt_gd (0 ≤ (m1.1 a0 19) ∧ ((m1.1 a0 19)).toNatClampNeg < 12) (L185_5 d a0 (some (.inl v1)) (lm_i (lm_i m1 (a0 + 9) ((m1.1 a0 19)).toNatClampNeg v1) a0 19 (((lm_i m1 (a0 + 9) ((m1.1 a0 19)).toNatClampNeg v1).1 a0 19) + (1 : Int32))))) else (some (none, m1)))) := by
  show lt_run d Y185 47 [some (.inr (.inr (some a0))), o1] [] m = _
  refine Eq.trans (li_aload_n d185_47 (by rfl)) ?_
  refine Eq.trans (li_iconst d185_48 ic_0) ?_
  refine Eq.trans (li_iconst d185_49 ic_5) ?_
  refine Eq.trans (li_iconst d185_50 ic_1) ?_
  refine Eq.trans (li_ivI d185_51 ca_12_122 kd_188 kl_188 (by rfl) (by rfl) h0 (Nat.le_of_ble_eq_true rfl) (Nat.le_of_ble_eq_true rfl)) ?_
  refine lt_cI_c (fun v1 m1 => ?_)
  refine Eq.trans (li_istore_n (ls' := [some (.inr (.inr (some a0))), some (.inl v1)]) d185_54 (by decide) (by rfl)) ?_
  refine Eq.trans (li_aload_n d185_55 (by rfl)) ?_
  refine Eq.trans (li_geti d185_56 fa_12_107 h0 rfl) ?_
  refine Eq.trans (li_iconst d185_59 ic_n1) ?_
  refine Eq.trans (li_icmp_eq (t := 64) d185_60 (by rfl)) ?_
  refine lt_ite (fun c1 => ?_) (fun c1 => ?_)
  · refine Eq.trans (li_aload_n d185_64 (by rfl)) ?_
    refine Eq.trans (li_getr d185_65 fa_12_40 h0 rfl rfl rfl (by decide)) ?_
    refine Eq.trans (li_aload_n d185_68 (by rfl)) ?_
    refine Eq.trans (li_geti d185_69 fa_12_126 h0 rfl) ?_
    refine Eq.trans (li_iload_n d185_72 (by rfl)) ?_
    refine Eq.trans (li_iast d185_73 (sf_of h0 20 (by decide) (by decide))) ?_
    refine lt_gd_c (fun g1 => ?_)
    refine Eq.trans (li_aload_n d185_74 (by rfl)) ?_
    refine Eq.trans (li_dup d185_75 rfl) ?_
    refine Eq.trans (li_geti d185_76 fa_12_126 h0 rfl) ?_
    refine Eq.trans (li_iconst d185_79 ic_1) ?_
    refine Eq.trans (li_iadd d185_80) ?_
    refine Eq.trans (li_puti d185_81 fa_12_126 h0 rfl rfl) ?_
    refine Eq.trans (li_goto (t := 5) d185_84 (by rfl)) ?_
    rfl
  · exact li_vret d185_63 rfl
/-! TransitSealsModel.sees()I -/
theorem d186_0 : decode Y186.2.1 0 = .ok (.aload_n 0, 1) := by decide +kernel
theorem d186_1 : decode Y186.2.1 1 = .ok (.getfield 104, 3) := by decide +kernel
theorem d186_4 : decode Y186.2.1 4 = .ok (.aload_n 0, 1) := by decide +kernel
theorem d186_5 : decode Y186.2.1 5 = .ok (.getfield 101, 3) := by decide +kernel
theorem d186_8 : decode Y186.2.1 8 = .ok (.if_icmp .ge 19, 3) := by decide +kernel
theorem d186_11 : decode Y186.2.1 11 = .ok (.aload_n 0, 1) := by decide +kernel
theorem d186_12 : decode Y186.2.1 12 = .ok (.getfield 32, 3) := by decide +kernel
theorem d186_15 : decode Y186.2.1 15 = .ok (.aload_n 0, 1) := by decide +kernel
theorem d186_16 : decode Y186.2.1 16 = .ok (.getfield 104, 3) := by decide +kernel
theorem d186_19 : decode Y186.2.1 19 = .ok (.baload, 1) := by decide +kernel
theorem d186_20 : decode Y186.2.1 20 = .ok (.sipush 255, 3) := by decide +kernel
theorem d186_23 : decode Y186.2.1 23 = .ok (.iand, 1) := by decide +kernel
theorem d186_24 : decode Y186.2.1 24 = .ok (.goto 4, 3) := by decide +kernel
theorem d186_27 : decode Y186.2.1 27 = .ok (.iconst (-1), 1) := by decide +kernel
theorem d186_28 : decode Y186.2.1 28 = .ok (.ireturn, 1) := by decide +kernel
theorem E186 (d : Nat) (a0 : Nat) (h0 : ts_sh a0 = (0, 12)) (m : lt_m) : lt_ev (d + 1) 186 [.inr (.inr (some a0))] m = if (m.1 a0 16) ≤ (m.1 a0 17) then (some (some (.inl (-1 : Int32)), m)) else (lt_gd (0 ≤ (m.1 a0 17) ∧ ((m.1 a0 17)).toNatClampNeg < 200) (some (some (.inl ((m.1 (a0 + 7) ((m.1 a0 17)).toNatClampNeg) &&& (255 : Int32))), m))) := by
  refine Eq.trans (lt_enter2 (ls := [some (.inr (.inr (some a0)))]) hY186 (Nat.le_of_ble_eq_true rfl) (by rfl)) ?_
  refine Eq.trans (li_aload_n d186_0 (by rfl)) ?_
  refine Eq.trans (li_geti d186_1 fa_12_104 h0 rfl) ?_
  refine Eq.trans (li_aload_n d186_4 (by rfl)) ?_
  refine Eq.trans (li_geti d186_5 fa_12_101 h0 rfl) ?_
  refine Eq.trans (li_icmp_ge (t := 27) d186_8 (by rfl)) ?_
  refine lt_ite (fun c1 => ?_) (fun c1 => ?_)
  · refine Eq.trans (li_iconst d186_27 ic_n1) ?_
    exact li_iret d186_28 rfl
  · refine Eq.trans (li_aload_n d186_11 (by rfl)) ?_
    refine Eq.trans (li_getr d186_12 fa_12_32 h0 rfl rfl rfl (by decide)) ?_
    refine Eq.trans (li_aload_n d186_15 (by rfl)) ?_
    refine Eq.trans (li_geti d186_16 fa_12_104 h0 rfl) ?_
    refine Eq.trans (li_bald d186_19 (sf_of h0 11 (by decide) (by decide))) ?_
    refine lt_gd_c (fun g1 => ?_)
    refine Eq.trans (li_sipush d186_20 si_255) ?_
    refine Eq.trans (li_iand d186_23) ?_
    refine Eq.trans (li_goto (t := 28) d186_24 (by rfl)) ?_
    exact li_iret d186_28 rfl
/-! TransitSealsModel.fault(I)V -/
theorem d187_0 : decode Y187.2.1 0 = .ok (.aload_n 0, 1) := by decide +kernel
theorem d187_1 : decode Y187.2.1 1 = .ok (.getfield 107, 3) := by decide +kernel
theorem d187_4 : decode Y187.2.1 4 = .ok (.iconst (-1), 1) := by decide +kernel
theorem d187_5 : decode Y187.2.1 5 = .ok (.if_icmp .ne 8, 3) := by decide +kernel
theorem d187_8 : decode Y187.2.1 8 = .ok (.aload_n 0, 1) := by decide +kernel
theorem d187_9 : decode Y187.2.1 9 = .ok (.iload_n 1, 1) := by decide +kernel
theorem d187_10 : decode Y187.2.1 10 = .ok (.putfield 107, 3) := by decide +kernel
theorem d187_13 : decode Y187.2.1 13 = .ok (.return_, 1) := by decide +kernel
theorem E187 (d : Nat) (a0 : Nat) (x1 : Int32) (h0 : ts_sh a0 = (0, 12)) (m : lt_m) : lt_ev (d + 1) 187 [.inr (.inr (some a0)), .inl x1] m = if ¬ (m.1 a0 18) = (-1 : Int32) then (some (none, m)) else (some (none, (lm_i m a0 18 x1))) := by
  refine Eq.trans (lt_enter2 (ls := [some (.inr (.inr (some a0))), some (.inl x1)]) hY187 (Nat.le_of_ble_eq_true rfl) (by rfl)) ?_
  refine Eq.trans (li_aload_n d187_0 (by rfl)) ?_
  refine Eq.trans (li_geti d187_1 fa_12_107 h0 rfl) ?_
  refine Eq.trans (li_iconst d187_4 ic_n1) ?_
  refine Eq.trans (li_icmp_ne (t := 13) d187_5 (by rfl)) ?_
  refine lt_ite (fun c1 => ?_) (fun c1 => ?_)
  · exact li_vret d187_13 rfl
  · refine Eq.trans (li_aload_n d187_8 (by rfl)) ?_
    refine Eq.trans (li_iload_n d187_9 (by rfl)) ?_
    refine Eq.trans (li_puti d187_10 fa_12_107 h0 rfl rfl) ?_
    exact li_vret d187_13 rfl
/-! TransitSealsModel.number(III)I -/
theorem d188_0 : decode Y188.2.1 0 = .ok (.aload_n 0, 1) := by decide +kernel
theorem d188_1 : decode Y188.2.1 1 = .ok (.getfield 107, 3) := by decide +kernel
theorem d188_4 : decode Y188.2.1 4 = .ok (.iconst (-1), 1) := by decide +kernel
theorem d188_5 : decode Y188.2.1 5 = .ok (.if_icmp .eq 5, 3) := by decide +kernel
theorem d188_8 : decode Y188.2.1 8 = .ok (.iload_n 1, 1) := by decide +kernel
theorem d188_9 : decode Y188.2.1 9 = .ok (.ireturn, 1) := by decide +kernel
theorem d188_10 : decode Y188.2.1 10 = .ok (.iconst 0, 1) := by decide +kernel
theorem d188_11 : decode Y188.2.1 11 = .ok (.istore 4, 2) := by decide +kernel
theorem d188_13 : decode Y188.2.1 13 = .ok (.iconst 0, 1) := by decide +kernel
theorem d188_14 : decode Y188.2.1 14 = .ok (.istore 5, 2) := by decide +kernel
theorem d188_16 : decode Y188.2.1 16 = .ok (.iload 5, 2) := by decide +kernel
theorem d188_18 : decode Y188.2.1 18 = .ok (.iload_n 3, 1) := by decide +kernel
theorem d188_19 : decode Y188.2.1 19 = .ok (.if_icmp .ge 61, 3) := by decide +kernel
theorem d188_22 : decode Y188.2.1 22 = .ok (.iload 5, 2) := by decide +kernel
theorem d188_24 : decode Y188.2.1 24 = .ok (.ifCond .eq 8, 3) := by decide +kernel
theorem d188_27 : decode Y188.2.1 27 = .ok (.iload 4, 2) := by decide +kernel
theorem d188_29 : decode Y188.2.1 29 = .ok (.ifCond .le 51, 3) := by decide +kernel
theorem d188_32 : decode Y188.2.1 32 = .ok (.aload_n 0, 1) := by decide +kernel
theorem d188_33 : decode Y188.2.1 33 = .ok (.invokevirtual 110, 3) := by decide +kernel
theorem d188_36 : decode Y188.2.1 36 = .ok (.i2l, 1) := by decide +kernel
theorem d188_37 : decode Y188.2.1 37 = .ok (.ldc2_w 118, 3) := by decide +kernel
theorem d188_40 : decode Y188.2.1 40 = .ok (.ldc2_w 120, 3) := by decide +kernel
theorem d188_43 : decode Y188.2.1 43 = .ok (.invokestatic 76, 3) := by decide +kernel
theorem d188_46 : decode Y188.2.1 46 = .ok (.ifCond .eq 34, 3) := by decide +kernel
theorem d188_49 : decode Y188.2.1 49 = .ok (.bipush 10, 2) := by decide +kernel
theorem d188_51 : decode Y188.2.1 51 = .ok (.iload 4, 2) := by decide +kernel
theorem d188_53 : decode Y188.2.1 53 = .ok (.imul, 1) := by decide +kernel
theorem d188_54 : decode Y188.2.1 54 = .ok (.aload_n 0, 1) := by decide +kernel
theorem d188_55 : decode Y188.2.1 55 = .ok (.invokevirtual 110, 3) := by decide +kernel
theorem d188_58 : decode Y188.2.1 58 = .ok (.iadd, 1) := by decide +kernel
theorem d188_59 : decode Y188.2.1 59 = .ok (.bipush 48, 2) := by decide +kernel
theorem d188_61 : decode Y188.2.1 61 = .ok (.isub, 1) := by decide +kernel
theorem d188_62 : decode Y188.2.1 62 = .ok (.istore 4, 2) := by decide +kernel
theorem d188_64 : decode Y188.2.1 64 = .ok (.aload_n 0, 1) := by decide +kernel
theorem d188_65 : decode Y188.2.1 65 = .ok (.dup, 1) := by decide +kernel
theorem d188_66 : decode Y188.2.1 66 = .ok (.getfield 104, 3) := by decide +kernel
theorem d188_69 : decode Y188.2.1 69 = .ok (.iconst 1, 1) := by decide +kernel
theorem d188_70 : decode Y188.2.1 70 = .ok (.iadd, 1) := by decide +kernel
theorem d188_71 : decode Y188.2.1 71 = .ok (.putfield 104, 3) := by decide +kernel
theorem d188_74 : decode Y188.2.1 74 = .ok (.iinc 5 1, 3) := by decide +kernel
theorem d188_77 : decode Y188.2.1 77 = .ok (.goto (-61), 3) := by decide +kernel
theorem d188_80 : decode Y188.2.1 80 = .ok (.iload 5, 2) := by decide +kernel
theorem d188_82 : decode Y188.2.1 82 = .ok (.ifCond .ne 14, 3) := by decide +kernel
theorem d188_85 : decode Y188.2.1 85 = .ok (.aload_n 0, 1) := by decide +kernel
theorem d188_86 : decode Y188.2.1 86 = .ok (.aload_n 0, 1) := by decide +kernel
theorem d188_87 : decode Y188.2.1 87 = .ok (.getfield 104, 3) := by decide +kernel
theorem d188_90 : decode Y188.2.1 90 = .ok (.invokevirtual 114, 3) := by decide +kernel
theorem d188_93 : decode Y188.2.1 93 = .ok (.goto 26, 3) := by decide +kernel
theorem d188_96 : decode Y188.2.1 96 = .ok (.iload 4, 2) := by decide +kernel
theorem d188_98 : decode Y188.2.1 98 = .ok (.i2l, 1) := by decide +kernel
theorem d188_99 : decode Y188.2.1 99 = .ok (.iload_n 1, 1) := by decide +kernel
theorem d188_100 : decode Y188.2.1 100 = .ok (.i2l, 1) := by decide +kernel
theorem d188_101 : decode Y188.2.1 101 = .ok (.iload_n 2, 1) := by decide +kernel
theorem d188_102 : decode Y188.2.1 102 = .ok (.i2l, 1) := by decide +kernel
theorem d188_103 : decode Y188.2.1 103 = .ok (.invokestatic 76, 3) := by decide +kernel
theorem d188_106 : decode Y188.2.1 106 = .ok (.ifCond .ne 13, 3) := by decide +kernel
theorem d188_109 : decode Y188.2.1 109 = .ok (.aload_n 0, 1) := by decide +kernel
theorem d188_110 : decode Y188.2.1 110 = .ok (.aload_n 0, 1) := by decide +kernel
theorem d188_111 : decode Y188.2.1 111 = .ok (.getfield 104, 3) := by decide +kernel
theorem d188_114 : decode Y188.2.1 114 = .ok (.iconst 1, 1) := by decide +kernel
theorem d188_115 : decode Y188.2.1 115 = .ok (.isub, 1) := by decide +kernel
theorem d188_116 : decode Y188.2.1 116 = .ok (.invokevirtual 114, 3) := by decide +kernel
theorem d188_119 : decode Y188.2.1 119 = .ok (.iload 4, 2) := by decide +kernel
theorem d188_121 : decode Y188.2.1 121 = .ok (.ireturn, 1) := by decide +kernel
noncomputable def L188_16 (d : Nat) (a0 : Nat) (x1 : Int32) (x2 : Int32) (x3 : Int32) (x4 : Int32) (x5 : Int32) (m : lt_m) : Option lt_r := lt_run d Y188 16 [some (.inr (.inr (some a0))), some (.inl x1), some (.inl x2), some (.inl x3), some (.inl x4), some (.inl x5)] [] m
noncomputable def L188_32 (d : Nat) (a0 : Nat) (x1 : Int32) (x2 : Int32) (x3 : Int32) (x4 : Int32) (x5 : Int32) (m : lt_m) : Option lt_r := lt_run d Y188 32 [some (.inr (.inr (some a0))), some (.inl x1), some (.inl x2), some (.inl x3), some (.inl x4), some (.inl x5)] [] m
noncomputable def L188_80 (d : Nat) (a0 : Nat) (x1 : Int32) (x2 : Int32) (x3 : Int32) (x4 : Int32) (x5 : Int32) (m : lt_m) : Option lt_r := lt_run d Y188 80 [some (.inr (.inr (some a0))), some (.inl x1), some (.inl x2), some (.inl x3), some (.inl x4), some (.inl x5)] [] m
theorem E188 (d : Nat) (a0 : Nat) (x1 : Int32) (x2 : Int32) (x3 : Int32) (h0 : ts_sh a0 = (0, 12)) (m : lt_m) : lt_ev (d + 1) 188 [.inr (.inr (some a0)), .inl x1, .inl x2, .inl x3] m = if (m.1 a0 18) = (-1 : Int32) then (L188_16 d a0 x1 x2 x3 (0 : Int32) (0 : Int32) m) else (some (some (.inl x1), m)) := by
  refine Eq.trans (lt_enter2 (ls := [some (.inr (.inr (some a0))), some (.inl x1), some (.inl x2), some (.inl x3), none, none]) hY188 (Nat.le_of_ble_eq_true rfl) (by rfl)) ?_
  refine Eq.trans (li_aload_n d188_0 (by rfl)) ?_
  refine Eq.trans (li_geti d188_1 fa_12_107 h0 rfl) ?_
  refine Eq.trans (li_iconst d188_4 ic_n1) ?_
  refine Eq.trans (li_icmp_eq (t := 10) d188_5 (by rfl)) ?_
  refine lt_ite (fun c1 => ?_) (fun c1 => ?_)
  · refine Eq.trans (li_iconst d188_10 ic_0) ?_
    refine Eq.trans (li_istore (ls' := [some (.inr (.inr (some a0))), some (.inl x1), some (.inl x2), some (.inl x3), some (.inl (0 : Int32)), none]) d188_11 (by decide) (by rfl)) ?_
    refine Eq.trans (li_iconst d188_13 ic_0) ?_
    refine Eq.trans (li_istore (ls' := [some (.inr (.inr (some a0))), some (.inl x1), some (.inl x2), some (.inl x3), some (.inl (0 : Int32)), some (.inl (0 : Int32))]) d188_14 (by decide) (by rfl)) ?_
    rfl
  · refine Eq.trans (li_iload_n d188_8 (by rfl)) ?_
    exact li_iret d188_9 rfl
theorem E188_16 (d : Nat) (a0 : Nat) (x1 : Int32) (x2 : Int32) (x3 : Int32) (x4 : Int32) (x5 : Int32)  (m : lt_m) : L188_16 d a0 x1 x2 x3 x4 x5 m = if x3 ≤ x5 then (L188_80 d a0 x1 x2 x3 x4 x5 m) else (if x5 = 0 then (L188_32 d a0 x1 x2 x3 x4 x5 m) else (if x4 ≤ 0 then (L188_80 d a0 x1 x2 x3 x4 x5 m) else (L188_32 d a0 x1 x2 x3 x4 x5 m))) := by
  show lt_run d Y188 16 [some (.inr (.inr (some a0))), some (.inl x1), some (.inl x2), some (.inl x3), some (.inl x4), some (.inl x5)] [] m = _
  refine Eq.trans (li_iload d188_16 (by rfl)) ?_
  refine Eq.trans (li_iload_n d188_18 (by rfl)) ?_
  refine Eq.trans (li_icmp_ge (t := 80) d188_19 (by rfl)) ?_
  refine lt_ite (fun c1 => ?_) (fun c1 => ?_)
  · rfl
  · refine Eq.trans (li_iload d188_22 (by rfl)) ?_
    refine Eq.trans (li_if_eq (t := 32) d188_24 (by rfl)) ?_
    refine lt_ite (fun c2 => ?_) (fun c2 => ?_)
    · rfl
    · refine Eq.trans (li_iload d188_27 (by rfl)) ?_
      refine Eq.trans (li_if_le (t := 80) d188_29 (by rfl)) ?_
      refine lt_ite (fun c3 => ?_) (fun c3 => ?_)
      · rfl
      · rfl
theorem E188_32 (d : Nat) (a0 : Nat) (x1 : Int32) (x2 : Int32) (x3 : Int32) (x4 : Int32) (x5 : Int32) (h0 : ts_sh a0 = (0, 12)) (m : lt_m) : L188_32 d a0 x1 x2 x3 x4 x5 m = lt_cI (lt_ev d 186 [.inr (.inr (some a0))] m) (fun v1 m1 => (lt_cI (lt_ev d 181 [.inr (.inl ((v1).toInt64)), .inr (.inl (48 : Int64)), .inr (.inl (57 : Int64))] m1) (fun v2 m2 => (if v2 = 0 then (L188_80 d a0 x1 x2 x3 x4 x5 m2) else (lt_cI (lt_ev d 186 [.inr (.inr (some a0))] m2) (fun v3 m3 => (L188_16 d a0 x1 x2 x3 ((((10 : Int32) * x4) + v3) - (48 : Int32)) (x5 + (1 : Int32)) (lm_i m3 a0 17 ((m3.1 a0 17) + (1 : Int32)))))))))) := by
  show lt_run d Y188 32 [some (.inr (.inr (some a0))), some (.inl x1), some (.inl x2), some (.inl x3), some (.inl x4), some (.inl x5)] [] m = _
  refine Eq.trans (li_aload_n d188_32 (by rfl)) ?_
  refine Eq.trans (li_ivI d188_33 ca_12_110 kd_186 kl_186 (by rfl) (by rfl) h0 (Nat.le_of_ble_eq_true rfl) (Nat.le_of_ble_eq_true rfl)) ?_
  refine lt_cI_c (fun v1 m1 => ?_)
  refine Eq.trans (li_i2l d188_36) ?_
  refine Eq.trans (li_ldc2_w d188_37 cJ_12_118) ?_
  refine Eq.trans (li_ldc2_w d188_40 cJ_12_120) ?_
  refine Eq.trans (li_isI d188_43 bi_12_76 ca_12_76 kd_181 (by rfl) (by rfl) (Nat.le_of_ble_eq_true rfl) (Nat.le_of_ble_eq_true rfl)) ?_
  refine lt_cI_c (fun v2 m2 => ?_)
  refine Eq.trans (li_if_eq (t := 80) d188_46 (by rfl)) ?_
  refine lt_ite (fun c1 => ?_) (fun c1 => ?_)
  · rfl
  · refine Eq.trans (li_bipush d188_49 bi_10) ?_
    refine Eq.trans (li_iload d188_51 (by rfl)) ?_
    refine Eq.trans (li_imul d188_53) ?_
    refine Eq.trans (li_aload_n d188_54 (by rfl)) ?_
    refine Eq.trans (li_ivI d188_55 ca_12_110 kd_186 kl_186 (by rfl) (by rfl) h0 (Nat.le_of_ble_eq_true rfl) (Nat.le_of_ble_eq_true rfl)) ?_
    refine lt_cI_c (fun v3 m3 => ?_)
    refine Eq.trans (li_iadd d188_58) ?_
    refine Eq.trans (li_bipush d188_59 bi_48) ?_
    refine Eq.trans (li_isub d188_61) ?_
    refine Eq.trans (li_istore (ls' := [some (.inr (.inr (some a0))), some (.inl x1), some (.inl x2), some (.inl x3), some (.inl ((((10 : Int32) * x4) + v3) - (48 : Int32))), some (.inl x5)]) d188_62 (by decide) (by rfl)) ?_
    refine Eq.trans (li_aload_n d188_64 (by rfl)) ?_
    refine Eq.trans (li_dup d188_65 rfl) ?_
    refine Eq.trans (li_geti d188_66 fa_12_104 h0 rfl) ?_
    refine Eq.trans (li_iconst d188_69 ic_1) ?_
    refine Eq.trans (li_iadd d188_70) ?_
    refine Eq.trans (li_puti d188_71 fa_12_104 h0 rfl rfl) ?_
    refine Eq.trans (li_iinc (ls' := [some (.inr (.inr (some a0))), some (.inl x1), some (.inl x2), some (.inl x3), some (.inl ((((10 : Int32) * x4) + v3) - (48 : Int32))), some (.inl (x5 + (1 : Int32)))]) d188_74 (by rfl) (by decide) ic_1 (by rfl)) ?_
    refine Eq.trans (li_goto (t := 16) d188_77 (by rfl)) ?_
    rfl
theorem E188_80 (d : Nat) (a0 : Nat) (x1 : Int32) (x2 : Int32) (x3 : Int32) (x4 : Int32) (x5 : Int32) (h0 : ts_sh a0 = (0, 12)) (m : lt_m) : L188_80 d a0 x1 x2 x3 x4 x5 m = if ¬ x5 = 0 then (lt_cI (lt_ev d 181 [.inr (.inl ((x4).toInt64)), .inr (.inl ((x1).toInt64)), .inr (.inl ((x2).toInt64))] m) (fun v1 m1 => (if ¬ v1 = 0 then (some (some (.inl x4), m1)) else (lt_cV (lt_ev d 187 [.inr (.inr (some a0)), .inl ((m1.1 a0 17) - (1 : Int32))] m1) (fun m2 => (some (some (.inl x4), m2))))))) else (lt_cV (lt_ev d 187 [.inr (.inr (some a0)), .inl (m.1 a0 17)] m) (fun m3 => (some (some (.inl x4), m3)))) := by
  show lt_run d Y188 80 [some (.inr (.inr (some a0))), some (.inl x1), some (.inl x2), some (.inl x3), some (.inl x4), some (.inl x5)] [] m = _
  refine Eq.trans (li_iload d188_80 (by rfl)) ?_
  refine Eq.trans (li_if_ne (t := 96) d188_82 (by rfl)) ?_
  refine lt_ite (fun c1 => ?_) (fun c1 => ?_)
  · refine Eq.trans (li_iload d188_96 (by rfl)) ?_
    refine Eq.trans (li_i2l d188_98) ?_
    refine Eq.trans (li_iload_n d188_99 (by rfl)) ?_
    refine Eq.trans (li_i2l d188_100) ?_
    refine Eq.trans (li_iload_n d188_101 (by rfl)) ?_
    refine Eq.trans (li_i2l d188_102) ?_
    refine Eq.trans (li_isI d188_103 bi_12_76 ca_12_76 kd_181 (by rfl) (by rfl) (Nat.le_of_ble_eq_true rfl) (Nat.le_of_ble_eq_true rfl)) ?_
    refine lt_cI_c (fun v1 m1 => ?_)
    refine Eq.trans (li_if_ne (t := 119) d188_106 (by rfl)) ?_
    refine lt_ite (fun c2 => ?_) (fun c2 => ?_)
    · refine Eq.trans (li_iload d188_119 (by rfl)) ?_
      exact li_iret d188_121 rfl
    · refine Eq.trans (li_aload_n d188_109 (by rfl)) ?_
      refine Eq.trans (li_aload_n d188_110 (by rfl)) ?_
      refine Eq.trans (li_geti d188_111 fa_12_104 h0 rfl) ?_
      refine Eq.trans (li_iconst d188_114 ic_1) ?_
      refine Eq.trans (li_isub d188_115) ?_
      refine Eq.trans (li_ivV d188_116 ca_12_114 kd_187 kl_187 (by rfl) (by rfl) h0 (Nat.le_of_ble_eq_true rfl) (Nat.le_of_ble_eq_true rfl)) ?_
      refine lt_cV_c (fun m2 => ?_)
      refine Eq.trans (li_iload d188_119 (by rfl)) ?_
      exact li_iret d188_121 rfl
  · refine Eq.trans (li_aload_n d188_85 (by rfl)) ?_
    refine Eq.trans (li_aload_n d188_86 (by rfl)) ?_
    refine Eq.trans (li_geti d188_87 fa_12_104 h0 rfl) ?_
    refine Eq.trans (li_ivV d188_90 ca_12_114 kd_187 kl_187 (by rfl) (by rfl) h0 (Nat.le_of_ble_eq_true rfl) (Nat.le_of_ble_eq_true rfl)) ?_
    refine lt_cV_c (fun m3 => ?_)
    refine Eq.trans (li_goto (t := 119) d188_93 (by rfl)) ?_
    refine Eq.trans (li_iload d188_119 (by rfl)) ?_
    exact li_iret d188_121 rfl
/-! TransitSealsModel.expect(C)V -/
theorem d189_0 : decode Y189.2.1 0 = .ok (.aload_n 0, 1) := by decide +kernel
theorem d189_1 : decode Y189.2.1 1 = .ok (.getfield 107, 3) := by decide +kernel
theorem d189_4 : decode Y189.2.1 4 = .ok (.iconst (-1), 1) := by decide +kernel
theorem d189_5 : decode Y189.2.1 5 = .ok (.if_icmp .eq 4, 3) := by decide +kernel
theorem d189_8 : decode Y189.2.1 8 = .ok (.return_, 1) := by decide +kernel
theorem d189_9 : decode Y189.2.1 9 = .ok (.aload_n 0, 1) := by decide +kernel
theorem d189_10 : decode Y189.2.1 10 = .ok (.invokevirtual 110, 3) := by decide +kernel
theorem d189_13 : decode Y189.2.1 13 = .ok (.iload_n 1, 1) := by decide +kernel
theorem d189_14 : decode Y189.2.1 14 = .ok (.if_icmp .ne 16, 3) := by decide +kernel
theorem d189_17 : decode Y189.2.1 17 = .ok (.aload_n 0, 1) := by decide +kernel
theorem d189_18 : decode Y189.2.1 18 = .ok (.dup, 1) := by decide +kernel
theorem d189_19 : decode Y189.2.1 19 = .ok (.getfield 104, 3) := by decide +kernel
theorem d189_22 : decode Y189.2.1 22 = .ok (.iconst 1, 1) := by decide +kernel
theorem d189_23 : decode Y189.2.1 23 = .ok (.iadd, 1) := by decide +kernel
theorem d189_24 : decode Y189.2.1 24 = .ok (.putfield 104, 3) := by decide +kernel
theorem d189_27 : decode Y189.2.1 27 = .ok (.goto 11, 3) := by decide +kernel
theorem d189_30 : decode Y189.2.1 30 = .ok (.aload_n 0, 1) := by decide +kernel
theorem d189_31 : decode Y189.2.1 31 = .ok (.aload_n 0, 1) := by decide +kernel
theorem d189_32 : decode Y189.2.1 32 = .ok (.getfield 104, 3) := by decide +kernel
theorem d189_35 : decode Y189.2.1 35 = .ok (.invokevirtual 114, 3) := by decide +kernel
theorem d189_38 : decode Y189.2.1 38 = .ok (.return_, 1) := by decide +kernel
theorem E189 (d : Nat) (a0 : Nat) (x1 : Int32) (h0 : ts_sh a0 = (0, 12)) (m : lt_m) : lt_ev (d + 1) 189 [.inr (.inr (some a0)), .inl x1] m = if (m.1 a0 18) = (-1 : Int32) then (lt_cI (lt_ev d 186 [.inr (.inr (some a0))] m) (fun v1 m1 => (if ¬ v1 = x1 then (lt_cV (lt_ev d 187 [.inr (.inr (some a0)), .inl (m1.1 a0 17)] m1) (fun m2 => (some (none, m2)))) else (some (none, (lm_i m1 a0 17 ((m1.1 a0 17) + (1 : Int32)))))))) else (some (none, m)) := by
  refine Eq.trans (lt_enter2 (ls := [some (.inr (.inr (some a0))), some (.inl x1)]) hY189 (Nat.le_of_ble_eq_true rfl) (by rfl)) ?_
  refine Eq.trans (li_aload_n d189_0 (by rfl)) ?_
  refine Eq.trans (li_geti d189_1 fa_12_107 h0 rfl) ?_
  refine Eq.trans (li_iconst d189_4 ic_n1) ?_
  refine Eq.trans (li_icmp_eq (t := 9) d189_5 (by rfl)) ?_
  refine lt_ite (fun c1 => ?_) (fun c1 => ?_)
  · refine Eq.trans (li_aload_n d189_9 (by rfl)) ?_
    refine Eq.trans (li_ivI d189_10 ca_12_110 kd_186 kl_186 (by rfl) (by rfl) h0 (Nat.le_of_ble_eq_true rfl) (Nat.le_of_ble_eq_true rfl)) ?_
    refine lt_cI_c (fun v1 m1 => ?_)
    refine Eq.trans (li_iload_n d189_13 (by rfl)) ?_
    refine Eq.trans (li_icmp_ne (t := 30) d189_14 (by rfl)) ?_
    refine lt_ite (fun c2 => ?_) (fun c2 => ?_)
    · refine Eq.trans (li_aload_n d189_30 (by rfl)) ?_
      refine Eq.trans (li_aload_n d189_31 (by rfl)) ?_
      refine Eq.trans (li_geti d189_32 fa_12_104 h0 rfl) ?_
      refine Eq.trans (li_ivV d189_35 ca_12_114 kd_187 kl_187 (by rfl) (by rfl) h0 (Nat.le_of_ble_eq_true rfl) (Nat.le_of_ble_eq_true rfl)) ?_
      refine lt_cV_c (fun m2 => ?_)
      exact li_vret d189_38 rfl
    · refine Eq.trans (li_aload_n d189_17 (by rfl)) ?_
      refine Eq.trans (li_dup d189_18 rfl) ?_
      refine Eq.trans (li_geti d189_19 fa_12_104 h0 rfl) ?_
      refine Eq.trans (li_iconst d189_22 ic_1) ?_
      refine Eq.trans (li_iadd d189_23) ?_
      refine Eq.trans (li_puti d189_24 fa_12_104 h0 rfl rfl) ?_
      refine Eq.trans (li_goto (t := 38) d189_27 (by rfl)) ?_
      exact li_vret d189_38 rfl
  · exact li_vret d189_8 rfl
/-! TransitSealsModel.readsRoad()V -/
theorem d190_0 : decode Y190.2.1 0 = .ok (.aload_n 0, 1) := by decide +kernel
theorem d190_1 : decode Y190.2.1 1 = .ok (.aload_n 0, 1) := by decide +kernel
theorem d190_2 : decode Y190.2.1 2 = .ok (.getfield 126, 3) := by decide +kernel
theorem d190_5 : decode Y190.2.1 5 = .ok (.invokevirtual 133, 3) := by decide +kernel
theorem d190_8 : decode Y190.2.1 8 = .ok (.istore_n 1, 1) := by decide +kernel
theorem d190_9 : decode Y190.2.1 9 = .ok (.aload_n 0, 1) := by decide +kernel
theorem d190_10 : decode Y190.2.1 10 = .ok (.bipush 45, 2) := by decide +kernel
theorem d190_12 : decode Y190.2.1 12 = .ok (.invokevirtual 129, 3) := by decide +kernel
theorem d190_15 : decode Y190.2.1 15 = .ok (.aload_n 0, 1) := by decide +kernel
theorem d190_16 : decode Y190.2.1 16 = .ok (.aload_n 0, 1) := by decide +kernel
theorem d190_17 : decode Y190.2.1 17 = .ok (.getfield 126, 3) := by decide +kernel
theorem d190_20 : decode Y190.2.1 20 = .ok (.invokevirtual 133, 3) := by decide +kernel
theorem d190_23 : decode Y190.2.1 23 = .ok (.istore_n 2, 1) := by decide +kernel
theorem d190_24 : decode Y190.2.1 24 = .ok (.aload_n 0, 1) := by decide +kernel
theorem d190_25 : decode Y190.2.1 25 = .ok (.getfield 107, 3) := by decide +kernel
theorem d190_28 : decode Y190.2.1 28 = .ok (.iconst (-1), 1) := by decide +kernel
theorem d190_29 : decode Y190.2.1 29 = .ok (.if_icmp .ne 32, 3) := by decide +kernel
theorem d190_32 : decode Y190.2.1 32 = .ok (.iload_n 1, 1) := by decide +kernel
theorem d190_33 : decode Y190.2.1 33 = .ok (.iload_n 2, 1) := by decide +kernel
theorem d190_34 : decode Y190.2.1 34 = .ok (.if_icmp .eq 17, 3) := by decide +kernel
theorem d190_37 : decode Y190.2.1 37 = .ok (.aload_n 0, 1) := by decide +kernel
theorem d190_38 : decode Y190.2.1 38 = .ok (.getfield 43, 3) := by decide +kernel
theorem d190_41 : decode Y190.2.1 41 = .ok (.bipush 12, 2) := by decide +kernel
theorem d190_43 : decode Y190.2.1 43 = .ok (.iload_n 1, 1) := by decide +kernel
theorem d190_44 : decode Y190.2.1 44 = .ok (.imul, 1) := by decide +kernel
theorem d190_45 : decode Y190.2.1 45 = .ok (.iload_n 2, 1) := by decide +kernel
theorem d190_46 : decode Y190.2.1 46 = .ok (.iadd, 1) := by decide +kernel
theorem d190_47 : decode Y190.2.1 47 = .ok (.iaload, 1) := by decide +kernel
theorem d190_48 : decode Y190.2.1 48 = .ok (.ifCond .le 13, 3) := by decide +kernel
theorem d190_51 : decode Y190.2.1 51 = .ok (.aload_n 0, 1) := by decide +kernel
theorem d190_52 : decode Y190.2.1 52 = .ok (.aload_n 0, 1) := by decide +kernel
theorem d190_53 : decode Y190.2.1 53 = .ok (.getfield 104, 3) := by decide +kernel
theorem d190_56 : decode Y190.2.1 56 = .ok (.iconst 1, 1) := by decide +kernel
theorem d190_57 : decode Y190.2.1 57 = .ok (.isub, 1) := by decide +kernel
theorem d190_58 : decode Y190.2.1 58 = .ok (.invokevirtual 114, 3) := by decide +kernel
theorem d190_61 : decode Y190.2.1 61 = .ok (.aload_n 0, 1) := by decide +kernel
theorem d190_62 : decode Y190.2.1 62 = .ok (.bipush 58, 2) := by decide +kernel
theorem d190_64 : decode Y190.2.1 64 = .ok (.invokevirtual 129, 3) := by decide +kernel
theorem d190_67 : decode Y190.2.1 67 = .ok (.aload_n 0, 1) := by decide +kernel
theorem d190_68 : decode Y190.2.1 68 = .ok (.iconst 1, 1) := by decide +kernel
theorem d190_69 : decode Y190.2.1 69 = .ok (.bipush 99, 2) := by decide +kernel
theorem d190_71 : decode Y190.2.1 71 = .ok (.iconst 2, 1) := by decide +kernel
theorem d190_72 : decode Y190.2.1 72 = .ok (.invokevirtual 122, 3) := by decide +kernel
theorem d190_75 : decode Y190.2.1 75 = .ok (.istore_n 3, 1) := by decide +kernel
theorem d190_76 : decode Y190.2.1 76 = .ok (.aload_n 0, 1) := by decide +kernel
theorem d190_77 : decode Y190.2.1 77 = .ok (.getfield 107, 3) := by decide +kernel
theorem d190_80 : decode Y190.2.1 80 = .ok (.iconst (-1), 1) := by decide +kernel
theorem d190_81 : decode Y190.2.1 81 = .ok (.if_icmp .eq 4, 3) := by decide +kernel
theorem d190_84 : decode Y190.2.1 84 = .ok (.return_, 1) := by decide +kernel
theorem d190_85 : decode Y190.2.1 85 = .ok (.aload_n 0, 1) := by decide +kernel
theorem d190_86 : decode Y190.2.1 86 = .ok (.getfield 43, 3) := by decide +kernel
theorem d190_89 : decode Y190.2.1 89 = .ok (.bipush 12, 2) := by decide +kernel
theorem d190_91 : decode Y190.2.1 91 = .ok (.iload_n 1, 1) := by decide +kernel
theorem d190_92 : decode Y190.2.1 92 = .ok (.imul, 1) := by decide +kernel
theorem d190_93 : decode Y190.2.1 93 = .ok (.iload_n 2, 1) := by decide +kernel
theorem d190_94 : decode Y190.2.1 94 = .ok (.iadd, 1) := by decide +kernel
theorem d190_95 : decode Y190.2.1 95 = .ok (.iload_n 3, 1) := by decide +kernel
theorem d190_96 : decode Y190.2.1 96 = .ok (.iastore, 1) := by decide +kernel
theorem d190_97 : decode Y190.2.1 97 = .ok (.aload_n 0, 1) := by decide +kernel
theorem d190_98 : decode Y190.2.1 98 = .ok (.getfield 43, 3) := by decide +kernel
theorem d190_101 : decode Y190.2.1 101 = .ok (.bipush 12, 2) := by decide +kernel
theorem d190_103 : decode Y190.2.1 103 = .ok (.iload_n 2, 1) := by decide +kernel
theorem d190_104 : decode Y190.2.1 104 = .ok (.imul, 1) := by decide +kernel
theorem d190_105 : decode Y190.2.1 105 = .ok (.iload_n 1, 1) := by decide +kernel
theorem d190_106 : decode Y190.2.1 106 = .ok (.iadd, 1) := by decide +kernel
theorem d190_107 : decode Y190.2.1 107 = .ok (.iload_n 3, 1) := by decide +kernel
theorem d190_108 : decode Y190.2.1 108 = .ok (.iastore, 1) := by decide +kernel
theorem d190_109 : decode Y190.2.1 109 = .ok (.aload_n 0, 1) := by decide +kernel
theorem d190_110 : decode Y190.2.1 110 = .ok (.dup, 1) := by decide +kernel
theorem d190_111 : decode Y190.2.1 111 = .ok (.getfield 136, 3) := by decide +kernel
theorem d190_114 : decode Y190.2.1 114 = .ok (.iconst 1, 1) := by decide +kernel
theorem d190_115 : decode Y190.2.1 115 = .ok (.iadd, 1) := by decide +kernel
theorem d190_116 : decode Y190.2.1 116 = .ok (.putfield 136, 3) := by decide +kernel
theorem d190_119 : decode Y190.2.1 119 = .ok (.return_, 1) := by decide +kernel
noncomputable def L190_61 (d : Nat) (a0 : Nat) (x1 : Int32) (x2 : Int32) (m : lt_m) : Option lt_r := lt_run d Y190 61 [some (.inr (.inr (some a0))), some (.inl x1), some (.inl x2), none] [] m
theorem E190 (d : Nat) (a0 : Nat) (h0 : ts_sh a0 = (0, 12)) (m : lt_m) : lt_ev (d + 1) 190 [.inr (.inr (some a0))] m = lt_cI (lt_ev d 191 [.inr (.inr (some a0)), .inl (m.1 a0 19)] m) (fun v1 m1 => (lt_cV (lt_ev d 189 [.inr (.inr (some a0)), .inl (45 : Int32)] m1) (fun m2 => (lt_cI (lt_ev d 191 [.inr (.inr (some a0)), .inl (m2.1 a0 19)] m2) (fun v2 m3 => (if ¬ (m3.1 a0 18) = (-1 : Int32) then (L190_61 d a0 v1 v2 m3) else (if v1 = v2 then (lt_cV (lt_ev d 187 [.inr (.inr (some a0)), .inl ((m3.1 a0 17) - (1 : Int32))] m3) (fun m4 => (L190_61 d a0 v1 v2 m4))) else (lt_gd (0 ≤ (((12 : Int32) * v1) + v2) ∧ ((((12 : Int32) * v1) + v2)).toNatClampNeg < 144) (if (m3.1 (a0 + 10) ((((12 : Int32) * v1) + v2)).toNatClampNeg) ≤ 0 then (L190_61 d a0 v1 v2 m3) else (lt_cV (lt_ev d 187 [.inr (.inr (some a0)), .inl ((m3.1 a0 17) - (1 : Int32))] m3) (fun m5 => (L190_61 d a0 v1 v2 m5)))))))))))) := by
  refine Eq.trans (lt_enter2 (ls := [some (.inr (.inr (some a0))), none, none, none]) hY190 (Nat.le_of_ble_eq_true rfl) (by rfl)) ?_
  refine Eq.trans (li_aload_n d190_0 (by rfl)) ?_
  refine Eq.trans (li_aload_n d190_1 (by rfl)) ?_
  refine Eq.trans (li_geti d190_2 fa_12_126 h0 rfl) ?_
  refine Eq.trans (li_ivI d190_5 ca_12_133 kd_191 kl_191 (by rfl) (by rfl) h0 (Nat.le_of_ble_eq_true rfl) (Nat.le_of_ble_eq_true rfl)) ?_
  refine lt_cI_c (fun v1 m1 => ?_)
  refine Eq.trans (li_istore_n (ls' := [some (.inr (.inr (some a0))), some (.inl v1), none, none]) d190_8 (by decide) (by rfl)) ?_
  refine Eq.trans (li_aload_n d190_9 (by rfl)) ?_
  refine Eq.trans (li_bipush d190_10 bi_45) ?_
  refine Eq.trans (li_ivV d190_12 ca_12_129 kd_189 kl_189 (by rfl) (by rfl) h0 (Nat.le_of_ble_eq_true rfl) (Nat.le_of_ble_eq_true rfl)) ?_
  refine lt_cV_c (fun m2 => ?_)
  refine Eq.trans (li_aload_n d190_15 (by rfl)) ?_
  refine Eq.trans (li_aload_n d190_16 (by rfl)) ?_
  refine Eq.trans (li_geti d190_17 fa_12_126 h0 rfl) ?_
  refine Eq.trans (li_ivI d190_20 ca_12_133 kd_191 kl_191 (by rfl) (by rfl) h0 (Nat.le_of_ble_eq_true rfl) (Nat.le_of_ble_eq_true rfl)) ?_
  refine lt_cI_c (fun v2 m3 => ?_)
  refine Eq.trans (li_istore_n (ls' := [some (.inr (.inr (some a0))), some (.inl v1), some (.inl v2), none]) d190_23 (by decide) (by rfl)) ?_
  refine Eq.trans (li_aload_n d190_24 (by rfl)) ?_
  refine Eq.trans (li_geti d190_25 fa_12_107 h0 rfl) ?_
  refine Eq.trans (li_iconst d190_28 ic_n1) ?_
  refine Eq.trans (li_icmp_ne (t := 61) d190_29 (by rfl)) ?_
  refine lt_ite (fun c1 => ?_) (fun c1 => ?_)
  · rfl
  · refine Eq.trans (li_iload_n d190_32 (by rfl)) ?_
    refine Eq.trans (li_iload_n d190_33 (by rfl)) ?_
    refine Eq.trans (li_icmp_eq (t := 51) d190_34 (by rfl)) ?_
    refine lt_ite (fun c2 => ?_) (fun c2 => ?_)
    · refine Eq.trans (li_aload_n d190_51 (by rfl)) ?_
      refine Eq.trans (li_aload_n d190_52 (by rfl)) ?_
      refine Eq.trans (li_geti d190_53 fa_12_104 h0 rfl) ?_
      refine Eq.trans (li_iconst d190_56 ic_1) ?_
      refine Eq.trans (li_isub d190_57) ?_
      refine Eq.trans (li_ivV d190_58 ca_12_114 kd_187 kl_187 (by rfl) (by rfl) h0 (Nat.le_of_ble_eq_true rfl) (Nat.le_of_ble_eq_true rfl)) ?_
      refine lt_cV_c (fun m4 => ?_)
      rfl
    · refine Eq.trans (li_aload_n d190_37 (by rfl)) ?_
      refine Eq.trans (li_getr d190_38 fa_12_43 h0 rfl rfl rfl (by decide)) ?_
      refine Eq.trans (li_bipush d190_41 bi_12) ?_
      refine Eq.trans (li_iload_n d190_43 (by rfl)) ?_
      refine Eq.trans (li_imul d190_44) ?_
      refine Eq.trans (li_iload_n d190_45 (by rfl)) ?_
      refine Eq.trans (li_iadd d190_46) ?_
      refine Eq.trans (li_iald d190_47 (sf_of h0 21 (by decide) (by decide))) ?_
      refine lt_gd_c (fun g1 => ?_)
      refine Eq.trans (li_if_le (t := 61) d190_48 (by rfl)) ?_
      refine lt_ite (fun c3 => ?_) (fun c3 => ?_)
      · rfl
      · refine Eq.trans (li_aload_n d190_51 (by rfl)) ?_
        refine Eq.trans (li_aload_n d190_52 (by rfl)) ?_
        refine Eq.trans (li_geti d190_53 fa_12_104 h0 rfl) ?_
        refine Eq.trans (li_iconst d190_56 ic_1) ?_
        refine Eq.trans (li_isub d190_57) ?_
        refine Eq.trans (li_ivV d190_58 ca_12_114 kd_187 kl_187 (by rfl) (by rfl) h0 (Nat.le_of_ble_eq_true rfl) (Nat.le_of_ble_eq_true rfl)) ?_
        refine lt_cV_c (fun m5 => ?_)
        rfl
theorem E190_61 (d : Nat) (a0 : Nat) (x1 : Int32) (x2 : Int32) (h0 : ts_sh a0 = (0, 12)) (m : lt_m) : L190_61 d a0 x1 x2 m = lt_cV (lt_ev d 189 [.inr (.inr (some a0)), .inl (58 : Int32)] m) (fun m1 => (lt_cI (lt_ev d 188 [.inr (.inr (some a0)), .inl (1 : Int32), .inl (99 : Int32), .inl (2 : Int32)] m1) (fun v1 m2 => (if (m2.1 a0 18) = (-1 : Int32) then (lt_gd (0 ≤ (((12 : Int32) * x1) + x2) ∧ ((((12 : Int32) * x1) + x2)).toNatClampNeg < 144) (lt_gd (0 ≤ (((12 : Int32) * x2) + x1) ∧ ((((12 : Int32) * x2) + x1)).toNatClampNeg < 144) (some (none, (lm_i (lm_i (lm_i m2 (a0 + 10) ((((12 : Int32) * x1) + x2)).toNatClampNeg v1) (a0 + 10) ((((12 : Int32) * x2) + x1)).toNatClampNeg v1) a0 22 (((lm_i (lm_i m2 (a0 + 10) ((((12 : Int32) * x1) + x2)).toNatClampNeg v1) (a0 + 10) ((((12 : Int32) * x2) + x1)).toNatClampNeg v1).1 a0 22) + (1 : Int32))))))) else (some (none, m2)))))) := by
  show lt_run d Y190 61 [some (.inr (.inr (some a0))), some (.inl x1), some (.inl x2), none] [] m = _
  refine Eq.trans (li_aload_n d190_61 (by rfl)) ?_
  refine Eq.trans (li_bipush d190_62 bi_58) ?_
  refine Eq.trans (li_ivV d190_64 ca_12_129 kd_189 kl_189 (by rfl) (by rfl) h0 (Nat.le_of_ble_eq_true rfl) (Nat.le_of_ble_eq_true rfl)) ?_
  refine lt_cV_c (fun m1 => ?_)
  refine Eq.trans (li_aload_n d190_67 (by rfl)) ?_
  refine Eq.trans (li_iconst d190_68 ic_1) ?_
  refine Eq.trans (li_bipush d190_69 bi_99) ?_
  refine Eq.trans (li_iconst d190_71 ic_2) ?_
  refine Eq.trans (li_ivI d190_72 ca_12_122 kd_188 kl_188 (by rfl) (by rfl) h0 (Nat.le_of_ble_eq_true rfl) (Nat.le_of_ble_eq_true rfl)) ?_
  refine lt_cI_c (fun v1 m2 => ?_)
  refine Eq.trans (li_istore_n (ls' := [some (.inr (.inr (some a0))), some (.inl x1), some (.inl x2), some (.inl v1)]) d190_75 (by decide) (by rfl)) ?_
  refine Eq.trans (li_aload_n d190_76 (by rfl)) ?_
  refine Eq.trans (li_geti d190_77 fa_12_107 h0 rfl) ?_
  refine Eq.trans (li_iconst d190_80 ic_n1) ?_
  refine Eq.trans (li_icmp_eq (t := 85) d190_81 (by rfl)) ?_
  refine lt_ite (fun c1 => ?_) (fun c1 => ?_)
  · refine Eq.trans (li_aload_n d190_85 (by rfl)) ?_
    refine Eq.trans (li_getr d190_86 fa_12_43 h0 rfl rfl rfl (by decide)) ?_
    refine Eq.trans (li_bipush d190_89 bi_12) ?_
    refine Eq.trans (li_iload_n d190_91 (by rfl)) ?_
    refine Eq.trans (li_imul d190_92) ?_
    refine Eq.trans (li_iload_n d190_93 (by rfl)) ?_
    refine Eq.trans (li_iadd d190_94) ?_
    refine Eq.trans (li_iload_n d190_95 (by rfl)) ?_
    refine Eq.trans (li_iast d190_96 (sf_of h0 21 (by decide) (by decide))) ?_
    refine lt_gd_c (fun g1 => ?_)
    refine Eq.trans (li_aload_n d190_97 (by rfl)) ?_
    refine Eq.trans (li_getr d190_98 fa_12_43 h0 rfl rfl rfl (by decide)) ?_
    refine Eq.trans (li_bipush d190_101 bi_12) ?_
    refine Eq.trans (li_iload_n d190_103 (by rfl)) ?_
    refine Eq.trans (li_imul d190_104) ?_
    refine Eq.trans (li_iload_n d190_105 (by rfl)) ?_
    refine Eq.trans (li_iadd d190_106) ?_
    refine Eq.trans (li_iload_n d190_107 (by rfl)) ?_
    refine Eq.trans (li_iast d190_108 (sf_of h0 21 (by decide) (by decide))) ?_
    refine lt_gd_c (fun g2 => ?_)
    refine Eq.trans (li_aload_n d190_109 (by rfl)) ?_
    refine Eq.trans (li_dup d190_110 rfl) ?_
    refine Eq.trans (li_geti d190_111 fa_12_136 h0 rfl) ?_
    refine Eq.trans (li_iconst d190_114 ic_1) ?_
    refine Eq.trans (li_iadd d190_115) ?_
    refine Eq.trans (li_puti d190_116 fa_12_136 h0 rfl rfl) ?_
    exact li_vret d190_119 rfl
  · exact li_vret d190_84 rfl
/-! TransitSealsModel.officeNumber(I)I -/
theorem d191_0 : decode Y191.2.1 0 = .ok (.aload_n 0, 1) := by decide +kernel
theorem d191_1 : decode Y191.2.1 1 = .ok (.iconst 0, 1) := by decide +kernel
theorem d191_2 : decode Y191.2.1 2 = .ok (.iload_n 1, 1) := by decide +kernel
theorem d191_3 : decode Y191.2.1 3 = .ok (.iconst 1, 1) := by decide +kernel
theorem d191_4 : decode Y191.2.1 4 = .ok (.isub, 1) := by decide +kernel
theorem d191_5 : decode Y191.2.1 5 = .ok (.iload_n 1, 1) := by decide +kernel
theorem d191_6 : decode Y191.2.1 6 = .ok (.bipush 10, 2) := by decide +kernel
theorem d191_8 : decode Y191.2.1 8 = .ok (.if_icmp .le 7, 3) := by decide +kernel
theorem d191_11 : decode Y191.2.1 11 = .ok (.iconst 2, 1) := by decide +kernel
theorem d191_12 : decode Y191.2.1 12 = .ok (.goto 4, 3) := by decide +kernel
theorem d191_15 : decode Y191.2.1 15 = .ok (.iconst 1, 1) := by decide +kernel
theorem d191_16 : decode Y191.2.1 16 = .ok (.invokevirtual 122, 3) := by decide +kernel
theorem d191_19 : decode Y191.2.1 19 = .ok (.ireturn, 1) := by decide +kernel
theorem E191 (d : Nat) (a0 : Nat) (x1 : Int32) (h0 : ts_sh a0 = (0, 12)) (m : lt_m) : lt_ev (d + 1) 191 [.inr (.inr (some a0)), .inl x1] m = if x1 ≤ (10 : Int32) then (lt_cI (lt_ev d 188 [.inr (.inr (some a0)), .inl (0 : Int32), .inl (x1 - (1 : Int32)), .inl (1 : Int32)] m) (fun v1 m1 => (some (some (.inl v1), m1)))) else (lt_cI (lt_ev d 188 [.inr (.inr (some a0)), .inl (0 : Int32), .inl (x1 - (1 : Int32)), .inl (2 : Int32)] m) (fun v2 m2 => (some (some (.inl v2), m2)))) := by
  refine Eq.trans (lt_enter2 (ls := [some (.inr (.inr (some a0))), some (.inl x1)]) hY191 (Nat.le_of_ble_eq_true rfl) (by rfl)) ?_
  refine Eq.trans (li_aload_n d191_0 (by rfl)) ?_
  refine Eq.trans (li_iconst d191_1 ic_0) ?_
  refine Eq.trans (li_iload_n d191_2 (by rfl)) ?_
  refine Eq.trans (li_iconst d191_3 ic_1) ?_
  refine Eq.trans (li_isub d191_4) ?_
  refine Eq.trans (li_iload_n d191_5 (by rfl)) ?_
  refine Eq.trans (li_bipush d191_6 bi_10) ?_
  refine Eq.trans (li_icmp_le (t := 15) d191_8 (by rfl)) ?_
  refine lt_ite (fun c1 => ?_) (fun c1 => ?_)
  · refine Eq.trans (li_iconst d191_15 ic_1) ?_
    refine Eq.trans (li_ivI d191_16 ca_12_122 kd_188 kl_188 (by rfl) (by rfl) h0 (Nat.le_of_ble_eq_true rfl) (Nat.le_of_ble_eq_true rfl)) ?_
    refine lt_cI_c (fun v1 m1 => ?_)
    exact li_iret d191_19 rfl
  · refine Eq.trans (li_iconst d191_11 ic_2) ?_
    refine Eq.trans (li_goto (t := 16) d191_12 (by rfl)) ?_
    refine Eq.trans (li_ivI d191_16 ca_12_122 kd_188 kl_188 (by rfl) (by rfl) h0 (Nat.le_of_ble_eq_true rfl) (Nat.le_of_ble_eq_true rfl)) ?_
    refine lt_cI_c (fun v2 m2 => ?_)
    exact li_iret d191_19 rfl
/-! TransitSealsModel.road(II)I -/
theorem d192_0 : decode Y192.2.1 0 = .ok (.aload_n 0, 1) := by decide +kernel
theorem d192_1 : decode Y192.2.1 1 = .ok (.iconst 0, 1) := by decide +kernel
theorem d192_2 : decode Y192.2.1 2 = .ok (.putfield 67, 3) := by decide +kernel
theorem d192_5 : decode Y192.2.1 5 = .ok (.aload_n 0, 1) := by decide +kernel
theorem d192_6 : decode Y192.2.1 6 = .ok (.iload_n 1, 1) := by decide +kernel
theorem d192_7 : decode Y192.2.1 7 = .ok (.invokevirtual 174, 3) := by decide +kernel
theorem d192_10 : decode Y192.2.1 10 = .ok (.ifCond .eq 11, 3) := by decide +kernel
theorem d192_13 : decode Y192.2.1 13 = .ok (.aload_n 0, 1) := by decide +kernel
theorem d192_14 : decode Y192.2.1 14 = .ok (.iload_n 2, 1) := by decide +kernel
theorem d192_15 : decode Y192.2.1 15 = .ok (.invokevirtual 174, 3) := by decide +kernel
theorem d192_18 : decode Y192.2.1 18 = .ok (.ifCond .ne 5, 3) := by decide +kernel
theorem d192_21 : decode Y192.2.1 21 = .ok (.iconst (-1), 1) := by decide +kernel
theorem d192_22 : decode Y192.2.1 22 = .ok (.ireturn, 1) := by decide +kernel
theorem d192_23 : decode Y192.2.1 23 = .ok (.aload_n 0, 1) := by decide +kernel
theorem d192_24 : decode Y192.2.1 24 = .ok (.iload_n 1, 1) := by decide +kernel
theorem d192_25 : decode Y192.2.1 25 = .ok (.iload_n 2, 1) := by decide +kernel
theorem d192_26 : decode Y192.2.1 26 = .ok (.invokevirtual 167, 3) := by decide +kernel
theorem d192_29 : decode Y192.2.1 29 = .ok (.ifCond .ne 8, 3) := by decide +kernel
theorem d192_32 : decode Y192.2.1 32 = .ok (.bipush (-2), 2) := by decide +kernel
theorem d192_34 : decode Y192.2.1 34 = .ok (.goto 9, 3) := by decide +kernel
theorem d192_37 : decode Y192.2.1 37 = .ok (.aload_n 0, 1) := by decide +kernel
theorem d192_38 : decode Y192.2.1 38 = .ok (.iload_n 1, 1) := by decide +kernel
theorem d192_39 : decode Y192.2.1 39 = .ok (.iload_n 2, 1) := by decide +kernel
theorem d192_40 : decode Y192.2.1 40 = .ok (.invokevirtual 167, 3) := by decide +kernel
theorem d192_43 : decode Y192.2.1 43 = .ok (.ireturn, 1) := by decide +kernel
theorem E192 (d : Nat) (a0 : Nat) (x1 : Int32) (x2 : Int32) (h0 : ts_sh a0 = (0, 12)) (m : lt_m) : lt_ev (d + 1) 192 [.inr (.inr (some a0)), .inl x1, .inl x2] m = lt_cI (lt_ev d 193 [.inr (.inr (some a0)), .inl x1] (lm_i m a0 15 (0 : Int32))) (fun v1 m1 => (if v1 = 0 then (some (some (.inl (-1 : Int32)), m1)) else (lt_cI (lt_ev d 193 [.inr (.inr (some a0)), .inl x2] m1) (fun v2 m2 => (if ¬ v2 = 0 then (lt_cI (lt_ev d 194 [.inr (.inr (some a0)), .inl x1, .inl x2] m2) (fun v3 m3 => (if ¬ v3 = 0 then (lt_cI (lt_ev d 194 [.inr (.inr (some a0)), .inl x1, .inl x2] m3) (fun v4 m4 => (some (some (.inl v4), m4)))) else (some (some (.inl (-2 : Int32)), m3))))) else (some (some (.inl (-1 : Int32)), m2))))))) := by
  refine Eq.trans (lt_enter2 (ls := [some (.inr (.inr (some a0))), some (.inl x1), some (.inl x2)]) hY192 (Nat.le_of_ble_eq_true rfl) (by rfl)) ?_
  refine Eq.trans (li_aload_n d192_0 (by rfl)) ?_
  refine Eq.trans (li_iconst d192_1 ic_0) ?_
  refine Eq.trans (li_puti d192_2 fa_12_67 h0 rfl rfl) ?_
  refine Eq.trans (li_aload_n d192_5 (by rfl)) ?_
  refine Eq.trans (li_iload_n d192_6 (by rfl)) ?_
  refine Eq.trans (li_ivI d192_7 ca_12_174 kd_193 kl_193 (by rfl) (by rfl) h0 (Nat.le_of_ble_eq_true rfl) (Nat.le_of_ble_eq_true rfl)) ?_
  refine lt_cI_c (fun v1 m1 => ?_)
  refine Eq.trans (li_if_eq (t := 21) d192_10 (by rfl)) ?_
  refine lt_ite (fun c1 => ?_) (fun c1 => ?_)
  · refine Eq.trans (li_iconst d192_21 ic_n1) ?_
    exact li_iret d192_22 rfl
  · refine Eq.trans (li_aload_n d192_13 (by rfl)) ?_
    refine Eq.trans (li_iload_n d192_14 (by rfl)) ?_
    refine Eq.trans (li_ivI d192_15 ca_12_174 kd_193 kl_193 (by rfl) (by rfl) h0 (Nat.le_of_ble_eq_true rfl) (Nat.le_of_ble_eq_true rfl)) ?_
    refine lt_cI_c (fun v2 m2 => ?_)
    refine Eq.trans (li_if_ne (t := 23) d192_18 (by rfl)) ?_
    refine lt_ite (fun c2 => ?_) (fun c2 => ?_)
    · refine Eq.trans (li_aload_n d192_23 (by rfl)) ?_
      refine Eq.trans (li_iload_n d192_24 (by rfl)) ?_
      refine Eq.trans (li_iload_n d192_25 (by rfl)) ?_
      refine Eq.trans (li_ivI d192_26 ca_12_167 kd_194 kl_194 (by rfl) (by rfl) h0 (Nat.le_of_ble_eq_true rfl) (Nat.le_of_ble_eq_true rfl)) ?_
      refine lt_cI_c (fun v3 m3 => ?_)
      refine Eq.trans (li_if_ne (t := 37) d192_29 (by rfl)) ?_
      refine lt_ite (fun c3 => ?_) (fun c3 => ?_)
      · refine Eq.trans (li_aload_n d192_37 (by rfl)) ?_
        refine Eq.trans (li_iload_n d192_38 (by rfl)) ?_
        refine Eq.trans (li_iload_n d192_39 (by rfl)) ?_
        refine Eq.trans (li_ivI d192_40 ca_12_167 kd_194 kl_194 (by rfl) (by rfl) h0 (Nat.le_of_ble_eq_true rfl) (Nat.le_of_ble_eq_true rfl)) ?_
        refine lt_cI_c (fun v4 m4 => ?_)
        exact li_iret d192_43 rfl
      · refine Eq.trans (li_bipush d192_32 bi_n2) ?_
        refine Eq.trans (li_goto (t := 43) d192_34 (by rfl)) ?_
        exact li_iret d192_43 rfl
    · refine Eq.trans (li_iconst d192_21 ic_n1) ?_
      exact li_iret d192_22 rfl
/-! TransitSealsModel.isOffice(I)Z -/
theorem d193_0 : decode Y193.2.1 0 = .ok (.iload_n 1, 1) := by decide +kernel
theorem d193_1 : decode Y193.2.1 1 = .ok (.i2l, 1) := by decide +kernel
theorem d193_2 : decode Y193.2.1 2 = .ok (.lconst 0, 1) := by decide +kernel
theorem d193_3 : decode Y193.2.1 3 = .ok (.aload_n 0, 1) := by decide +kernel
theorem d193_4 : decode Y193.2.1 4 = .ok (.getfield 28, 3) := by decide +kernel
theorem d193_7 : decode Y193.2.1 7 = .ok (.iconst 1, 1) := by decide +kernel
theorem d193_8 : decode Y193.2.1 8 = .ok (.isub, 1) := by decide +kernel
theorem d193_9 : decode Y193.2.1 9 = .ok (.i2l, 1) := by decide +kernel
theorem d193_10 : decode Y193.2.1 10 = .ok (.invokestatic 76, 3) := by decide +kernel
theorem d193_13 : decode Y193.2.1 13 = .ok (.ireturn, 1) := by decide +kernel
theorem E193 (d : Nat) (a0 : Nat) (x1 : Int32) (h0 : ts_sh a0 = (0, 12)) (m : lt_m) : lt_ev (d + 1) 193 [.inr (.inr (some a0)), .inl x1] m = lt_cI (lt_ev d 181 [.inr (.inl ((x1).toInt64)), .inr (.inl (0 : Int64)), .inr (.inl ((((m.1 a0 8) - (1 : Int32))).toInt64))] m) (fun v1 m1 => (lt_gd (v1 = 0 ∨ v1 = 1) (some (some (.inl v1), m1)))) := by
  refine Eq.trans (lt_enter2 (ls := [some (.inr (.inr (some a0))), some (.inl x1)]) hY193 (Nat.le_of_ble_eq_true rfl) (by rfl)) ?_
  refine Eq.trans (li_iload_n d193_0 (by rfl)) ?_
  refine Eq.trans (li_i2l d193_1) ?_
  refine Eq.trans (li_lconst (v := 0) d193_2 (by decide)) ?_
  refine Eq.trans (li_aload_n d193_3 (by rfl)) ?_
  refine Eq.trans (li_geti d193_4 fa_12_28 h0 rfl) ?_
  refine Eq.trans (li_iconst d193_7 ic_1) ?_
  refine Eq.trans (li_isub d193_8) ?_
  refine Eq.trans (li_i2l d193_9) ?_
  refine Eq.trans (li_isI d193_10 bi_12_76 ca_12_76 kd_181 (by rfl) (by rfl) (Nat.le_of_ble_eq_true rfl) (Nat.le_of_ble_eq_true rfl)) ?_
  refine lt_cI_c (fun v1 m1 => ?_)
  exact li_zretg d193_13 rfl
/-! TransitSealsModel.hoursOf(II)I -/
theorem d194_0 : decode Y194.2.1 0 = .ok (.aload_n 0, 1) := by decide +kernel
theorem d194_1 : decode Y194.2.1 1 = .ok (.getfield 22, 3) := by decide +kernel
theorem d194_4 : decode Y194.2.1 4 = .ok (.bipush 12, 2) := by decide +kernel
theorem d194_6 : decode Y194.2.1 6 = .ok (.iload_n 1, 1) := by decide +kernel
theorem d194_7 : decode Y194.2.1 7 = .ok (.imul, 1) := by decide +kernel
theorem d194_8 : decode Y194.2.1 8 = .ok (.iload_n 2, 1) := by decide +kernel
theorem d194_9 : decode Y194.2.1 9 = .ok (.iadd, 1) := by decide +kernel
theorem d194_10 : decode Y194.2.1 10 = .ok (.iaload, 1) := by decide +kernel
theorem d194_11 : decode Y194.2.1 11 = .ok (.ireturn, 1) := by decide +kernel
theorem E194 (d : Nat) (a0 : Nat) (x1 : Int32) (x2 : Int32) (h0 : ts_sh a0 = (0, 12)) (m : lt_m) : lt_ev (d + 1) 194 [.inr (.inr (some a0)), .inl x1, .inl x2] m = lt_gd (0 ≤ (((12 : Int32) * x1) + x2) ∧ ((((12 : Int32) * x1) + x2)).toNatClampNeg < 144) (some (some (.inl (m.1 (a0 + 5) ((((12 : Int32) * x1) + x2)).toNatClampNeg)), m)) := by
  refine Eq.trans (lt_enter2 (ls := [some (.inr (.inr (some a0))), some (.inl x1), some (.inl x2)]) hY194 (Nat.le_of_ble_eq_true rfl) (by rfl)) ?_
  refine Eq.trans (li_aload_n d194_0 (by rfl)) ?_
  refine Eq.trans (li_getr d194_1 fa_12_22 h0 rfl rfl rfl (by decide)) ?_
  refine Eq.trans (li_bipush d194_4 bi_12) ?_
  refine Eq.trans (li_iload_n d194_6 (by rfl)) ?_
  refine Eq.trans (li_imul d194_7) ?_
  refine Eq.trans (li_iload_n d194_8 (by rfl)) ?_
  refine Eq.trans (li_iadd d194_9) ?_
  refine Eq.trans (li_iald d194_10 (sf_of h0 6 (by decide) (by decide))) ?_
  refine lt_gd_c (fun g1 => ?_)
  exact li_iret d194_11 rfl
/-! TransitSealsModel.office(II)I -/
theorem d195_0 : decode Y195.2.1 0 = .ok (.aload_n 0, 1) := by decide +kernel
theorem d195_1 : decode Y195.2.1 1 = .ok (.iconst 0, 1) := by decide +kernel
theorem d195_2 : decode Y195.2.1 2 = .ok (.putfield 67, 3) := by decide +kernel
theorem d195_5 : decode Y195.2.1 5 = .ok (.aload_n 0, 1) := by decide +kernel
theorem d195_6 : decode Y195.2.1 6 = .ok (.iload_n 1, 1) := by decide +kernel
theorem d195_7 : decode Y195.2.1 7 = .ok (.invokevirtual 174, 3) := by decide +kernel
theorem d195_10 : decode Y195.2.1 10 = .ok (.ifCond .eq 15, 3) := by decide +kernel
theorem d195_13 : decode Y195.2.1 13 = .ok (.iload_n 2, 1) := by decide +kernel
theorem d195_14 : decode Y195.2.1 14 = .ok (.i2l, 1) := by decide +kernel
theorem d195_15 : decode Y195.2.1 15 = .ok (.lconst 0, 1) := by decide +kernel
theorem d195_16 : decode Y195.2.1 16 = .ok (.ldc2_w 177, 3) := by decide +kernel
theorem d195_19 : decode Y195.2.1 19 = .ok (.invokestatic 76, 3) := by decide +kernel
theorem d195_22 : decode Y195.2.1 22 = .ok (.ifCond .ne 5, 3) := by decide +kernel
theorem d195_25 : decode Y195.2.1 25 = .ok (.iconst (-1), 1) := by decide +kernel
theorem d195_26 : decode Y195.2.1 26 = .ok (.ireturn, 1) := by decide +kernel
theorem d195_27 : decode Y195.2.1 27 = .ok (.iconst 0, 1) := by decide +kernel
theorem d195_28 : decode Y195.2.1 28 = .ok (.istore_n 3, 1) := by decide +kernel
theorem d195_29 : decode Y195.2.1 29 = .ok (.iconst 0, 1) := by decide +kernel
theorem d195_30 : decode Y195.2.1 30 = .ok (.istore 4, 2) := by decide +kernel
theorem d195_32 : decode Y195.2.1 32 = .ok (.iload 4, 2) := by decide +kernel
theorem d195_34 : decode Y195.2.1 34 = .ok (.aload_n 0, 1) := by decide +kernel
theorem d195_35 : decode Y195.2.1 35 = .ok (.getfield 28, 3) := by decide +kernel
theorem d195_38 : decode Y195.2.1 38 = .ok (.if_icmp .ge 27, 3) := by decide +kernel
theorem d195_41 : decode Y195.2.1 41 = .ok (.iload_n 3, 1) := by decide +kernel
theorem d195_42 : decode Y195.2.1 42 = .ok (.aload_n 0, 1) := by decide +kernel
theorem d195_43 : decode Y195.2.1 43 = .ok (.iload_n 1, 1) := by decide +kernel
theorem d195_44 : decode Y195.2.1 44 = .ok (.iload 4, 2) := by decide +kernel
theorem d195_46 : decode Y195.2.1 46 = .ok (.invokevirtual 167, 3) := by decide +kernel
theorem d195_49 : decode Y195.2.1 49 = .ok (.ifCond .le 7, 3) := by decide +kernel
theorem d195_52 : decode Y195.2.1 52 = .ok (.iconst 1, 1) := by decide +kernel
theorem d195_53 : decode Y195.2.1 53 = .ok (.goto 4, 3) := by decide +kernel
theorem d195_56 : decode Y195.2.1 56 = .ok (.iconst 0, 1) := by decide +kernel
theorem d195_57 : decode Y195.2.1 57 = .ok (.iadd, 1) := by decide +kernel
theorem d195_58 : decode Y195.2.1 58 = .ok (.istore_n 3, 1) := by decide +kernel
theorem d195_59 : decode Y195.2.1 59 = .ok (.iinc 4 1, 3) := by decide +kernel
theorem d195_62 : decode Y195.2.1 62 = .ok (.goto (-30), 3) := by decide +kernel
theorem d195_65 : decode Y195.2.1 65 = .ok (.iconst 0, 1) := by decide +kernel
theorem d195_66 : decode Y195.2.1 66 = .ok (.istore 4, 2) := by decide +kernel
theorem d195_68 : decode Y195.2.1 68 = .ok (.iconst 0, 1) := by decide +kernel
theorem d195_69 : decode Y195.2.1 69 = .ok (.istore 5, 2) := by decide +kernel
theorem d195_71 : decode Y195.2.1 71 = .ok (.iload 5, 2) := by decide +kernel
theorem d195_73 : decode Y195.2.1 73 = .ok (.aload_n 0, 1) := by decide +kernel
theorem d195_74 : decode Y195.2.1 74 = .ok (.getfield 7, 3) := by decide +kernel
theorem d195_77 : decode Y195.2.1 77 = .ok (.iconst 2, 1) := by decide +kernel
theorem d195_78 : decode Y195.2.1 78 = .ok (.iaload, 1) := by decide +kernel
theorem d195_79 : decode Y195.2.1 79 = .ok (.if_icmp .ge 41, 3) := by decide +kernel
theorem d195_82 : decode Y195.2.1 82 = .ok (.iload 4, 2) := by decide +kernel
theorem d195_84 : decode Y195.2.1 84 = .ok (.aload_n 0, 1) := by decide +kernel
theorem d195_85 : decode Y195.2.1 85 = .ok (.iload 5, 2) := by decide +kernel
theorem d195_87 : decode Y195.2.1 87 = .ok (.invokevirtual 179, 3) := by decide +kernel
theorem d195_90 : decode Y195.2.1 90 = .ok (.ifCond .eq 20, 3) := by decide +kernel
theorem d195_93 : decode Y195.2.1 93 = .ok (.aload_n 0, 1) := by decide +kernel
theorem d195_94 : decode Y195.2.1 94 = .ok (.iload 5, 2) := by decide +kernel
theorem d195_96 : decode Y195.2.1 96 = .ok (.invokevirtual 182, 3) := by decide +kernel
theorem d195_99 : decode Y195.2.1 99 = .ok (.iload_n 1, 1) := by decide +kernel
theorem d195_100 : decode Y195.2.1 100 = .ok (.if_icmp .ne 10, 3) := by decide +kernel
theorem d195_103 : decode Y195.2.1 103 = .ok (.iconst 1, 1) := by decide +kernel
theorem d195_104 : decode Y195.2.1 104 = .ok (.iload 5, 2) := by decide +kernel
theorem d195_106 : decode Y195.2.1 106 = .ok (.ishl, 1) := by decide +kernel
theorem d195_107 : decode Y195.2.1 107 = .ok (.goto 4, 3) := by decide +kernel
theorem d195_110 : decode Y195.2.1 110 = .ok (.iconst 0, 1) := by decide +kernel
theorem d195_111 : decode Y195.2.1 111 = .ok (.ior, 1) := by decide +kernel
theorem d195_112 : decode Y195.2.1 112 = .ok (.istore 4, 2) := by decide +kernel
theorem d195_114 : decode Y195.2.1 114 = .ok (.iinc 5 1, 3) := by decide +kernel
theorem d195_117 : decode Y195.2.1 117 = .ok (.goto (-46), 3) := by decide +kernel
theorem d195_120 : decode Y195.2.1 120 = .ok (.iload_n 2, 1) := by decide +kernel
theorem d195_121 : decode Y195.2.1 121 = .ok (.ifCond .ne 12, 3) := by decide +kernel
theorem d195_124 : decode Y195.2.1 124 = .ok (.aload_n 0, 1) := by decide +kernel
theorem d195_125 : decode Y195.2.1 125 = .ok (.getfield 19, 3) := by decide +kernel
theorem d195_128 : decode Y195.2.1 128 = .ok (.iload_n 1, 1) := by decide +kernel
theorem d195_129 : decode Y195.2.1 129 = .ok (.iaload, 1) := by decide +kernel
theorem d195_130 : decode Y195.2.1 130 = .ok (.goto 14, 3) := by decide +kernel
theorem d195_133 : decode Y195.2.1 133 = .ok (.iload_n 2, 1) := by decide +kernel
theorem d195_134 : decode Y195.2.1 134 = .ok (.iconst 1, 1) := by decide +kernel
theorem d195_135 : decode Y195.2.1 135 = .ok (.if_icmp .ne 7, 3) := by decide +kernel
theorem d195_138 : decode Y195.2.1 138 = .ok (.iload_n 3, 1) := by decide +kernel
theorem d195_139 : decode Y195.2.1 139 = .ok (.goto 5, 3) := by decide +kernel
theorem d195_142 : decode Y195.2.1 142 = .ok (.iload 4, 2) := by decide +kernel
theorem d195_144 : decode Y195.2.1 144 = .ok (.ireturn, 1) := by decide +kernel
noncomputable def L195_32 (d : Nat) (a0 : Nat) (x1 : Int32) (x2 : Int32) (x3 : Int32) (x4 : Int32) (m : lt_m) : Option lt_r := lt_run d Y195 32 [some (.inr (.inr (some a0))), some (.inl x1), some (.inl x2), some (.inl x3), some (.inl x4), none] [] m
noncomputable def L195_71 (d : Nat) (a0 : Nat) (x1 : Int32) (x2 : Int32) (x3 : Int32) (x4 : Int32) (x5 : Int32) (m : lt_m) : Option lt_r := lt_run d Y195 71 [some (.inr (.inr (some a0))), some (.inl x1), some (.inl x2), some (.inl x3), some (.inl x4), some (.inl x5)] [] m
theorem E195 (d : Nat) (a0 : Nat) (x1 : Int32) (x2 : Int32) (h0 : ts_sh a0 = (0, 12)) (m : lt_m) : lt_ev (d + 1) 195 [.inr (.inr (some a0)), .inl x1, .inl x2] m = lt_cI (lt_ev d 193 [.inr (.inr (some a0)), .inl x1] (lm_i m a0 15 (0 : Int32))) (fun v1 m1 => (if v1 = 0 then (some (some (.inl (-1 : Int32)), m1)) else (lt_cI (lt_ev d 181 [.inr (.inl ((x2).toInt64)), .inr (.inl (0 : Int64)), .inr (.inl (2 : Int64))] m1) (fun v2 m2 => (if ¬ v2 = 0 then (L195_32 d a0 x1 x2 (0 : Int32) (0 : Int32) m2) else (some (some (.inl (-1 : Int32)), m2))))))) := by
  refine Eq.trans (lt_enter2 (ls := [some (.inr (.inr (some a0))), some (.inl x1), some (.inl x2), none, none, none]) hY195 (Nat.le_of_ble_eq_true rfl) (by rfl)) ?_
  refine Eq.trans (li_aload_n d195_0 (by rfl)) ?_
  refine Eq.trans (li_iconst d195_1 ic_0) ?_
  refine Eq.trans (li_puti d195_2 fa_12_67 h0 rfl rfl) ?_
  refine Eq.trans (li_aload_n d195_5 (by rfl)) ?_
  refine Eq.trans (li_iload_n d195_6 (by rfl)) ?_
  refine Eq.trans (li_ivI d195_7 ca_12_174 kd_193 kl_193 (by rfl) (by rfl) h0 (Nat.le_of_ble_eq_true rfl) (Nat.le_of_ble_eq_true rfl)) ?_
  refine lt_cI_c (fun v1 m1 => ?_)
  refine Eq.trans (li_if_eq (t := 25) d195_10 (by rfl)) ?_
  refine lt_ite (fun c1 => ?_) (fun c1 => ?_)
  · refine Eq.trans (li_iconst d195_25 ic_n1) ?_
    exact li_iret d195_26 rfl
  · refine Eq.trans (li_iload_n d195_13 (by rfl)) ?_
    refine Eq.trans (li_i2l d195_14) ?_
    refine Eq.trans (li_lconst (v := 0) d195_15 (by decide)) ?_
    refine Eq.trans (li_ldc2_w d195_16 cJ_12_177) ?_
    refine Eq.trans (li_isI d195_19 bi_12_76 ca_12_76 kd_181 (by rfl) (by rfl) (Nat.le_of_ble_eq_true rfl) (Nat.le_of_ble_eq_true rfl)) ?_
    refine lt_cI_c (fun v2 m2 => ?_)
    refine Eq.trans (li_if_ne (t := 27) d195_22 (by rfl)) ?_
    refine lt_ite (fun c2 => ?_) (fun c2 => ?_)
    · refine Eq.trans (li_iconst d195_27 ic_0) ?_
      refine Eq.trans (li_istore_n (ls' := [some (.inr (.inr (some a0))), some (.inl x1), some (.inl x2), some (.inl (0 : Int32)), none, none]) d195_28 (by decide) (by rfl)) ?_
      refine Eq.trans (li_iconst d195_29 ic_0) ?_
      refine Eq.trans (li_istore (ls' := [some (.inr (.inr (some a0))), some (.inl x1), some (.inl x2), some (.inl (0 : Int32)), some (.inl (0 : Int32)), none]) d195_30 (by decide) (by rfl)) ?_
      rfl
    · refine Eq.trans (li_iconst d195_25 ic_n1) ?_
      exact li_iret d195_26 rfl
theorem E195_32 (d : Nat) (a0 : Nat) (x1 : Int32) (x2 : Int32) (x3 : Int32) (x4 : Int32) (h0 : ts_sh a0 = (0, 12)) (m : lt_m) : L195_32 d a0 x1 x2 x3 x4 m = if (m.1 a0 8) ≤ x4 then (L195_71 d a0 x1 x2 x3 (0 : Int32) (0 : Int32) m) else (lt_cI (lt_ev d 194 [.inr (.inr (some a0)), .inl x1, .inl x4] m) (fun v1 m1 => (if v1 ≤ 0 then (L195_32 d a0 x1 x2 (x3 + (0 : Int32)) (x4 + (1 : Int32)) m1) else (L195_32 d a0 x1 x2 (x3 + (1 : Int32)) (x4 + (1 : Int32)) m1)))) := by
  show lt_run d Y195 32 [some (.inr (.inr (some a0))), some (.inl x1), some (.inl x2), some (.inl x3), some (.inl x4), none] [] m = _
  refine Eq.trans (li_iload d195_32 (by rfl)) ?_
  refine Eq.trans (li_aload_n d195_34 (by rfl)) ?_
  refine Eq.trans (li_geti d195_35 fa_12_28 h0 rfl) ?_
  refine Eq.trans (li_icmp_ge (t := 65) d195_38 (by rfl)) ?_
  refine lt_ite (fun c1 => ?_) (fun c1 => ?_)
  · refine Eq.trans (li_iconst d195_65 ic_0) ?_
    refine Eq.trans (li_istore (ls' := [some (.inr (.inr (some a0))), some (.inl x1), some (.inl x2), some (.inl x3), some (.inl (0 : Int32)), none]) d195_66 (by decide) (by rfl)) ?_
    refine Eq.trans (li_iconst d195_68 ic_0) ?_
    refine Eq.trans (li_istore (ls' := [some (.inr (.inr (some a0))), some (.inl x1), some (.inl x2), some (.inl x3), some (.inl (0 : Int32)), some (.inl (0 : Int32))]) d195_69 (by decide) (by rfl)) ?_
    rfl
  · refine Eq.trans (li_iload_n d195_41 (by rfl)) ?_
    refine Eq.trans (li_aload_n d195_42 (by rfl)) ?_
    refine Eq.trans (li_iload_n d195_43 (by rfl)) ?_
    refine Eq.trans (li_iload d195_44 (by rfl)) ?_
    refine Eq.trans (li_ivI d195_46 ca_12_167 kd_194 kl_194 (by rfl) (by rfl) h0 (Nat.le_of_ble_eq_true rfl) (Nat.le_of_ble_eq_true rfl)) ?_
    refine lt_cI_c (fun v1 m1 => ?_)
    refine Eq.trans (li_if_le (t := 56) d195_49 (by rfl)) ?_
    refine lt_ite (fun c2 => ?_) (fun c2 => ?_)
    · refine Eq.trans (li_iconst d195_56 ic_0) ?_
      refine Eq.trans (li_iadd d195_57) ?_
      refine Eq.trans (li_istore_n (ls' := [some (.inr (.inr (some a0))), some (.inl x1), some (.inl x2), some (.inl (x3 + (0 : Int32))), some (.inl x4), none]) d195_58 (by decide) (by rfl)) ?_
      refine Eq.trans (li_iinc (ls' := [some (.inr (.inr (some a0))), some (.inl x1), some (.inl x2), some (.inl (x3 + (0 : Int32))), some (.inl (x4 + (1 : Int32))), none]) d195_59 (by rfl) (by decide) ic_1 (by rfl)) ?_
      refine Eq.trans (li_goto (t := 32) d195_62 (by rfl)) ?_
      rfl
    · refine Eq.trans (li_iconst d195_52 ic_1) ?_
      refine Eq.trans (li_goto (t := 57) d195_53 (by rfl)) ?_
      refine Eq.trans (li_iadd d195_57) ?_
      refine Eq.trans (li_istore_n (ls' := [some (.inr (.inr (some a0))), some (.inl x1), some (.inl x2), some (.inl (x3 + (1 : Int32))), some (.inl x4), none]) d195_58 (by decide) (by rfl)) ?_
      refine Eq.trans (li_iinc (ls' := [some (.inr (.inr (some a0))), some (.inl x1), some (.inl x2), some (.inl (x3 + (1 : Int32))), some (.inl (x4 + (1 : Int32))), none]) d195_59 (by rfl) (by decide) ic_1 (by rfl)) ?_
      refine Eq.trans (li_goto (t := 32) d195_62 (by rfl)) ?_
      rfl
theorem E195_71 (d : Nat) (a0 : Nat) (x1 : Int32) (x2 : Int32) (x3 : Int32) (x4 : Int32) (x5 : Int32) (h0 : ts_sh a0 = (0, 12)) (m : lt_m) : L195_71 d a0 x1 x2 x3 x4 x5 m = lt_gd (0 ≤ (2 : Int32) ∧ ((2 : Int32)).toNatClampNeg < 626) (if (m.1 (a0 + 1) ((2 : Int32)).toNatClampNeg) ≤ x5 then (if ¬ x2 = 0 then (if ¬ x2 = (1 : Int32) then (some (some (.inl x4), m)) else (some (some (.inl x3), m))) else (lt_gd (0 ≤ x1 ∧ (x1).toNatClampNeg < 12) (some (some (.inl (m.1 (a0 + 4) (x1).toNatClampNeg)), m)))) else (lt_cI (lt_ev d 196 [.inr (.inr (some a0)), .inl x5] m) (fun v1 m1 => (if v1 = 0 then (L195_71 d a0 x1 x2 x3 (x4 ||| (0 : Int32)) (x5 + (1 : Int32)) m1) else (lt_cI (lt_ev d 199 [.inr (.inr (some a0)), .inl x5] m1) (fun v2 m2 => (if ¬ v2 = x1 then (L195_71 d a0 x1 x2 x3 (x4 ||| (0 : Int32)) (x5 + (1 : Int32)) m2) else (L195_71 d a0 x1 x2 x3 (x4 ||| ((1 : Int32) <<< (x5 &&& 31))) (x5 + (1 : Int32)) m2)))))))) := by
  show lt_run d Y195 71 [some (.inr (.inr (some a0))), some (.inl x1), some (.inl x2), some (.inl x3), some (.inl x4), some (.inl x5)] [] m = _
  refine Eq.trans (li_iload d195_71 (by rfl)) ?_
  refine Eq.trans (li_aload_n d195_73 (by rfl)) ?_
  refine Eq.trans (li_getr d195_74 fa_12_7 h0 rfl rfl rfl (by decide)) ?_
  refine Eq.trans (li_iconst d195_77 ic_2) ?_
  refine Eq.trans (li_iald d195_78 (sf_of h0 0 (by decide) (by decide))) ?_
  refine lt_gd_c (fun g1 => ?_)
  refine Eq.trans (li_icmp_ge (t := 120) d195_79 (by rfl)) ?_
  refine lt_ite (fun c1 => ?_) (fun c1 => ?_)
  · refine Eq.trans (li_iload_n d195_120 (by rfl)) ?_
    refine Eq.trans (li_if_ne (t := 133) d195_121 (by rfl)) ?_
    refine lt_ite (fun c2 => ?_) (fun c2 => ?_)
    · refine Eq.trans (li_iload_n d195_133 (by rfl)) ?_
      refine Eq.trans (li_iconst d195_134 ic_1) ?_
      refine Eq.trans (li_icmp_ne (t := 142) d195_135 (by rfl)) ?_
      refine lt_ite (fun c3 => ?_) (fun c3 => ?_)
      · refine Eq.trans (li_iload d195_142 (by rfl)) ?_
        exact li_iret d195_144 rfl
      · refine Eq.trans (li_iload_n d195_138 (by rfl)) ?_
        refine Eq.trans (li_goto (t := 144) d195_139 (by rfl)) ?_
        exact li_iret d195_144 rfl
    · refine Eq.trans (li_aload_n d195_124 (by rfl)) ?_
      refine Eq.trans (li_getr d195_125 fa_12_19 h0 rfl rfl rfl (by decide)) ?_
      refine Eq.trans (li_iload_n d195_128 (by rfl)) ?_
      refine Eq.trans (li_iald d195_129 (sf_of h0 5 (by decide) (by decide))) ?_
      refine lt_gd_c (fun g2 => ?_)
      refine Eq.trans (li_goto (t := 144) d195_130 (by rfl)) ?_
      exact li_iret d195_144 rfl
  · refine Eq.trans (li_iload d195_82 (by rfl)) ?_
    refine Eq.trans (li_aload_n d195_84 (by rfl)) ?_
    refine Eq.trans (li_iload d195_85 (by rfl)) ?_
    refine Eq.trans (li_ivI d195_87 ca_12_179 kd_196 kl_196 (by rfl) (by rfl) h0 (Nat.le_of_ble_eq_true rfl) (Nat.le_of_ble_eq_true rfl)) ?_
    refine lt_cI_c (fun v1 m1 => ?_)
    refine Eq.trans (li_if_eq (t := 110) d195_90 (by rfl)) ?_
    refine lt_ite (fun c4 => ?_) (fun c4 => ?_)
    · refine Eq.trans (li_iconst d195_110 ic_0) ?_
      refine Eq.trans (li_ior d195_111) ?_
      refine Eq.trans (li_istore (ls' := [some (.inr (.inr (some a0))), some (.inl x1), some (.inl x2), some (.inl x3), some (.inl (x4 ||| (0 : Int32))), some (.inl x5)]) d195_112 (by decide) (by rfl)) ?_
      refine Eq.trans (li_iinc (ls' := [some (.inr (.inr (some a0))), some (.inl x1), some (.inl x2), some (.inl x3), some (.inl (x4 ||| (0 : Int32))), some (.inl (x5 + (1 : Int32)))]) d195_114 (by rfl) (by decide) ic_1 (by rfl)) ?_
      refine Eq.trans (li_goto (t := 71) d195_117 (by rfl)) ?_
      rfl
    · refine Eq.trans (li_aload_n d195_93 (by rfl)) ?_
      refine Eq.trans (li_iload d195_94 (by rfl)) ?_
      refine Eq.trans (li_ivI d195_96 ca_12_182 kd_199 kl_199 (by rfl) (by rfl) h0 (Nat.le_of_ble_eq_true rfl) (Nat.le_of_ble_eq_true rfl)) ?_
      refine lt_cI_c (fun v2 m2 => ?_)
      refine Eq.trans (li_iload_n d195_99 (by rfl)) ?_
      refine Eq.trans (li_icmp_ne (t := 110) d195_100 (by rfl)) ?_
      refine lt_ite (fun c5 => ?_) (fun c5 => ?_)
      · refine Eq.trans (li_iconst d195_110 ic_0) ?_
        refine Eq.trans (li_ior d195_111) ?_
        refine Eq.trans (li_istore (ls' := [some (.inr (.inr (some a0))), some (.inl x1), some (.inl x2), some (.inl x3), some (.inl (x4 ||| (0 : Int32))), some (.inl x5)]) d195_112 (by decide) (by rfl)) ?_
        refine Eq.trans (li_iinc (ls' := [some (.inr (.inr (some a0))), some (.inl x1), some (.inl x2), some (.inl x3), some (.inl (x4 ||| (0 : Int32))), some (.inl (x5 + (1 : Int32)))]) d195_114 (by rfl) (by decide) ic_1 (by rfl)) ?_
        refine Eq.trans (li_goto (t := 71) d195_117 (by rfl)) ?_
        rfl
      · refine Eq.trans (li_iconst d195_103 ic_1) ?_
        refine Eq.trans (li_iload d195_104 (by rfl)) ?_
        refine Eq.trans (li_ishl d195_106) ?_
        refine Eq.trans (li_goto (t := 111) d195_107 (by rfl)) ?_
        refine Eq.trans (li_ior d195_111) ?_
        refine Eq.trans (li_istore (ls' := [some (.inr (.inr (some a0))), some (.inl x1), some (.inl x2), some (.inl x3), some (.inl (x4 ||| ((1 : Int32) <<< (x5 &&& 31)))), some (.inl x5)]) d195_112 (by decide) (by rfl)) ?_
        refine Eq.trans (li_iinc (ls' := [some (.inr (.inr (some a0))), some (.inl x1), some (.inl x2), some (.inl x3), some (.inl (x4 ||| ((1 : Int32) <<< (x5 &&& 31)))), some (.inl (x5 + (1 : Int32)))]) d195_114 (by rfl) (by decide) ic_1 (by rfl)) ?_
        refine Eq.trans (li_goto (t := 71) d195_117 (by rfl)) ?_
        rfl
/-! TransitSealsModel.goes(I)Z -/
theorem d196_0 : decode Y196.2.1 0 = .ok (.aload_n 0, 1) := by decide +kernel
theorem d196_1 : decode Y196.2.1 1 = .ok (.iload_n 1, 1) := by decide +kernel
theorem d196_2 : decode Y196.2.1 2 = .ok (.invokevirtual 87, 3) := by decide +kernel
theorem d196_5 : decode Y196.2.1 5 = .ok (.ifCond .eq 12, 3) := by decide +kernel
theorem d196_8 : decode Y196.2.1 8 = .ok (.aload_n 0, 1) := by decide +kernel
theorem d196_9 : decode Y196.2.1 9 = .ok (.iload_n 1, 1) := by decide +kernel
theorem d196_10 : decode Y196.2.1 10 = .ok (.invokevirtual 87, 3) := by decide +kernel
theorem d196_13 : decode Y196.2.1 13 = .ok (.iconst 3, 1) := by decide +kernel
theorem d196_14 : decode Y196.2.1 14 = .ok (.if_icmp .ne 7, 3) := by decide +kernel
theorem d196_17 : decode Y196.2.1 17 = .ok (.iconst 1, 1) := by decide +kernel
theorem d196_18 : decode Y196.2.1 18 = .ok (.goto 4, 3) := by decide +kernel
theorem d196_21 : decode Y196.2.1 21 = .ok (.iconst 0, 1) := by decide +kernel
theorem d196_22 : decode Y196.2.1 22 = .ok (.ireturn, 1) := by decide +kernel
theorem E196 (d : Nat) (a0 : Nat) (x1 : Int32) (h0 : ts_sh a0 = (0, 12)) (m : lt_m) : lt_ev (d + 1) 196 [.inr (.inr (some a0)), .inl x1] m = lt_cI (lt_ev d 197 [.inr (.inr (some a0)), .inl x1] m) (fun v1 m1 => (if v1 = 0 then (some (some (.inl (1 : Int32)), m1)) else (lt_cI (lt_ev d 197 [.inr (.inr (some a0)), .inl x1] m1) (fun v2 m2 => (if ¬ v2 = (3 : Int32) then (some (some (.inl (0 : Int32)), m2)) else (some (some (.inl (1 : Int32)), m2))))))) := by
  refine Eq.trans (lt_enter2 (ls := [some (.inr (.inr (some a0))), some (.inl x1)]) hY196 (Nat.le_of_ble_eq_true rfl) (by rfl)) ?_
  refine Eq.trans (li_aload_n d196_0 (by rfl)) ?_
  refine Eq.trans (li_iload_n d196_1 (by rfl)) ?_
  refine Eq.trans (li_ivI d196_2 ca_12_87 kd_197 kl_197 (by rfl) (by rfl) h0 (Nat.le_of_ble_eq_true rfl) (Nat.le_of_ble_eq_true rfl)) ?_
  refine lt_cI_c (fun v1 m1 => ?_)
  refine Eq.trans (li_if_eq (t := 17) d196_5 (by rfl)) ?_
  refine lt_ite (fun c1 => ?_) (fun c1 => ?_)
  · refine Eq.trans (li_iconst d196_17 ic_1) ?_
    refine Eq.trans (li_goto (t := 22) d196_18 (by rfl)) ?_
    exact li_zret d196_22 rfl (by decide)
  · refine Eq.trans (li_aload_n d196_8 (by rfl)) ?_
    refine Eq.trans (li_iload_n d196_9 (by rfl)) ?_
    refine Eq.trans (li_ivI d196_10 ca_12_87 kd_197 kl_197 (by rfl) (by rfl) h0 (Nat.le_of_ble_eq_true rfl) (Nat.le_of_ble_eq_true rfl)) ?_
    refine lt_cI_c (fun v2 m2 => ?_)
    refine Eq.trans (li_iconst d196_13 ic_3) ?_
    refine Eq.trans (li_icmp_ne (t := 21) d196_14 (by rfl)) ?_
    refine lt_ite (fun c2 => ?_) (fun c2 => ?_)
    · refine Eq.trans (li_iconst d196_21 ic_0) ?_
      exact li_zret d196_22 rfl (by decide)
    · refine Eq.trans (li_iconst d196_17 ic_1) ?_
      refine Eq.trans (li_goto (t := 22) d196_18 (by rfl)) ?_
      exact li_zret d196_22 rfl (by decide)
/-! TransitSealsModel.state(I)I -/
theorem d197_0 : decode Y197.2.1 0 = .ok (.aload_n 0, 1) := by decide +kernel
theorem d197_1 : decode Y197.2.1 1 = .ok (.iload_n 1, 1) := by decide +kernel
theorem d197_2 : decode Y197.2.1 2 = .ok (.iconst 3, 1) := by decide +kernel
theorem d197_3 : decode Y197.2.1 3 = .ok (.invokevirtual 83, 3) := by decide +kernel
theorem d197_6 : decode Y197.2.1 6 = .ok (.ireturn, 1) := by decide +kernel
theorem E197 (d : Nat) (a0 : Nat) (x1 : Int32) (h0 : ts_sh a0 = (0, 12)) (m : lt_m) : lt_ev (d + 1) 197 [.inr (.inr (some a0)), .inl x1] m = lt_cI (lt_ev d 198 [.inr (.inr (some a0)), .inl x1, .inl (3 : Int32)] m) (fun v1 m1 => (some (some (.inl v1), m1))) := by
  refine Eq.trans (lt_enter2 (ls := [some (.inr (.inr (some a0))), some (.inl x1)]) hY197 (Nat.le_of_ble_eq_true rfl) (by rfl)) ?_
  refine Eq.trans (li_aload_n d197_0 (by rfl)) ?_
  refine Eq.trans (li_iload_n d197_1 (by rfl)) ?_
  refine Eq.trans (li_iconst d197_2 ic_3) ?_
  refine Eq.trans (li_ivI d197_3 ca_12_83 kd_198 kl_198 (by rfl) (by rfl) h0 (Nat.le_of_ble_eq_true rfl) (Nat.le_of_ble_eq_true rfl)) ?_
  refine lt_cI_c (fun v1 m1 => ?_)
  exact li_iret d197_6 rfl
/-! TransitSealsModel.of(II)I -/
theorem d198_0 : decode Y198.2.1 0 = .ok (.aload_n 0, 1) := by decide +kernel
theorem d198_1 : decode Y198.2.1 1 = .ok (.getfield 7, 3) := by decide +kernel
theorem d198_4 : decode Y198.2.1 4 = .ok (.bipush 16, 2) := by decide +kernel
theorem d198_6 : decode Y198.2.1 6 = .ok (.bipush 26, 2) := by decide +kernel
theorem d198_8 : decode Y198.2.1 8 = .ok (.iload_n 1, 1) := by decide +kernel
theorem d198_9 : decode Y198.2.1 9 = .ok (.imul, 1) := by decide +kernel
theorem d198_10 : decode Y198.2.1 10 = .ok (.iadd, 1) := by decide +kernel
theorem d198_11 : decode Y198.2.1 11 = .ok (.iload_n 2, 1) := by decide +kernel
theorem d198_12 : decode Y198.2.1 12 = .ok (.iadd, 1) := by decide +kernel
theorem d198_13 : decode Y198.2.1 13 = .ok (.iaload, 1) := by decide +kernel
theorem d198_14 : decode Y198.2.1 14 = .ok (.ireturn, 1) := by decide +kernel
theorem E198 (d : Nat) (a0 : Nat) (x1 : Int32) (x2 : Int32) (h0 : ts_sh a0 = (0, 12)) (m : lt_m) : lt_ev (d + 1) 198 [.inr (.inr (some a0)), .inl x1, .inl x2] m = lt_gd (0 ≤ (((16 : Int32) + ((26 : Int32) * x1)) + x2) ∧ ((((16 : Int32) + ((26 : Int32) * x1)) + x2)).toNatClampNeg < 626) (some (some (.inl (m.1 (a0 + 1) ((((16 : Int32) + ((26 : Int32) * x1)) + x2)).toNatClampNeg)), m)) := by
  refine Eq.trans (lt_enter2 (ls := [some (.inr (.inr (some a0))), some (.inl x1), some (.inl x2)]) hY198 (Nat.le_of_ble_eq_true rfl) (by rfl)) ?_
  refine Eq.trans (li_aload_n d198_0 (by rfl)) ?_
  refine Eq.trans (li_getr d198_1 fa_12_7 h0 rfl rfl rfl (by decide)) ?_
  refine Eq.trans (li_bipush d198_4 bi_16) ?_
  refine Eq.trans (li_bipush d198_6 bi_26) ?_
  refine Eq.trans (li_iload_n d198_8 (by rfl)) ?_
  refine Eq.trans (li_imul d198_9) ?_
  refine Eq.trans (li_iadd d198_10) ?_
  refine Eq.trans (li_iload_n d198_11 (by rfl)) ?_
  refine Eq.trans (li_iadd d198_12) ?_
  refine Eq.trans (li_iald d198_13 (sf_of h0 0 (by decide) (by decide))) ?_
  refine lt_gd_c (fun g1 => ?_)
  exact li_iret d198_14 rfl
/-! TransitSealsModel.seenAt(I)I -/
theorem d199_0 : decode Y199.2.1 0 = .ok (.aload_n 0, 1) := by decide +kernel
theorem d199_1 : decode Y199.2.1 1 = .ok (.iload_n 1, 1) := by decide +kernel
theorem d199_2 : decode Y199.2.1 2 = .ok (.bipush 10, 2) := by decide +kernel
theorem d199_4 : decode Y199.2.1 4 = .ok (.aload_n 0, 1) := by decide +kernel
theorem d199_5 : decode Y199.2.1 5 = .ok (.iload_n 1, 1) := by decide +kernel
theorem d199_6 : decode Y199.2.1 6 = .ok (.bipush 6, 2) := by decide +kernel
theorem d199_8 : decode Y199.2.1 8 = .ok (.invokevirtual 83, 3) := by decide +kernel
theorem d199_11 : decode Y199.2.1 11 = .ok (.iadd, 1) := by decide +kernel
theorem d199_12 : decode Y199.2.1 12 = .ok (.iconst 1, 1) := by decide +kernel
theorem d199_13 : decode Y199.2.1 13 = .ok (.isub, 1) := by decide +kernel
theorem d199_14 : decode Y199.2.1 14 = .ok (.invokevirtual 83, 3) := by decide +kernel
theorem d199_17 : decode Y199.2.1 17 = .ok (.ireturn, 1) := by decide +kernel
theorem E199 (d : Nat) (a0 : Nat) (x1 : Int32) (h0 : ts_sh a0 = (0, 12)) (m : lt_m) : lt_ev (d + 1) 199 [.inr (.inr (some a0)), .inl x1] m = lt_cI (lt_ev d 198 [.inr (.inr (some a0)), .inl x1, .inl (6 : Int32)] m) (fun v1 m1 => (lt_cI (lt_ev d 198 [.inr (.inr (some a0)), .inl x1, .inl (((10 : Int32) + v1) - (1 : Int32))] m1) (fun v2 m2 => (some (some (.inl v2), m2))))) := by
  refine Eq.trans (lt_enter2 (ls := [some (.inr (.inr (some a0))), some (.inl x1)]) hY199 (Nat.le_of_ble_eq_true rfl) (by rfl)) ?_
  refine Eq.trans (li_aload_n d199_0 (by rfl)) ?_
  refine Eq.trans (li_iload_n d199_1 (by rfl)) ?_
  refine Eq.trans (li_bipush d199_2 bi_10) ?_
  refine Eq.trans (li_aload_n d199_4 (by rfl)) ?_
  refine Eq.trans (li_iload_n d199_5 (by rfl)) ?_
  refine Eq.trans (li_bipush d199_6 bi_6) ?_
  refine Eq.trans (li_ivI d199_8 ca_12_83 kd_198 kl_198 (by rfl) (by rfl) h0 (Nat.le_of_ble_eq_true rfl) (Nat.le_of_ble_eq_true rfl)) ?_
  refine lt_cI_c (fun v1 m1 => ?_)
  refine Eq.trans (li_iadd d199_11) ?_
  refine Eq.trans (li_iconst d199_12 ic_1) ?_
  refine Eq.trans (li_isub d199_13) ?_
  refine Eq.trans (li_ivI d199_14 ca_12_83 kd_198 kl_198 (by rfl) (by rfl) h0 (Nat.le_of_ble_eq_true rfl) (Nat.le_of_ble_eq_true rfl)) ?_
  refine lt_cI_c (fun v2 m2 => ?_)
  exact li_iret d199_17 rfl

/-! ===== equations of methods ===== -/
/-! TransitSeals$Route.readFrom(LTransitSeals$Reader;LTransitSeals$Net;)V -/
theorem d101_0 : decode Y101.2.1 0 = .ok (.aload_n 1, 1) := by decide +kernel
theorem d101_1 : decode Y101.2.1 1 = .ok (.invokevirtual 26, 3) := by decide +kernel
theorem d101_4 : decode Y101.2.1 4 = .ok (.aload_n 0, 1) := by decide +kernel
theorem d101_5 : decode Y101.2.1 5 = .ok (.iconst 0, 1) := by decide +kernel
theorem d101_6 : decode Y101.2.1 6 = .ok (.putfield 15, 3) := by decide +kernel
theorem d101_9 : decode Y101.2.1 9 = .ok (.aload_n 0, 1) := by decide +kernel
theorem d101_10 : decode Y101.2.1 10 = .ok (.iconst 0, 1) := by decide +kernel
theorem d101_11 : decode Y101.2.1 11 = .ok (.putfield 23, 3) := by decide +kernel
theorem d101_14 : decode Y101.2.1 14 = .ok (.iconst 0, 1) := by decide +kernel
theorem d101_15 : decode Y101.2.1 15 = .ok (.istore_n 3, 1) := by decide +kernel
theorem d101_16 : decode Y101.2.1 16 = .ok (.iconst 1, 1) := by decide +kernel
theorem d101_17 : decode Y101.2.1 17 = .ok (.istore 4, 2) := by decide +kernel
theorem d101_19 : decode Y101.2.1 19 = .ok (.iload 4, 2) := by decide +kernel
theorem d101_21 : decode Y101.2.1 21 = .ok (.ifCond .eq 137, 3) := by decide +kernel
theorem d101_24 : decode Y101.2.1 24 = .ok (.aload_n 0, 1) := by decide +kernel
theorem d101_25 : decode Y101.2.1 25 = .ok (.getfield 15, 3) := by decide +kernel
theorem d101_28 : decode Y101.2.1 28 = .ok (.bipush 8, 2) := by decide +kernel
theorem d101_30 : decode Y101.2.1 30 = .ok (.if_icmp .ge 128, 3) := by decide +kernel
theorem d101_33 : decode Y101.2.1 33 = .ok (.aload_n 1, 1) := by decide +kernel
theorem d101_34 : decode Y101.2.1 34 = .ok (.iconst 0, 1) := by decide +kernel
theorem d101_35 : decode Y101.2.1 35 = .ok (.aload_n 2, 1) := by decide +kernel
theorem d101_36 : decode Y101.2.1 36 = .ok (.getfield 31, 3) := by decide +kernel
theorem d101_39 : decode Y101.2.1 39 = .ok (.iconst 1, 1) := by decide +kernel
theorem d101_40 : decode Y101.2.1 40 = .ok (.isub, 1) := by decide +kernel
theorem d101_41 : decode Y101.2.1 41 = .ok (.invokevirtual 35, 3) := by decide +kernel
theorem d101_44 : decode Y101.2.1 44 = .ok (.istore 5, 2) := by decide +kernel
theorem d101_46 : decode Y101.2.1 46 = .ok (.aload_n 2, 1) := by decide +kernel
theorem d101_47 : decode Y101.2.1 47 = .ok (.aload_n 0, 1) := by decide +kernel
theorem d101_48 : decode Y101.2.1 48 = .ok (.aload_n 0, 1) := by decide +kernel
theorem d101_49 : decode Y101.2.1 49 = .ok (.getfield 15, 3) := by decide +kernel
theorem d101_52 : decode Y101.2.1 52 = .ok (.iconst 1, 1) := by decide +kernel
theorem d101_53 : decode Y101.2.1 53 = .ok (.isub, 1) := by decide +kernel
theorem d101_54 : decode Y101.2.1 54 = .ok (.invokevirtual 39, 3) := by decide +kernel
theorem d101_57 : decode Y101.2.1 57 = .ok (.iload 5, 2) := by decide +kernel
theorem d101_59 : decode Y101.2.1 59 = .ok (.invokevirtual 43, 3) := by decide +kernel
theorem d101_62 : decode Y101.2.1 62 = .ok (.istore 6, 2) := by decide +kernel
theorem d101_64 : decode Y101.2.1 64 = .ok (.iload_n 3, 1) := by decide +kernel
theorem d101_65 : decode Y101.2.1 65 = .ok (.iload 5, 2) := by decide +kernel
theorem d101_67 : decode Y101.2.1 67 = .ok (.ishr, 1) := by decide +kernel
theorem d101_68 : decode Y101.2.1 68 = .ok (.iconst 1, 1) := by decide +kernel
theorem d101_69 : decode Y101.2.1 69 = .ok (.iand, 1) := by decide +kernel
theorem d101_70 : decode Y101.2.1 70 = .ok (.ifCond .ne 15, 3) := by decide +kernel
theorem d101_73 : decode Y101.2.1 73 = .ok (.aload_n 0, 1) := by decide +kernel
theorem d101_74 : decode Y101.2.1 74 = .ok (.getfield 15, 3) := by decide +kernel
theorem d101_77 : decode Y101.2.1 77 = .ok (.ifCond .le 12, 3) := by decide +kernel
theorem d101_80 : decode Y101.2.1 80 = .ok (.iload 6, 2) := by decide +kernel
theorem d101_82 : decode Y101.2.1 82 = .ok (.ifCond .ne 7, 3) := by decide +kernel
theorem d101_85 : decode Y101.2.1 85 = .ok (.aload_n 1, 1) := by decide +kernel
theorem d101_86 : decode Y101.2.1 86 = .ok (.invokevirtual 46, 3) := by decide +kernel
theorem d101_89 : decode Y101.2.1 89 = .ok (.aload_n 0, 1) := by decide +kernel
theorem d101_90 : decode Y101.2.1 90 = .ok (.getfield 9, 3) := by decide +kernel
theorem d101_93 : decode Y101.2.1 93 = .ok (.aload_n 0, 1) := by decide +kernel
theorem d101_94 : decode Y101.2.1 94 = .ok (.getfield 15, 3) := by decide +kernel
theorem d101_97 : decode Y101.2.1 97 = .ok (.iload 5, 2) := by decide +kernel
theorem d101_99 : decode Y101.2.1 99 = .ok (.invokestatic 49, 3) := by decide +kernel
theorem d101_102 : decode Y101.2.1 102 = .ok (.iload_n 3, 1) := by decide +kernel
theorem d101_103 : decode Y101.2.1 103 = .ok (.iconst 1, 1) := by decide +kernel
theorem d101_104 : decode Y101.2.1 104 = .ok (.iload 5, 2) := by decide +kernel
theorem d101_106 : decode Y101.2.1 106 = .ok (.ishl, 1) := by decide +kernel
theorem d101_107 : decode Y101.2.1 107 = .ok (.ior, 1) := by decide +kernel
theorem d101_108 : decode Y101.2.1 108 = .ok (.istore_n 3, 1) := by decide +kernel
theorem d101_109 : decode Y101.2.1 109 = .ok (.aload_n 0, 1) := by decide +kernel
theorem d101_110 : decode Y101.2.1 110 = .ok (.dup, 1) := by decide +kernel
theorem d101_111 : decode Y101.2.1 111 = .ok (.getfield 23, 3) := by decide +kernel
theorem d101_114 : decode Y101.2.1 114 = .ok (.iload 6, 2) := by decide +kernel
theorem d101_116 : decode Y101.2.1 116 = .ok (.iadd, 1) := by decide +kernel
theorem d101_117 : decode Y101.2.1 117 = .ok (.putfield 23, 3) := by decide +kernel
theorem d101_120 : decode Y101.2.1 120 = .ok (.aload_n 0, 1) := by decide +kernel
theorem d101_121 : decode Y101.2.1 121 = .ok (.dup, 1) := by decide +kernel
theorem d101_122 : decode Y101.2.1 122 = .ok (.getfield 15, 3) := by decide +kernel
theorem d101_125 : decode Y101.2.1 125 = .ok (.iconst 1, 1) := by decide +kernel
theorem d101_126 : decode Y101.2.1 126 = .ok (.iadd, 1) := by decide +kernel
theorem d101_127 : decode Y101.2.1 127 = .ok (.putfield 15, 3) := by decide +kernel
theorem d101_130 : decode Y101.2.1 130 = .ok (.aload_n 0, 1) := by decide +kernel
theorem d101_131 : decode Y101.2.1 131 = .ok (.getfield 15, 3) := by decide +kernel
theorem d101_134 : decode Y101.2.1 134 = .ok (.bipush 8, 2) := by decide +kernel
theorem d101_136 : decode Y101.2.1 136 = .ok (.if_icmp .ge 16, 3) := by decide +kernel
theorem d101_139 : decode Y101.2.1 139 = .ok (.aload_n 1, 1) := by decide +kernel
theorem d101_140 : decode Y101.2.1 140 = .ok (.bipush 45, 2) := by decide +kernel
theorem d101_142 : decode Y101.2.1 142 = .ok (.invokevirtual 53, 3) := by decide +kernel
theorem d101_145 : decode Y101.2.1 145 = .ok (.ifCond .eq 7, 3) := by decide +kernel
theorem d101_148 : decode Y101.2.1 148 = .ok (.iconst 1, 1) := by decide +kernel
theorem d101_149 : decode Y101.2.1 149 = .ok (.goto 4, 3) := by decide +kernel
theorem d101_152 : decode Y101.2.1 152 = .ok (.iconst 0, 1) := by decide +kernel
theorem d101_153 : decode Y101.2.1 153 = .ok (.istore 4, 2) := by decide +kernel
theorem d101_155 : decode Y101.2.1 155 = .ok (.goto (-136), 3) := by decide +kernel
theorem d101_158 : decode Y101.2.1 158 = .ok (.aload_n 0, 1) := by decide +kernel
theorem d101_159 : decode Y101.2.1 159 = .ok (.getfield 15, 3) := by decide +kernel
theorem d101_162 : decode Y101.2.1 162 = .ok (.iconst 2, 1) := by decide +kernel
theorem d101_163 : decode Y101.2.1 163 = .ok (.if_icmp .ge 7, 3) := by decide +kernel
theorem d101_166 : decode Y101.2.1 166 = .ok (.aload_n 1, 1) := by decide +kernel
theorem d101_167 : decode Y101.2.1 167 = .ok (.invokevirtual 57, 3) := by decide +kernel
theorem d101_170 : decode Y101.2.1 170 = .ok (.aload_n 1, 1) := by decide +kernel
theorem d101_171 : decode Y101.2.1 171 = .ok (.invokevirtual 60, 3) := by decide +kernel
theorem d101_174 : decode Y101.2.1 174 = .ok (.return_, 1) := by decide +kernel
noncomputable def L101_19 (d : Nat) (a0 : Nat) (a1 : Nat) (a2 : Nat) (x3 : Int32) (x4 : Int32) (o5 : Option ts_V) (o6 : Option ts_V) (m : lt_m) : Option lt_r := lt_run d Y101 19 [some (.inr (.inr (some a0))), some (.inr (.inr (some a1))), some (.inr (.inr (some a2))), some (.inl x3), some (.inl x4), o5, o6] [] m
noncomputable def L101_89 (d : Nat) (a0 : Nat) (a1 : Nat) (a2 : Nat) (x3 : Int32) (x4 : Int32) (x5 : Int32) (x6 : Int32) (m : lt_m) : Option lt_r := lt_run d Y101 89 [some (.inr (.inr (some a0))), some (.inr (.inr (some a1))), some (.inr (.inr (some a2))), some (.inl x3), some (.inl x4), some (.inl x5), some (.inl x6)] [] m
noncomputable def L101_158 (d : Nat) (a0 : Nat) (a1 : Nat) (a2 : Nat) (x3 : Int32) (x4 : Int32) (o5 : Option ts_V) (o6 : Option ts_V) (m : lt_m) : Option lt_r := lt_run d Y101 158 [some (.inr (.inr (some a0))), some (.inr (.inr (some a1))), some (.inr (.inr (some a2))), some (.inl x3), some (.inl x4), o5, o6] [] m
theorem E101 (d : Nat) (a0 : Nat) (a1 : Nat) (a2 : Nat) (h0 : ts_sh a0 = (0, 7)) (h1 : ts_sh a1 = (0, 6)) (h2 : ts_sh a2 = (0, 5)) (m : lt_m) : lt_ev (d + 1) 101 [.inr (.inr (some a0)), .inr (.inr (some a1)), .inr (.inr (some a2))] m = lt_cV (lt_ev d 31 [.inr (.inr (some a1))] m) (fun m1 => (L101_19 d a0 a1 a2 (0 : Int32) (1 : Int32) none none (lm_i (lm_i m1 a0 1 (0 : Int32)) a0 2 (0 : Int32)))) := by
  refine Eq.trans (lt_enter2 (ls := [some (.inr (.inr (some a0))), some (.inr (.inr (some a1))), some (.inr (.inr (some a2))), none, none, none, none]) hY101 (Nat.le_of_ble_eq_true rfl) (by rfl)) ?_
  refine Eq.trans (li_aload_n d101_0 (by rfl)) ?_
  refine Eq.trans (li_ivV d101_1 ca_7_26 kd_31 kl_31 (by rfl) (by rfl) h1 (Nat.le_of_ble_eq_true rfl) (Nat.le_of_ble_eq_true rfl)) ?_
  refine lt_cV_c (fun m1 => ?_)
  refine Eq.trans (li_aload_n d101_4 (by rfl)) ?_
  refine Eq.trans (li_iconst d101_5 ic_0) ?_
  refine Eq.trans (li_puti d101_6 fa_7_15 h0 rfl rfl) ?_
  refine Eq.trans (li_aload_n d101_9 (by rfl)) ?_
  refine Eq.trans (li_iconst d101_10 ic_0) ?_
  refine Eq.trans (li_puti d101_11 fa_7_23 h0 rfl rfl) ?_
  refine Eq.trans (li_iconst d101_14 ic_0) ?_
  refine Eq.trans (li_istore_n (ls' := [some (.inr (.inr (some a0))), some (.inr (.inr (some a1))), some (.inr (.inr (some a2))), some (.inl (0 : Int32)), none, none, none]) d101_15 (by decide) (by rfl)) ?_
  refine Eq.trans (li_iconst d101_16 ic_1) ?_
  refine Eq.trans (li_istore (ls' := [some (.inr (.inr (some a0))), some (.inr (.inr (some a1))), some (.inr (.inr (some a2))), some (.inl (0 : Int32)), some (.inl (1 : Int32)), none, none]) d101_17 (by decide) (by rfl)) ?_
  rfl
theorem E101_19 (d : Nat) (a0 : Nat) (a1 : Nat) (a2 : Nat) (x3 : Int32) (x4 : Int32) (o5 : Option ts_V) (o6 : Option ts_V) (h0 : ts_sh a0 = (0, 7)) (h1 : ts_sh a1 = (0, 6)) (h2 : ts_sh a2 = (0, 5)) (m : lt_m) : L101_19 d a0 a1 a2 x3 x4 o5 o6 m = if x4 = 0 then (L101_158 d a0 a1 a2 x3 x4 (o5) (o6) m) else (if (8 : Int32) ≤ (m.1 a0 1) then (L101_158 d a0 a1 a2 x3 x4 (o5) (o6) m) else (lt_cI (lt_ev d 37 [.inr (.inr (some a1)), .inl (0 : Int32), .inl ((m.1 a2 6) - (1 : Int32))] m) (fun v1 m1 => (lt_cI (lt_ev d 102 [.inr (.inr (some a0)), .inl ((m1.1 a0 1) - (1 : Int32))] m1) (fun v2 m2 => (lt_cI (lt_ev d 13 [.inr (.inr (some a2)), .inl v2, .inl v1] m2) (fun v3 m3 => (if ¬ ((x3 >>> (v1 &&& 31)) &&& (1 : Int32)) = 0 then (lt_cV (lt_ev d 41 [.inr (.inr (some a1))] m3) (fun m4 => (L101_89 d a0 a1 a2 x3 x4 v1 v3 m4))) else (if (m3.1 a0 1) ≤ 0 then (L101_89 d a0 a1 a2 x3 x4 v1 v3 m3) else (if ¬ v3 = 0 then (L101_89 d a0 a1 a2 x3 x4 v1 v3 m3) else (lt_cV (lt_ev d 41 [.inr (.inr (some a1))] m3) (fun m5 => (L101_89 d a0 a1 a2 x3 x4 v1 v3 m5))))))))))))) := by
  show lt_run d Y101 19 [some (.inr (.inr (some a0))), some (.inr (.inr (some a1))), some (.inr (.inr (some a2))), some (.inl x3), some (.inl x4), o5, o6] [] m = _
  refine Eq.trans (li_iload d101_19 (by rfl)) ?_
  refine Eq.trans (li_if_eq (t := 158) d101_21 (by rfl)) ?_
  refine lt_ite (fun c1 => ?_) (fun c1 => ?_)
  · rfl
  · refine Eq.trans (li_aload_n d101_24 (by rfl)) ?_
    refine Eq.trans (li_geti d101_25 fa_7_15 h0 rfl) ?_
    refine Eq.trans (li_bipush d101_28 bi_8) ?_
    refine Eq.trans (li_icmp_ge (t := 158) d101_30 (by rfl)) ?_
    refine lt_ite (fun c2 => ?_) (fun c2 => ?_)
    · rfl
    · refine Eq.trans (li_aload_n d101_33 (by rfl)) ?_
      refine Eq.trans (li_iconst d101_34 ic_0) ?_
      refine Eq.trans (li_aload_n d101_35 (by rfl)) ?_
      refine Eq.trans (li_geti d101_36 fa_7_31 h2 rfl) ?_
      refine Eq.trans (li_iconst d101_39 ic_1) ?_
      refine Eq.trans (li_isub d101_40) ?_
      refine Eq.trans (li_ivI d101_41 ca_7_35 kd_37 kl_37 (by rfl) (by rfl) h1 (Nat.le_of_ble_eq_true rfl) (Nat.le_of_ble_eq_true rfl)) ?_
      refine lt_cI_c (fun v1 m1 => ?_)
      refine Eq.trans (li_istore (ls' := [some (.inr (.inr (some a0))), some (.inr (.inr (some a1))), some (.inr (.inr (some a2))), some (.inl x3), some (.inl x4), some (.inl v1), o6]) d101_44 (by decide) (by rfl)) ?_
      refine Eq.trans (li_aload_n d101_46 (by rfl)) ?_
      refine Eq.trans (li_aload_n d101_47 (by rfl)) ?_
      refine Eq.trans (li_aload_n d101_48 (by rfl)) ?_
      refine Eq.trans (li_geti d101_49 fa_7_15 h0 rfl) ?_
      refine Eq.trans (li_iconst d101_52 ic_1) ?_
      refine Eq.trans (li_isub d101_53) ?_
      refine Eq.trans (li_ivI d101_54 ca_7_39 kd_102 kl_102 (by rfl) (by rfl) h0 (Nat.le_of_ble_eq_true rfl) (Nat.le_of_ble_eq_true rfl)) ?_
      refine lt_cI_c (fun v2 m2 => ?_)
      refine Eq.trans (li_iload d101_57 (by rfl)) ?_
      refine Eq.trans (li_ivI d101_59 ca_7_43 kd_13 kl_13 (by rfl) (by rfl) h2 (Nat.le_of_ble_eq_true rfl) (Nat.le_of_ble_eq_true rfl)) ?_
      refine lt_cI_c (fun v3 m3 => ?_)
      refine Eq.trans (li_istore (ls' := [some (.inr (.inr (some a0))), some (.inr (.inr (some a1))), some (.inr (.inr (some a2))), some (.inl x3), some (.inl x4), some (.inl v1), some (.inl v3)]) d101_62 (by decide) (by rfl)) ?_
      refine Eq.trans (li_iload_n d101_64 (by rfl)) ?_
      refine Eq.trans (li_iload d101_65 (by rfl)) ?_
      refine Eq.trans (li_ishr d101_67) ?_
      refine Eq.trans (li_iconst d101_68 ic_1) ?_
      refine Eq.trans (li_iand d101_69) ?_
      refine Eq.trans (li_if_ne (t := 85) d101_70 (by rfl)) ?_
      refine lt_ite (fun c3 => ?_) (fun c3 => ?_)
      · refine Eq.trans (li_aload_n d101_85 (by rfl)) ?_
        refine Eq.trans (li_ivV d101_86 ca_7_46 kd_41 kl_41 (by rfl) (by rfl) h1 (Nat.le_of_ble_eq_true rfl) (Nat.le_of_ble_eq_true rfl)) ?_
        refine lt_cV_c (fun m4 => ?_)
        rfl
      · refine Eq.trans (li_aload_n d101_73 (by rfl)) ?_
        refine Eq.trans (li_geti d101_74 fa_7_15 h0 rfl) ?_
        refine Eq.trans (li_if_le (t := 89) d101_77 (by rfl)) ?_
        refine lt_ite (fun c4 => ?_) (fun c4 => ?_)
        · rfl
        · refine Eq.trans (li_iload d101_80 (by rfl)) ?_
          refine Eq.trans (li_if_ne (t := 89) d101_82 (by rfl)) ?_
          refine lt_ite (fun c5 => ?_) (fun c5 => ?_)
          · rfl
          · refine Eq.trans (li_aload_n d101_85 (by rfl)) ?_
            refine Eq.trans (li_ivV d101_86 ca_7_46 kd_41 kl_41 (by rfl) (by rfl) h1 (Nat.le_of_ble_eq_true rfl) (Nat.le_of_ble_eq_true rfl)) ?_
            refine lt_cV_c (fun m5 => ?_)
            rfl
theorem E101_89 (d : Nat) (a0 : Nat) (a1 : Nat) (a2 : Nat) (x3 : Int32) (x4 : Int32) (x5 : Int32) (x6 : Int32) (h0 : ts_sh a0 = (0, 7)) (h1 : ts_sh a1 = (0, 6)) (m : lt_m) : L101_89 d a0 a1 a2 x3 x4 x5 x6 m = lt_cV (lt_ev d 17 [.inr (.inr (some (a0 + 1))), .inl (m.1 a0 1), .inl x5] m) (fun m1 => (if (8 : Int32) ≤ ((lm_i (lm_i m1 a0 2 ((m1.1 a0 2) + x6)) a0 1 (((lm_i m1 a0 2 ((m1.1 a0 2) + x6)).1 a0 1) + (1 : Int32))).1 a0 1) then (L101_19 d a0 a1 a2 (x3 ||| ((1 : Int32) <<< (x5 &&& 31))) (0 : Int32) (some (.inl x5)) (some (.inl x6)) (lm_i (lm_i m1 a0 2 ((m1.1 a0 2) + x6)) a0 1 (((lm_i m1 a0 2 ((m1.1 a0 2) + x6)).1 a0 1) + (1 : Int32)))) else (lt_cI (lt_ev d 43 [.inr (.inr (some a1)), .inl (45 : Int32)] (lm_i (lm_i m1 a0 2 ((m1.1 a0 2) + x6)) a0 1 (((lm_i m1 a0 2 ((m1.1 a0 2) + x6)).1 a0 1) + (1 : Int32)))) (fun v1 m2 => (if v1 = 0 then (L101_19 d a0 a1 a2 (x3 ||| ((1 : Int32) <<< (x5 &&& 31))) (0 : Int32) (some (.inl x5)) (some (.inl x6)) m2) else (L101_19 d a0 a1 a2 (x3 ||| ((1 : Int32) <<< (x5 &&& 31))) (1 : Int32) (some (.inl x5)) (some (.inl x6)) m2)))))) := by
  show lt_run d Y101 89 [some (.inr (.inr (some a0))), some (.inr (.inr (some a1))), some (.inr (.inr (some a2))), some (.inl x3), some (.inl x4), some (.inl x5), some (.inl x6)] [] m = _
  refine Eq.trans (li_aload_n d101_89 (by rfl)) ?_
  refine Eq.trans (li_getr d101_90 fa_7_9 h0 rfl rfl rfl (by decide)) ?_
  refine Eq.trans (li_aload_n d101_93 (by rfl)) ?_
  refine Eq.trans (li_geti d101_94 fa_7_15 h0 rfl) ?_
  refine Eq.trans (li_iload d101_97 (by rfl)) ?_
  refine Eq.trans (li_isV d101_99 bi_7_49 ca_7_49 kd_17 (by rfl) (by rfl) (Nat.le_of_ble_eq_true rfl) (Nat.le_of_ble_eq_true rfl)) ?_
  refine lt_cV_c (fun m1 => ?_)
  refine Eq.trans (li_iload_n d101_102 (by rfl)) ?_
  refine Eq.trans (li_iconst d101_103 ic_1) ?_
  refine Eq.trans (li_iload d101_104 (by rfl)) ?_
  refine Eq.trans (li_ishl d101_106) ?_
  refine Eq.trans (li_ior d101_107) ?_
  refine Eq.trans (li_istore_n (ls' := [some (.inr (.inr (some a0))), some (.inr (.inr (some a1))), some (.inr (.inr (some a2))), some (.inl (x3 ||| ((1 : Int32) <<< (x5 &&& 31)))), some (.inl x4), some (.inl x5), some (.inl x6)]) d101_108 (by decide) (by rfl)) ?_
  refine Eq.trans (li_aload_n d101_109 (by rfl)) ?_
  refine Eq.trans (li_dup d101_110 rfl) ?_
  refine Eq.trans (li_geti d101_111 fa_7_23 h0 rfl) ?_
  refine Eq.trans (li_iload d101_114 (by rfl)) ?_
  refine Eq.trans (li_iadd d101_116) ?_
  refine Eq.trans (li_puti d101_117 fa_7_23 h0 rfl rfl) ?_
  refine Eq.trans (li_aload_n d101_120 (by rfl)) ?_
  refine Eq.trans (li_dup d101_121 rfl) ?_
  refine Eq.trans (li_geti d101_122 fa_7_15 h0 rfl) ?_
  refine Eq.trans (li_iconst d101_125 ic_1) ?_
  refine Eq.trans (li_iadd d101_126) ?_
  refine Eq.trans (li_puti d101_127 fa_7_15 h0 rfl rfl) ?_
  refine Eq.trans (li_aload_n d101_130 (by rfl)) ?_
  refine Eq.trans (li_geti d101_131 fa_7_15 h0 rfl) ?_
  refine Eq.trans (li_bipush d101_134 bi_8) ?_
  refine Eq.trans (li_icmp_ge (t := 152) d101_136 (by rfl)) ?_
  refine lt_ite (fun c1 => ?_) (fun c1 => ?_)
  · refine Eq.trans (li_iconst d101_152 ic_0) ?_
    refine Eq.trans (li_istore (ls' := [some (.inr (.inr (some a0))), some (.inr (.inr (some a1))), some (.inr (.inr (some a2))), some (.inl (x3 ||| ((1 : Int32) <<< (x5 &&& 31)))), some (.inl (0 : Int32)), some (.inl x5), some (.inl x6)]) d101_153 (by decide) (by rfl)) ?_
    refine Eq.trans (li_goto (t := 19) d101_155 (by rfl)) ?_
    rfl
  · refine Eq.trans (li_aload_n d101_139 (by rfl)) ?_
    refine Eq.trans (li_bipush d101_140 bi_45) ?_
    refine Eq.trans (li_ivI d101_142 ca_7_53 kd_43 kl_43 (by rfl) (by rfl) h1 (Nat.le_of_ble_eq_true rfl) (Nat.le_of_ble_eq_true rfl)) ?_
    refine lt_cI_c (fun v1 m2 => ?_)
    refine Eq.trans (li_if_eq (t := 152) d101_145 (by rfl)) ?_
    refine lt_ite (fun c2 => ?_) (fun c2 => ?_)
    · refine Eq.trans (li_iconst d101_152 ic_0) ?_
      refine Eq.trans (li_istore (ls' := [some (.inr (.inr (some a0))), some (.inr (.inr (some a1))), some (.inr (.inr (some a2))), some (.inl (x3 ||| ((1 : Int32) <<< (x5 &&& 31)))), some (.inl (0 : Int32)), some (.inl x5), some (.inl x6)]) d101_153 (by decide) (by rfl)) ?_
      refine Eq.trans (li_goto (t := 19) d101_155 (by rfl)) ?_
      rfl
    · refine Eq.trans (li_iconst d101_148 ic_1) ?_
      refine Eq.trans (li_goto (t := 153) d101_149 (by rfl)) ?_
      refine Eq.trans (li_istore (ls' := [some (.inr (.inr (some a0))), some (.inr (.inr (some a1))), some (.inr (.inr (some a2))), some (.inl (x3 ||| ((1 : Int32) <<< (x5 &&& 31)))), some (.inl (1 : Int32)), some (.inl x5), some (.inl x6)]) d101_153 (by decide) (by rfl)) ?_
      refine Eq.trans (li_goto (t := 19) d101_155 (by rfl)) ?_
      rfl
theorem E101_158 (d : Nat) (a0 : Nat) (a1 : Nat) (a2 : Nat) (x3 : Int32) (x4 : Int32) (o5 : Option ts_V) (o6 : Option ts_V) (h0 : ts_sh a0 = (0, 7)) (h1 : ts_sh a1 = (0, 6)) (m : lt_m) : L101_158 d a0 a1 a2 x3 x4 o5 o6 m = if (2 : Int32) ≤ (m.1 a0 1) then (lt_cV (lt_ev d 51 [.inr (.inr (some a1))] m) (fun m1 => (some (none, m1)))) else (lt_cV (lt_ev d 39 [.inr (.inr (some a1))] m) (fun m2 => (lt_cV (lt_ev d 51 [.inr (.inr (some a1))] m2) (fun m3 => (some (none, m3)))))) := by
  show lt_run d Y101 158 [some (.inr (.inr (some a0))), some (.inr (.inr (some a1))), some (.inr (.inr (some a2))), some (.inl x3), some (.inl x4), o5, o6] [] m = _
  refine Eq.trans (li_aload_n d101_158 (by rfl)) ?_
  refine Eq.trans (li_geti d101_159 fa_7_15 h0 rfl) ?_
  refine Eq.trans (li_iconst d101_162 ic_2) ?_
  refine Eq.trans (li_icmp_ge (t := 170) d101_163 (by rfl)) ?_
  refine lt_ite (fun c1 => ?_) (fun c1 => ?_)
  · refine Eq.trans (li_aload_n d101_170 (by rfl)) ?_
    refine Eq.trans (li_ivV d101_171 ca_7_60 kd_51 kl_51 (by rfl) (by rfl) h1 (Nat.le_of_ble_eq_true rfl) (Nat.le_of_ble_eq_true rfl)) ?_
    refine lt_cV_c (fun m1 => ?_)
    exact li_vret d101_174 rfl
  · refine Eq.trans (li_aload_n d101_166 (by rfl)) ?_
    refine Eq.trans (li_ivV d101_167 ca_7_57 kd_39 kl_39 (by rfl) (by rfl) h1 (Nat.le_of_ble_eq_true rfl) (Nat.le_of_ble_eq_true rfl)) ?_
    refine lt_cV_c (fun m2 => ?_)
    refine Eq.trans (li_aload_n d101_170 (by rfl)) ?_
    refine Eq.trans (li_ivV d101_171 ca_7_60 kd_51 kl_51 (by rfl) (by rfl) h1 (Nat.le_of_ble_eq_true rfl) (Nat.le_of_ble_eq_true rfl)) ?_
    refine lt_cV_c (fun m3 => ?_)
    exact li_vret d101_174 rfl
/-! TransitSeals$Route.officeAt(I)I -/
theorem d102_0 : decode Y102.2.1 0 = .ok (.iload_n 1, 1) := by decide +kernel
theorem d102_1 : decode Y102.2.1 1 = .ok (.ifCond .lt 22, 3) := by decide +kernel
theorem d102_4 : decode Y102.2.1 4 = .ok (.iload_n 1, 1) := by decide +kernel
theorem d102_5 : decode Y102.2.1 5 = .ok (.aload_n 0, 1) := by decide +kernel
theorem d102_6 : decode Y102.2.1 6 = .ok (.getfield 15, 3) := by decide +kernel
theorem d102_9 : decode Y102.2.1 9 = .ok (.if_icmp .ge 14, 3) := by decide +kernel
theorem d102_12 : decode Y102.2.1 12 = .ok (.aload_n 0, 1) := by decide +kernel
theorem d102_13 : decode Y102.2.1 13 = .ok (.getfield 9, 3) := by decide +kernel
theorem d102_16 : decode Y102.2.1 16 = .ok (.iload_n 1, 1) := by decide +kernel
theorem d102_17 : decode Y102.2.1 17 = .ok (.invokestatic 19, 3) := by decide +kernel
theorem d102_20 : decode Y102.2.1 20 = .ok (.goto 4, 3) := by decide +kernel
theorem d102_23 : decode Y102.2.1 23 = .ok (.iconst (-1), 1) := by decide +kernel
theorem d102_24 : decode Y102.2.1 24 = .ok (.ireturn, 1) := by decide +kernel
theorem E102 (d : Nat) (a0 : Nat) (x1 : Int32) (h0 : ts_sh a0 = (0, 7)) (m : lt_m) : lt_ev (d + 1) 102 [.inr (.inr (some a0)), .inl x1] m = if x1 < 0 then (some (some (.inl (-1 : Int32)), m)) else (if (m.1 a0 1) ≤ x1 then (some (some (.inl (-1 : Int32)), m)) else (lt_cI (lt_ev d 16 [.inr (.inr (some (a0 + 1))), .inl x1] m) (fun v1 m1 => (some (some (.inl v1), m1))))) := by
  refine Eq.trans (lt_enter2 (ls := [some (.inr (.inr (some a0))), some (.inl x1)]) hY102 (Nat.le_of_ble_eq_true rfl) (by rfl)) ?_
  refine Eq.trans (li_iload_n d102_0 (by rfl)) ?_
  refine Eq.trans (li_if_lt (t := 23) d102_1 (by rfl)) ?_
  refine lt_ite (fun c1 => ?_) (fun c1 => ?_)
  · refine Eq.trans (li_iconst d102_23 ic_n1) ?_
    exact li_iret d102_24 rfl
  · refine Eq.trans (li_iload_n d102_4 (by rfl)) ?_
    refine Eq.trans (li_aload_n d102_5 (by rfl)) ?_
    refine Eq.trans (li_geti d102_6 fa_7_15 h0 rfl) ?_
    refine Eq.trans (li_icmp_ge (t := 23) d102_9 (by rfl)) ?_
    refine lt_ite (fun c2 => ?_) (fun c2 => ?_)
    · refine Eq.trans (li_iconst d102_23 ic_n1) ?_
      exact li_iret d102_24 rfl
    · refine Eq.trans (li_aload_n d102_12 (by rfl)) ?_
      refine Eq.trans (li_getr d102_13 fa_7_9 h0 rfl rfl rfl (by decide)) ?_
      refine Eq.trans (li_iload_n d102_16 (by rfl)) ?_
      refine Eq.trans (li_isI d102_17 bi_7_19 ca_7_19 kd_16 (by rfl) (by rfl) (Nat.le_of_ble_eq_true rfl) (Nat.le_of_ble_eq_true rfl)) ?_
      refine lt_cI_c (fun v1 m1 => ?_)
      refine Eq.trans (li_goto (t := 24) d102_20 (by rfl)) ?_
      exact li_iret d102_24 rfl
/-! TransitSeals$Net.hasGoods(I)Z -/
theorem d103_0 : decode Y103.2.1 0 = .ok (.iload_n 1, 1) := by decide +kernel
theorem d103_1 : decode Y103.2.1 1 = .ok (.ifCond .lt 15, 3) := by decide +kernel
theorem d103_4 : decode Y103.2.1 4 = .ok (.iload_n 1, 1) := by decide +kernel
theorem d103_5 : decode Y103.2.1 5 = .ok (.aload_n 0, 1) := by decide +kernel
theorem d103_6 : decode Y103.2.1 6 = .ok (.getfield 44, 3) := by decide +kernel
theorem d103_9 : decode Y103.2.1 9 = .ok (.if_icmp .ge 7, 3) := by decide +kernel
theorem d103_12 : decode Y103.2.1 12 = .ok (.iconst 1, 1) := by decide +kernel
theorem d103_13 : decode Y103.2.1 13 = .ok (.goto 4, 3) := by decide +kernel
theorem d103_16 : decode Y103.2.1 16 = .ok (.iconst 0, 1) := by decide +kernel
theorem d103_17 : decode Y103.2.1 17 = .ok (.ireturn, 1) := by decide +kernel
theorem E103 (d : Nat) (a0 : Nat) (x1 : Int32) (h0 : ts_sh a0 = (0, 5)) (m : lt_m) : lt_ev (d + 1) 103 [.inr (.inr (some a0)), .inl x1] m = if x1 < 0 then (some (some (.inl (0 : Int32)), m)) else (if (m.1 a0 8) ≤ x1 then (some (some (.inl (0 : Int32)), m)) else (some (some (.inl (1 : Int32)), m))) := by
  refine Eq.trans (lt_enter2 (ls := [some (.inr (.inr (some a0))), some (.inl x1)]) hY103 (Nat.le_of_ble_eq_true rfl) (by rfl)) ?_
  refine Eq.trans (li_iload_n d103_0 (by rfl)) ?_
  refine Eq.trans (li_if_lt (t := 16) d103_1 (by rfl)) ?_
  refine lt_ite (fun c1 => ?_) (fun c1 => ?_)
  · refine Eq.trans (li_iconst d103_16 ic_0) ?_
    exact li_zret d103_17 rfl (by decide)
  · refine Eq.trans (li_iload_n d103_4 (by rfl)) ?_
    refine Eq.trans (li_aload_n d103_5 (by rfl)) ?_
    refine Eq.trans (li_geti d103_6 fa_5_44 h0 rfl) ?_
    refine Eq.trans (li_icmp_ge (t := 16) d103_9 (by rfl)) ?_
    refine lt_ite (fun c2 => ?_) (fun c2 => ?_)
    · refine Eq.trans (li_iconst d103_16 ic_0) ?_
      exact li_zret d103_17 rfl (by decide)
    · refine Eq.trans (li_iconst d103_12 ic_1) ?_
      refine Eq.trans (li_goto (t := 17) d103_13 (by rfl)) ?_
      exact li_zret d103_17 rfl (by decide)
/-! TransitSeals$Ledger.nextToStart()LTransitSeals$Movement; -/
theorem d104_0 : decode Y104.2.1 0 = .ok (.aload_n 0, 1) := by decide +kernel
theorem d104_1 : decode Y104.2.1 1 = .ok (.aload_n 0, 1) := by decide +kernel
theorem d104_2 : decode Y104.2.1 2 = .ok (.getfield 41, 3) := by decide +kernel
theorem d104_5 : decode Y104.2.1 5 = .ok (.invokevirtual 114, 3) := by decide +kernel
theorem d104_8 : decode Y104.2.1 8 = .ok (.areturn, 1) := by decide +kernel
theorem E104 (d : Nat) (a0 : Nat) (h0 : ts_sh a0 = (0, 2)) (m : lt_m) : lt_ev (d + 1) 104 [.inr (.inr (some a0))] m = lt_cR (lt_ev d 105 [.inr (.inr (some a0)), .inl (m.1 a0 6)] m) (fun v1 m1 => (some (some (.inr (.inr v1)), m1))) := by
  refine Eq.trans (lt_enter2 (ls := [some (.inr (.inr (some a0)))]) hY104 (Nat.le_of_ble_eq_true rfl) (by rfl)) ?_
  refine Eq.trans (li_aload_n d104_0 (by rfl)) ?_
  refine Eq.trans (li_aload_n d104_1 (by rfl)) ?_
  refine Eq.trans (li_geti d104_2 fa_2_41 h0 rfl) ?_
  refine Eq.trans (li_ivR d104_5 ca_2_114 kd_105 kl_105 (by rfl) (by rfl) h0 (Nat.le_of_ble_eq_true rfl) (Nat.le_of_ble_eq_true rfl)) ?_
  refine lt_cR_c (fun v1 m1 => ?_)
  exact li_aret d104_8 rfl
/-! TransitSeals$Ledger.movementAt(I)LTransitSeals$Movement; -/
theorem d105_0 : decode Y105.2.1 0 = .ok (.iload_n 1, 1) := by decide +kernel
theorem d105_1 : decode Y105.2.1 1 = .ok (.ifCond .lt 21, 3) := by decide +kernel
theorem d105_4 : decode Y105.2.1 4 = .ok (.iload_n 1, 1) := by decide +kernel
theorem d105_5 : decode Y105.2.1 5 = .ok (.aload_n 0, 1) := by decide +kernel
theorem d105_6 : decode Y105.2.1 6 = .ok (.getfield 20, 3) := by decide +kernel
theorem d105_9 : decode Y105.2.1 9 = .ok (.arraylength, 1) := by decide +kernel
theorem d105_10 : decode Y105.2.1 10 = .ok (.if_icmp .ge 12, 3) := by decide +kernel
theorem d105_13 : decode Y105.2.1 13 = .ok (.aload_n 0, 1) := by decide +kernel
theorem d105_14 : decode Y105.2.1 14 = .ok (.getfield 20, 3) := by decide +kernel
theorem d105_17 : decode Y105.2.1 17 = .ok (.iload_n 1, 1) := by decide +kernel
theorem d105_18 : decode Y105.2.1 18 = .ok (.aaload, 1) := by decide +kernel
theorem d105_19 : decode Y105.2.1 19 = .ok (.goto 4, 3) := by decide +kernel
theorem d105_22 : decode Y105.2.1 22 = .ok (.aconst_null, 1) := by decide +kernel
theorem d105_23 : decode Y105.2.1 23 = .ok (.areturn, 1) := by decide +kernel
theorem E105 (d : Nat) (a0 : Nat) (x1 : Int32) (h0 : ts_sh a0 = (0, 2)) (m : lt_m) : lt_ev (d + 1) 105 [.inr (.inr (some a0)), .inl x1] m = if x1 < 0 then (some (some (.inr (.inr none)), m)) else (if (20 : Int32) ≤ x1 then (some (some (.inr (.inr none)), m)) else (lt_gd (0 ≤ x1 ∧ (x1).toNatClampNeg < 20) (some (some (.inr (.inr (some ((a0 + 3) + 5 + 3 * (x1).toNatClampNeg)))), m)))) := by
  refine Eq.trans (lt_enter2 (ls := [some (.inr (.inr (some a0))), some (.inl x1)]) hY105 (Nat.le_of_ble_eq_true rfl) (by rfl)) ?_
  refine Eq.trans (li_iload_n d105_0 (by rfl)) ?_
  refine Eq.trans (li_if_lt (t := 22) d105_1 (by rfl)) ?_
  refine lt_ite (fun c1 => ?_) (fun c1 => ?_)
  · refine Eq.trans (li_null d105_22) ?_
    exact li_aret d105_23 rfl
  · refine Eq.trans (li_iload_n d105_4 (by rfl)) ?_
    refine Eq.trans (li_aload_n d105_5 (by rfl)) ?_
    refine Eq.trans (li_getr d105_6 fa_2_20 h0 rfl rfl rfl (by decide)) ?_
    refine Eq.trans (li_alen d105_9 (sf_of h0 2 (by decide) (by decide)) (by decide) (by rfl)) ?_
    refine Eq.trans (li_icmp_ge (t := 22) d105_10 (by rfl)) ?_
    refine lt_ite (fun c2 => ?_) (fun c2 => ?_)
    · refine Eq.trans (li_null d105_22) ?_
      exact li_aret d105_23 rfl
    · refine Eq.trans (li_aload_n d105_13 (by rfl)) ?_
      refine Eq.trans (li_getr d105_14 fa_2_20 h0 rfl rfl rfl (by decide)) ?_
      refine Eq.trans (li_iload_n d105_17 (by rfl)) ?_
      refine Eq.trans (li_aald4 d105_18 (sf_of h0 2 (by decide) (by decide))) ?_
      refine lt_gd_c (fun g1 => ?_)
      refine Eq.trans (li_goto (t := 23) d105_19 (by rfl)) ?_
      exact li_aret d105_23 rfl
/-! TransitSeals.share(II)I -/
theorem d106_0 : decode Y106.2.1 0 = .ok (.iload_n 1, 1) := by decide +kernel
theorem d106_1 : decode Y106.2.1 1 = .ok (.invokestatic 335, 3) := by decide +kernel
theorem d106_4 : decode Y106.2.1 4 = .ok (.istore_n 2, 1) := by decide +kernel
theorem d106_5 : decode Y106.2.1 5 = .ok (.iload_n 2, 1) := by decide +kernel
theorem d106_6 : decode Y106.2.1 6 = .ok (.ifCond .ne 7, 3) := by decide +kernel
theorem d106_9 : decode Y106.2.1 9 = .ok (.iconst 0, 1) := by decide +kernel
theorem d106_10 : decode Y106.2.1 10 = .ok (.goto 10, 3) := by decide +kernel
theorem d106_13 : decode Y106.2.1 13 = .ok (.iload_n 0, 1) := by decide +kernel
theorem d106_14 : decode Y106.2.1 14 = .ok (.iload_n 2, 1) := by decide +kernel
theorem d106_15 : decode Y106.2.1 15 = .ok (.iadd, 1) := by decide +kernel
theorem d106_16 : decode Y106.2.1 16 = .ok (.iconst 1, 1) := by decide +kernel
theorem d106_17 : decode Y106.2.1 17 = .ok (.isub, 1) := by decide +kernel
theorem d106_18 : decode Y106.2.1 18 = .ok (.iload_n 2, 1) := by decide +kernel
theorem d106_19 : decode Y106.2.1 19 = .ok (.idiv, 1) := by decide +kernel
theorem d106_20 : decode Y106.2.1 20 = .ok (.ireturn, 1) := by decide +kernel
theorem E106 (d : Nat) (x0 : Int32) (x1 : Int32)  (m : lt_m) : lt_ev (d + 1) 106 [.inl x0, .inl x1] m = lt_cI (lt_ev d 107 [.inl x1] m) (fun v1 m1 => (if ¬ v1 = 0 then (lt_gd (¬ v1 = 0) (some (some (.inl (((x0 + v1) - (1 : Int32)) / v1)), m1))) else (some (some (.inl (0 : Int32)), m1)))) := by
  refine Eq.trans (lt_enter2 (ls := [some (.inl x0), some (.inl x1), none]) hY106 (Nat.le_of_ble_eq_true rfl) (by rfl)) ?_
  refine Eq.trans (li_iload_n d106_0 (by rfl)) ?_
  refine Eq.trans (li_isI d106_1 bi_11_335 ca_11_335 kd_107 (by rfl) (by rfl) (Nat.le_of_ble_eq_true rfl) (Nat.le_of_ble_eq_true rfl)) ?_
  refine lt_cI_c (fun v1 m1 => ?_)
  refine Eq.trans (li_istore_n (ls' := [some (.inl x0), some (.inl x1), some (.inl v1)]) d106_4 (by decide) (by rfl)) ?_
  refine Eq.trans (li_iload_n d106_5 (by rfl)) ?_
  refine Eq.trans (li_if_ne (t := 13) d106_6 (by rfl)) ?_
  refine lt_ite (fun c1 => ?_) (fun c1 => ?_)
  · refine Eq.trans (li_iload_n d106_13 (by rfl)) ?_
    refine Eq.trans (li_iload_n d106_14 (by rfl)) ?_
    refine Eq.trans (li_iadd d106_15) ?_
    refine Eq.trans (li_iconst d106_16 ic_1) ?_
    refine Eq.trans (li_isub d106_17) ?_
    refine Eq.trans (li_iload_n d106_18 (by rfl)) ?_
    refine Eq.trans (li_idiv d106_19) ?_
    refine lt_gd_c (fun g1 => ?_)
    exact li_iret d106_20 rfl
  · refine Eq.trans (li_iconst d106_9 ic_0) ?_
    refine Eq.trans (li_goto (t := 20) d106_10 (by rfl)) ?_
    exact li_iret d106_20 rfl
/-! TransitSeals.partsOf(I)I -/
theorem d107_0 : decode Y107.2.1 0 = .ok (.iload_n 0, 1) := by decide +kernel
theorem d107_1 : decode Y107.2.1 1 = .ok (.tableswitch 34 0 2 #[27, 29, 31], 27) := by decide +kernel
theorem d107_28 : decode Y107.2.1 28 = .ok (.iconst 1, 1) := by decide +kernel
theorem d107_29 : decode Y107.2.1 29 = .ok (.ireturn, 1) := by decide +kernel
theorem d107_30 : decode Y107.2.1 30 = .ok (.iconst 2, 1) := by decide +kernel
theorem d107_31 : decode Y107.2.1 31 = .ok (.ireturn, 1) := by decide +kernel
theorem d107_32 : decode Y107.2.1 32 = .ok (.bipush 10, 2) := by decide +kernel
theorem d107_34 : decode Y107.2.1 34 = .ok (.ireturn, 1) := by decide +kernel
theorem d107_35 : decode Y107.2.1 35 = .ok (.iconst 0, 1) := by decide +kernel
theorem d107_36 : decode Y107.2.1 36 = .ok (.ireturn, 1) := by decide +kernel
theorem E107 (d : Nat) (x0 : Int32)  (m : lt_m) : lt_ev (d + 1) 107 [.inl x0] m = lt_sw x0 [(some (some (.inl (1 : Int32)), m)), (some (some (.inl (2 : Int32)), m)), (some (some (.inl (10 : Int32)), m))] (some (some (.inl (0 : Int32)), m)) := by
  refine Eq.trans (lt_enter2 (ls := [some (.inl x0)]) hY107 (Nat.le_of_ble_eq_true rfl) (by rfl)) ?_
  refine Eq.trans (li_iload_n d107_0 (by rfl)) ?_
  refine Eq.trans (li_tsw (n := 2) (td := 35) (ts := [28, 30, 32]) d107_1 (by decide) (by decide) (by rfl)) ?_
  refine lt_sw_c ?_ ?_
  · simp only [List.map_cons, List.map_nil]
    refine lt_l2 ?_ (lt_l2 ?_ (lt_l2 ?_ (rfl)))
    · refine Eq.trans (li_iconst d107_28 ic_1) ?_
      exact li_iret d107_29 rfl
    · refine Eq.trans (li_iconst d107_30 ic_2) ?_
      exact li_iret d107_31 rfl
    · refine Eq.trans (li_bipush d107_32 bi_10) ?_
      exact li_iret d107_34 rfl
  · refine Eq.trans (li_iconst d107_35 ic_0) ?_
    exact li_iret d107_36 rfl
/-! TransitSeals$Movement.load(IIIII)V -/
theorem d108_0 : decode Y108.2.1 0 = .ok (.aload_n 0, 1) := by decide +kernel
theorem d108_1 : decode Y108.2.1 1 = .ok (.iload_n 1, 1) := by decide +kernel
theorem d108_2 : decode Y108.2.1 2 = .ok (.putfield 25, 3) := by decide +kernel
theorem d108_5 : decode Y108.2.1 5 = .ok (.aload_n 0, 1) := by decide +kernel
theorem d108_6 : decode Y108.2.1 6 = .ok (.iload_n 2, 1) := by decide +kernel
theorem d108_7 : decode Y108.2.1 7 = .ok (.putfield 52, 3) := by decide +kernel
theorem d108_10 : decode Y108.2.1 10 = .ok (.aload_n 0, 1) := by decide +kernel
theorem d108_11 : decode Y108.2.1 11 = .ok (.iload_n 3, 1) := by decide +kernel
theorem d108_12 : decode Y108.2.1 12 = .ok (.putfield 55, 3) := by decide +kernel
theorem d108_15 : decode Y108.2.1 15 = .ok (.aload_n 0, 1) := by decide +kernel
theorem d108_16 : decode Y108.2.1 16 = .ok (.iload 4, 2) := by decide +kernel
theorem d108_18 : decode Y108.2.1 18 = .ok (.putfield 58, 3) := by decide +kernel
theorem d108_21 : decode Y108.2.1 21 = .ok (.aload_n 0, 1) := by decide +kernel
theorem d108_22 : decode Y108.2.1 22 = .ok (.iload 5, 2) := by decide +kernel
theorem d108_24 : decode Y108.2.1 24 = .ok (.putfield 61, 3) := by decide +kernel
theorem d108_27 : decode Y108.2.1 27 = .ok (.return_, 1) := by decide +kernel
theorem E108 (d : Nat) (a0 : Nat) (x1 : Int32) (x2 : Int32) (x3 : Int32) (x4 : Int32) (x5 : Int32) (h0 : ts_sh a0 = (0, 4)) (m : lt_m) : lt_ev (d + 1) 108 [.inr (.inr (some a0)), .inl x1, .inl x2, .inl x3, .inl x4, .inl x5] m = some (none, (lm_i (lm_i (lm_i (lm_i (lm_i m a0 1 x1) a0 2 x2) a0 3 x3) a0 4 x4) a0 5 x5)) := by
  refine Eq.trans (lt_enter2 (ls := [some (.inr (.inr (some a0))), some (.inl x1), some (.inl x2), some (.inl x3), some (.inl x4), some (.inl x5)]) hY108 (Nat.le_of_ble_eq_true rfl) (by rfl)) ?_
  refine Eq.trans (li_aload_n d108_0 (by rfl)) ?_
  refine Eq.trans (li_iload_n d108_1 (by rfl)) ?_
  refine Eq.trans (li_puti d108_2 fa_4_25 h0 rfl rfl) ?_
  refine Eq.trans (li_aload_n d108_5 (by rfl)) ?_
  refine Eq.trans (li_iload_n d108_6 (by rfl)) ?_
  refine Eq.trans (li_puti d108_7 fa_4_52 h0 rfl rfl) ?_
  refine Eq.trans (li_aload_n d108_10 (by rfl)) ?_
  refine Eq.trans (li_iload_n d108_11 (by rfl)) ?_
  refine Eq.trans (li_puti d108_12 fa_4_55 h0 rfl rfl) ?_
  refine Eq.trans (li_aload_n d108_15 (by rfl)) ?_
  refine Eq.trans (li_iload d108_16 (by rfl)) ?_
  refine Eq.trans (li_puti d108_18 fa_4_58 h0 rfl rfl) ?_
  refine Eq.trans (li_aload_n d108_21 (by rfl)) ?_
  refine Eq.trans (li_iload d108_22 (by rfl)) ?_
  refine Eq.trans (li_puti d108_24 fa_4_61 h0 rfl rfl) ?_
  exact li_vret d108_27 rfl
/-! TransitSeals$Movement.start(LTransitSeals$Route;I)V -/
theorem d109_0 : decode Y109.2.1 0 = .ok (.aload_n 0, 1) := by decide +kernel
theorem d109_1 : decode Y109.2.1 1 = .ok (.iconst 0, 1) := by decide +kernel
theorem d109_2 : decode Y109.2.1 2 = .ok (.putfield 9, 3) := by decide +kernel
theorem d109_5 : decode Y109.2.1 5 = .ok (.aload_n 0, 1) := by decide +kernel
theorem d109_6 : decode Y109.2.1 6 = .ok (.aload_n 1, 1) := by decide +kernel
theorem d109_7 : decode Y109.2.1 7 = .ok (.getfield 64, 3) := by decide +kernel
theorem d109_10 : decode Y109.2.1 10 = .ok (.putfield 28, 3) := by decide +kernel
theorem d109_13 : decode Y109.2.1 13 = .ok (.iconst 0, 1) := by decide +kernel
theorem d109_14 : decode Y109.2.1 14 = .ok (.istore_n 3, 1) := by decide +kernel
theorem d109_15 : decode Y109.2.1 15 = .ok (.iload_n 3, 1) := by decide +kernel
theorem d109_16 : decode Y109.2.1 16 = .ok (.aload_n 0, 1) := by decide +kernel
theorem d109_17 : decode Y109.2.1 17 = .ok (.getfield 28, 3) := by decide +kernel
theorem d109_20 : decode Y109.2.1 20 = .ok (.if_icmp .ge 22, 3) := by decide +kernel
theorem d109_23 : decode Y109.2.1 23 = .ok (.aload_n 0, 1) := by decide +kernel
theorem d109_24 : decode Y109.2.1 24 = .ok (.getfield 15, 3) := by decide +kernel
theorem d109_27 : decode Y109.2.1 27 = .ok (.iload_n 3, 1) := by decide +kernel
theorem d109_28 : decode Y109.2.1 28 = .ok (.aload_n 1, 1) := by decide +kernel
theorem d109_29 : decode Y109.2.1 29 = .ok (.iload_n 3, 1) := by decide +kernel
theorem d109_30 : decode Y109.2.1 30 = .ok (.invokevirtual 67, 3) := by decide +kernel
theorem d109_33 : decode Y109.2.1 33 = .ok (.invokestatic 68, 3) := by decide +kernel
theorem d109_36 : decode Y109.2.1 36 = .ok (.iinc 3 1, 3) := by decide +kernel
theorem d109_39 : decode Y109.2.1 39 = .ok (.goto (-24), 3) := by decide +kernel
theorem d109_42 : decode Y109.2.1 42 = .ok (.aload_n 0, 1) := by decide +kernel
theorem d109_43 : decode Y109.2.1 43 = .ok (.aload_n 1, 1) := by decide +kernel
theorem d109_44 : decode Y109.2.1 44 = .ok (.iload_n 2, 1) := by decide +kernel
theorem d109_45 : decode Y109.2.1 45 = .ok (.invokevirtual 72, 3) := by decide +kernel
theorem d109_48 : decode Y109.2.1 48 = .ok (.putfield 48, 3) := by decide +kernel
theorem d109_51 : decode Y109.2.1 51 = .ok (.aload_n 0, 1) := by decide +kernel
theorem d109_52 : decode Y109.2.1 52 = .ok (.iconst 0, 1) := by decide +kernel
theorem d109_53 : decode Y109.2.1 53 = .ok (.putfield 75, 3) := by decide +kernel
theorem d109_56 : decode Y109.2.1 56 = .ok (.aload_n 0, 1) := by decide +kernel
theorem d109_57 : decode Y109.2.1 57 = .ok (.iconst 0, 1) := by decide +kernel
theorem d109_58 : decode Y109.2.1 58 = .ok (.putfield 78, 3) := by decide +kernel
theorem d109_61 : decode Y109.2.1 61 = .ok (.aload_n 0, 1) := by decide +kernel
theorem d109_62 : decode Y109.2.1 62 = .ok (.getfield 19, 3) := by decide +kernel
theorem d109_65 : decode Y109.2.1 65 = .ok (.iconst 0, 1) := by decide +kernel
theorem d109_66 : decode Y109.2.1 66 = .ok (.iload_n 2, 1) := by decide +kernel
theorem d109_67 : decode Y109.2.1 67 = .ok (.invokestatic 68, 3) := by decide +kernel
theorem d109_70 : decode Y109.2.1 70 = .ok (.aload_n 0, 1) := by decide +kernel
theorem d109_71 : decode Y109.2.1 71 = .ok (.iconst 1, 1) := by decide +kernel
theorem d109_72 : decode Y109.2.1 72 = .ok (.putfield 35, 3) := by decide +kernel
theorem d109_75 : decode Y109.2.1 75 = .ok (.return_, 1) := by decide +kernel
noncomputable def L109_15 (d : Nat) (a0 : Nat) (a1 : Nat) (x2 : Int32) (x3 : Int32) (m : lt_m) : Option lt_r := lt_run d Y109 15 [some (.inr (.inr (some a0))), some (.inr (.inr (some a1))), some (.inl x2), some (.inl x3)] [] m
theorem E109 (d : Nat) (a0 : Nat) (a1 : Nat) (x2 : Int32) (h0 : ts_sh a0 = (0, 4)) (h1 : ts_sh a1 = (0, 7)) (m : lt_m) : lt_ev (d + 1) 109 [.inr (.inr (some a0)), .inr (.inr (some a1)), .inl x2] m = L109_15 d a0 a1 x2 (0 : Int32) (lm_i (lm_i m a0 7 (0 : Int32)) a0 8 ((lm_i m a0 7 (0 : Int32)).1 a1 1)) := by
  refine Eq.trans (lt_enter2 (ls := [some (.inr (.inr (some a0))), some (.inr (.inr (some a1))), some (.inl x2), none]) hY109 (Nat.le_of_ble_eq_true rfl) (by rfl)) ?_
  refine Eq.trans (li_aload_n d109_0 (by rfl)) ?_
  refine Eq.trans (li_iconst d109_1 ic_0) ?_
  refine Eq.trans (li_puti d109_2 fa_4_9 h0 rfl rfl) ?_
  refine Eq.trans (li_aload_n d109_5 (by rfl)) ?_
  refine Eq.trans (li_aload_n d109_6 (by rfl)) ?_
  refine Eq.trans (li_geti d109_7 fa_4_64 h1 rfl) ?_
  refine Eq.trans (li_puti d109_10 fa_4_28 h0 rfl rfl) ?_
  refine Eq.trans (li_iconst d109_13 ic_0) ?_
  refine Eq.trans (li_istore_n (ls' := [some (.inr (.inr (some a0))), some (.inr (.inr (some a1))), some (.inl x2), some (.inl (0 : Int32))]) d109_14 (by decide) (by rfl)) ?_
  rfl
theorem E109_15 (d : Nat) (a0 : Nat) (a1 : Nat) (x2 : Int32) (x3 : Int32) (h0 : ts_sh a0 = (0, 4)) (h1 : ts_sh a1 = (0, 7)) (m : lt_m) : L109_15 d a0 a1 x2 x3 m = if (m.1 a0 8) ≤ x3 then (lt_cI (lt_ev d 110 [.inr (.inr (some a1)), .inl x2] m) (fun v1 m1 => (lt_cV (lt_ev d 17 [.inr (.inr (some (a0 + 2))), .inl (0 : Int32), .inl x2] (lm_i (lm_i (lm_i m1 a0 6 v1) a0 10 (0 : Int32)) a0 11 (0 : Int32))) (fun m2 => (some (none, (lm_i m2 a0 9 (1 : Int32)))))))) else (lt_cI (lt_ev d 102 [.inr (.inr (some a1)), .inl x3] m) (fun v2 m3 => (lt_cV (lt_ev d 17 [.inr (.inr (some (a0 + 1))), .inl x3, .inl v2] m3) (fun m4 => (L109_15 d a0 a1 x2 (x3 + (1 : Int32)) m4))))) := by
  show lt_run d Y109 15 [some (.inr (.inr (some a0))), some (.inr (.inr (some a1))), some (.inl x2), some (.inl x3)] [] m = _
  refine Eq.trans (li_iload_n d109_15 (by rfl)) ?_
  refine Eq.trans (li_aload_n d109_16 (by rfl)) ?_
  refine Eq.trans (li_geti d109_17 fa_4_28 h0 rfl) ?_
  refine Eq.trans (li_icmp_ge (t := 42) d109_20 (by rfl)) ?_
  refine lt_ite (fun c1 => ?_) (fun c1 => ?_)
  · refine Eq.trans (li_aload_n d109_42 (by rfl)) ?_
    refine Eq.trans (li_aload_n d109_43 (by rfl)) ?_
    refine Eq.trans (li_iload_n d109_44 (by rfl)) ?_
    refine Eq.trans (li_ivI d109_45 ca_4_72 kd_110 kl_110 (by rfl) (by rfl) h1 (Nat.le_of_ble_eq_true rfl) (Nat.le_of_ble_eq_true rfl)) ?_
    refine lt_cI_c (fun v1 m1 => ?_)
    refine Eq.trans (li_puti d109_48 fa_4_48 h0 rfl rfl) ?_
    refine Eq.trans (li_aload_n d109_51 (by rfl)) ?_
    refine Eq.trans (li_iconst d109_52 ic_0) ?_
    refine Eq.trans (li_puti d109_53 fa_4_75 h0 rfl rfl) ?_
    refine Eq.trans (li_aload_n d109_56 (by rfl)) ?_
    refine Eq.trans (li_iconst d109_57 ic_0) ?_
    refine Eq.trans (li_putz d109_58 fa_4_78 h0 rfl rfl) ?_
    refine Eq.trans (lt_gd_t (by decide)) ?_
    refine Eq.trans (li_aload_n d109_61 (by rfl)) ?_
    refine Eq.trans (li_getr d109_62 fa_4_19 h0 rfl rfl rfl (by decide)) ?_
    refine Eq.trans (li_iconst d109_65 ic_0) ?_
    refine Eq.trans (li_iload_n d109_66 (by rfl)) ?_
    refine Eq.trans (li_isV d109_67 bi_4_68 ca_4_68 kd_17 (by rfl) (by rfl) (Nat.le_of_ble_eq_true rfl) (Nat.le_of_ble_eq_true rfl)) ?_
    refine lt_cV_c (fun m2 => ?_)
    refine Eq.trans (li_aload_n d109_70 (by rfl)) ?_
    refine Eq.trans (li_iconst d109_71 ic_1) ?_
    refine Eq.trans (li_puti d109_72 fa_4_35 h0 rfl rfl) ?_
    exact li_vret d109_75 rfl
  · refine Eq.trans (li_aload_n d109_23 (by rfl)) ?_
    refine Eq.trans (li_getr d109_24 fa_4_15 h0 rfl rfl rfl (by decide)) ?_
    refine Eq.trans (li_iload_n d109_27 (by rfl)) ?_
    refine Eq.trans (li_aload_n d109_28 (by rfl)) ?_
    refine Eq.trans (li_iload_n d109_29 (by rfl)) ?_
    refine Eq.trans (li_ivI d109_30 ca_4_67 kd_102 kl_102 (by rfl) (by rfl) h1 (Nat.le_of_ble_eq_true rfl) (Nat.le_of_ble_eq_true rfl)) ?_
    refine lt_cI_c (fun v2 m3 => ?_)
    refine Eq.trans (li_isV d109_33 bi_4_68 ca_4_68 kd_17 (by rfl) (by rfl) (Nat.le_of_ble_eq_true rfl) (Nat.le_of_ble_eq_true rfl)) ?_
    refine lt_cV_c (fun m4 => ?_)
    refine Eq.trans (li_iinc (ls' := [some (.inr (.inr (some a0))), some (.inr (.inr (some a1))), some (.inl x2), some (.inl (x3 + (1 : Int32)))]) d109_36 (by rfl) (by decide) ic_1 (by rfl)) ?_
    refine Eq.trans (li_goto (t := 15) d109_39 (by rfl)) ?_
    rfl
/-! TransitSeals$Route.termFrom(I)I -/
theorem d110_0 : decode Y110.2.1 0 = .ok (.iload_n 1, 1) := by decide +kernel
theorem d110_1 : decode Y110.2.1 1 = .ok (.iconst 2, 1) := by decide +kernel
theorem d110_2 : decode Y110.2.1 2 = .ok (.aload_n 0, 1) := by decide +kernel
theorem d110_3 : decode Y110.2.1 3 = .ok (.getfield 23, 3) := by decide +kernel
theorem d110_6 : decode Y110.2.1 6 = .ok (.imul, 1) := by decide +kernel
theorem d110_7 : decode Y110.2.1 7 = .ok (.iadd, 1) := by decide +kernel
theorem d110_8 : decode Y110.2.1 8 = .ok (.bipush 24, 2) := by decide +kernel
theorem d110_10 : decode Y110.2.1 10 = .ok (.iadd, 1) := by decide +kernel
theorem d110_11 : decode Y110.2.1 11 = .ok (.ireturn, 1) := by decide +kernel
theorem E110 (d : Nat) (a0 : Nat) (x1 : Int32) (h0 : ts_sh a0 = (0, 7)) (m : lt_m) : lt_ev (d + 1) 110 [.inr (.inr (some a0)), .inl x1] m = some (some (.inl ((x1 + ((2 : Int32) * (m.1 a0 2))) + (24 : Int32))), m) := by
  refine Eq.trans (lt_enter2 (ls := [some (.inr (.inr (some a0))), some (.inl x1)]) hY110 (Nat.le_of_ble_eq_true rfl) (by rfl)) ?_
  refine Eq.trans (li_iload_n d110_0 (by rfl)) ?_
  refine Eq.trans (li_iconst d110_1 ic_2) ?_
  refine Eq.trans (li_aload_n d110_2 (by rfl)) ?_
  refine Eq.trans (li_geti d110_3 fa_7_23 h0 rfl) ?_
  refine Eq.trans (li_imul d110_6) ?_
  refine Eq.trans (li_iadd d110_7) ?_
  refine Eq.trans (li_bipush d110_8 bi_24) ?_
  refine Eq.trans (li_iadd d110_10) ?_
  exact li_iret d110_11 rfl
/-! TransitSeals$Ledger.write(ILTransitSeals$Movement;)V -/
theorem d111_0 : decode Y111.2.1 0 = .ok (.aload_n 0, 1) := by decide +kernel
theorem d111_1 : decode Y111.2.1 1 = .ok (.getfield 27, 3) := by decide +kernel
theorem d111_4 : decode Y111.2.1 4 = .ok (.iload_n 1, 1) := by decide +kernel
theorem d111_5 : decode Y111.2.1 5 = .ok (.aload_n 2, 1) := by decide +kernel
theorem d111_6 : decode Y111.2.1 6 = .ok (.getfield 118, 3) := by decide +kernel
theorem d111_9 : decode Y111.2.1 9 = .ok (.aload_n 0, 1) := by decide +kernel
theorem d111_10 : decode Y111.2.1 10 = .ok (.getfield 34, 3) := by decide +kernel
theorem d111_13 : decode Y111.2.1 13 = .ok (.invokevirtual 121, 3) := by decide +kernel
theorem d111_16 : decode Y111.2.1 16 = .ok (.return_, 1) := by decide +kernel
theorem E111 (d : Nat) (a0 : Nat) (x1 : Int32) (a2 : Nat) (h0 : ts_sh a0 = (0, 2)) (h2 : ts_sh a2 = (0, 4)) (m : lt_m) : lt_ev (d + 1) 111 [.inr (.inr (some a0)), .inl x1, .inr (.inr (some a2))] m = lt_cV (lt_ev d 112 [.inr (.inr (some (a0 + 4))), .inl x1, .inl (m.1 a2 0), .inl (m.1 a0 4)] m) (fun m1 => (some (none, m1))) := by
  refine Eq.trans (lt_enter2 (ls := [some (.inr (.inr (some a0))), some (.inl x1), some (.inr (.inr (some a2)))]) hY111 (Nat.le_of_ble_eq_true rfl) (by rfl)) ?_
  refine Eq.trans (li_aload_n d111_0 (by rfl)) ?_
  refine Eq.trans (li_getr d111_1 fa_2_27 h0 rfl rfl rfl (by decide)) ?_
  refine Eq.trans (li_iload_n d111_4 (by rfl)) ?_
  refine Eq.trans (li_aload_n d111_5 (by rfl)) ?_
  refine Eq.trans (li_geti d111_6 fa_2_118 h2 rfl) ?_
  refine Eq.trans (li_aload_n d111_9 (by rfl)) ?_
  refine Eq.trans (li_geti d111_10 fa_2_34 h0 rfl) ?_
  refine Eq.trans (li_ivV d111_13 ca_2_121 kd_112 kl_112 (by rfl) (by rfl) (sf_of h0 3 (by decide) (by decide)) (Nat.le_of_ble_eq_true rfl) (Nat.le_of_ble_eq_true rfl)) ?_
  refine lt_cV_c (fun m1 => ?_)
  exact li_vret d111_16 rfl
/-! TransitSeals$Book.add(III)V -/
theorem d112_0 : decode Y112.2.1 0 = .ok (.aload_n 0, 1) := by decide +kernel
theorem d112_1 : decode Y112.2.1 1 = .ok (.getfield 21, 3) := by decide +kernel
theorem d112_4 : decode Y112.2.1 4 = .ok (.bipush 30, 2) := by decide +kernel
theorem d112_6 : decode Y112.2.1 6 = .ok (.irem, 1) := by decide +kernel
theorem d112_7 : decode Y112.2.1 7 = .ok (.istore 4, 2) := by decide +kernel
theorem d112_9 : decode Y112.2.1 9 = .ok (.aload_n 0, 1) := by decide +kernel
theorem d112_10 : decode Y112.2.1 10 = .ok (.getfield 9, 3) := by decide +kernel
theorem d112_13 : decode Y112.2.1 13 = .ok (.iload 4, 2) := by decide +kernel
theorem d112_15 : decode Y112.2.1 15 = .ok (.iload_n 1, 1) := by decide +kernel
theorem d112_16 : decode Y112.2.1 16 = .ok (.invokestatic 31, 3) := by decide +kernel
theorem d112_19 : decode Y112.2.1 19 = .ok (.aload_n 0, 1) := by decide +kernel
theorem d112_20 : decode Y112.2.1 20 = .ok (.getfield 15, 3) := by decide +kernel
theorem d112_23 : decode Y112.2.1 23 = .ok (.iload 4, 2) := by decide +kernel
theorem d112_25 : decode Y112.2.1 25 = .ok (.iload_n 2, 1) := by decide +kernel
theorem d112_26 : decode Y112.2.1 26 = .ok (.invokestatic 31, 3) := by decide +kernel
theorem d112_29 : decode Y112.2.1 29 = .ok (.aload_n 0, 1) := by decide +kernel
theorem d112_30 : decode Y112.2.1 30 = .ok (.getfield 18, 3) := by decide +kernel
theorem d112_33 : decode Y112.2.1 33 = .ok (.iload 4, 2) := by decide +kernel
theorem d112_35 : decode Y112.2.1 35 = .ok (.iload_n 3, 1) := by decide +kernel
theorem d112_36 : decode Y112.2.1 36 = .ok (.invokestatic 31, 3) := by decide +kernel
theorem d112_39 : decode Y112.2.1 39 = .ok (.aload_n 0, 1) := by decide +kernel
theorem d112_40 : decode Y112.2.1 40 = .ok (.dup, 1) := by decide +kernel
theorem d112_41 : decode Y112.2.1 41 = .ok (.getfield 21, 3) := by decide +kernel
theorem d112_44 : decode Y112.2.1 44 = .ok (.iconst 1, 1) := by decide +kernel
theorem d112_45 : decode Y112.2.1 45 = .ok (.iadd, 1) := by decide +kernel
theorem d112_46 : decode Y112.2.1 46 = .ok (.putfield 21, 3) := by decide +kernel
theorem d112_49 : decode Y112.2.1 49 = .ok (.return_, 1) := by decide +kernel
theorem E112 (d : Nat) (a0 : Nat) (x1 : Int32) (x2 : Int32) (x3 : Int32) (h0 : ts_sh a0 = (0, 0)) (m : lt_m) : lt_ev (d + 1) 112 [.inr (.inr (some a0)), .inl x1, .inl x2, .inl x3] m = lt_cV (lt_ev d 17 [.inr (.inr (some (a0 + 1))), .inl ((m.1 a0 3) - (m.1 a0 3) / (30 : Int32) * (30 : Int32)), .inl x1] m) (fun m1 => (lt_cV (lt_ev d 17 [.inr (.inr (some (a0 + 2))), .inl ((m.1 a0 3) - (m.1 a0 3) / (30 : Int32) * (30 : Int32)), .inl x2] m1) (fun m2 => (lt_cV (lt_ev d 17 [.inr (.inr (some (a0 + 3))), .inl ((m.1 a0 3) - (m.1 a0 3) / (30 : Int32) * (30 : Int32)), .inl x3] m2) (fun m3 => (some (none, (lm_i m3 a0 3 ((m3.1 a0 3) + (1 : Int32)))))))))) := by
  refine Eq.trans (lt_enter2 (ls := [some (.inr (.inr (some a0))), some (.inl x1), some (.inl x2), some (.inl x3), none]) hY112 (Nat.le_of_ble_eq_true rfl) (by rfl)) ?_
  refine Eq.trans (li_aload_n d112_0 (by rfl)) ?_
  refine Eq.trans (li_geti d112_1 fa_0_21 h0 rfl) ?_
  refine Eq.trans (li_bipush d112_4 bi_30) ?_
  refine Eq.trans (li_irem d112_6) ?_
  refine Eq.trans (lt_gd_t (by decide)) ?_
  refine Eq.trans (li_istore (ls' := [some (.inr (.inr (some a0))), some (.inl x1), some (.inl x2), some (.inl x3), some (.inl ((m.1 a0 3) - (m.1 a0 3) / (30 : Int32) * (30 : Int32)))]) d112_7 (by decide) (by rfl)) ?_
  refine Eq.trans (li_aload_n d112_9 (by rfl)) ?_
  refine Eq.trans (li_getr d112_10 fa_0_9 h0 rfl rfl rfl (by decide)) ?_
  refine Eq.trans (li_iload d112_13 (by rfl)) ?_
  refine Eq.trans (li_iload_n d112_15 (by rfl)) ?_
  refine Eq.trans (li_isV d112_16 bi_0_31 ca_0_31 kd_17 (by rfl) (by rfl) (Nat.le_of_ble_eq_true rfl) (Nat.le_of_ble_eq_true rfl)) ?_
  refine lt_cV_c (fun m1 => ?_)
  refine Eq.trans (li_aload_n d112_19 (by rfl)) ?_
  refine Eq.trans (li_getr d112_20 fa_0_15 h0 rfl rfl rfl (by decide)) ?_
  refine Eq.trans (li_iload d112_23 (by rfl)) ?_
  refine Eq.trans (li_iload_n d112_25 (by rfl)) ?_
  refine Eq.trans (li_isV d112_26 bi_0_31 ca_0_31 kd_17 (by rfl) (by rfl) (Nat.le_of_ble_eq_true rfl) (Nat.le_of_ble_eq_true rfl)) ?_
  refine lt_cV_c (fun m2 => ?_)
  refine Eq.trans (li_aload_n d112_29 (by rfl)) ?_
  refine Eq.trans (li_getr d112_30 fa_0_18 h0 rfl rfl rfl (by decide)) ?_
  refine Eq.trans (li_iload d112_33 (by rfl)) ?_
  refine Eq.trans (li_iload_n d112_35 (by rfl)) ?_
  refine Eq.trans (li_isV d112_36 bi_0_31 ca_0_31 kd_17 (by rfl) (by rfl) (Nat.le_of_ble_eq_true rfl) (Nat.le_of_ble_eq_true rfl)) ?_
  refine lt_cV_c (fun m3 => ?_)
  refine Eq.trans (li_aload_n d112_39 (by rfl)) ?_
  refine Eq.trans (li_dup d112_40 rfl) ?_
  refine Eq.trans (li_geti d112_41 fa_0_21 h0 rfl) ?_
  refine Eq.trans (li_iconst d112_44 ic_1) ?_
  refine Eq.trans (li_iadd d112_45) ?_
  refine Eq.trans (li_puti d112_46 fa_0_21 h0 rfl rfl) ?_
  exact li_vret d112_49 rfl
/-! TransitSeals.stamps(II)I -/
theorem d113_0 : decode Y113.2.1 0 = .ok (.aload_n 0, 1) := by decide +kernel
theorem d113_1 : decode Y113.2.1 1 = .ok (.getfield 47, 3) := by decide +kernel
theorem d113_4 : decode Y113.2.1 4 = .ok (.iload_n 1, 1) := by decide +kernel
theorem d113_5 : decode Y113.2.1 5 = .ok (.invokevirtual 240, 3) := by decide +kernel
theorem d113_8 : decode Y113.2.1 8 = .ok (.astore_n 3, 1) := by decide +kernel
theorem d113_9 : decode Y113.2.1 9 = .ok (.aload_n 3, 1) := by decide +kernel
theorem d113_10 : decode Y113.2.1 10 = .ok (.ifnull 14, 3) := by decide +kernel
theorem d113_13 : decode Y113.2.1 13 = .ok (.aload_n 0, 1) := by decide +kernel
theorem d113_14 : decode Y113.2.1 14 = .ok (.getfield 61, 3) := by decide +kernel
theorem d113_17 : decode Y113.2.1 17 = .ok (.iload_n 2, 1) := by decide +kernel
theorem d113_18 : decode Y113.2.1 18 = .ok (.invokevirtual 105, 3) := by decide +kernel
theorem d113_21 : decode Y113.2.1 21 = .ok (.ifCond .ne 5, 3) := by decide +kernel
theorem d113_24 : decode Y113.2.1 24 = .ok (.iconst (-1), 1) := by decide +kernel
theorem d113_25 : decode Y113.2.1 25 = .ok (.ireturn, 1) := by decide +kernel
theorem d113_26 : decode Y113.2.1 26 = .ok (.aload_n 3, 1) := by decide +kernel
theorem d113_27 : decode Y113.2.1 27 = .ok (.invokevirtual 244, 3) := by decide +kernel
theorem d113_30 : decode Y113.2.1 30 = .ok (.ifCond .ne 6, 3) := by decide +kernel
theorem d113_33 : decode Y113.2.1 33 = .ok (.bipush (-2), 2) := by decide +kernel
theorem d113_35 : decode Y113.2.1 35 = .ok (.ireturn, 1) := by decide +kernel
theorem d113_36 : decode Y113.2.1 36 = .ok (.aload_n 3, 1) := by decide +kernel
theorem d113_37 : decode Y113.2.1 37 = .ok (.invokevirtual 247, 3) := by decide +kernel
theorem d113_40 : decode Y113.2.1 40 = .ok (.iload_n 2, 1) := by decide +kernel
theorem d113_41 : decode Y113.2.1 41 = .ok (.if_icmp .eq 6, 3) := by decide +kernel
theorem d113_44 : decode Y113.2.1 44 = .ok (.bipush (-3), 2) := by decide +kernel
theorem d113_46 : decode Y113.2.1 46 = .ok (.ireturn, 1) := by decide +kernel
theorem d113_47 : decode Y113.2.1 47 = .ok (.aload_n 0, 1) := by decide +kernel
theorem d113_48 : decode Y113.2.1 48 = .ok (.getfield 54, 3) := by decide +kernel
theorem d113_51 : decode Y113.2.1 51 = .ok (.aload_n 0, 1) := by decide +kernel
theorem d113_52 : decode Y113.2.1 52 = .ok (.getfield 47, 3) := by decide +kernel
theorem d113_55 : decode Y113.2.1 55 = .ok (.invokevirtual 168, 3) := by decide +kernel
theorem d113_58 : decode Y113.2.1 58 = .ok (.aload_n 3, 1) := by decide +kernel
theorem d113_59 : decode Y113.2.1 59 = .ok (.aload_n 0, 1) := by decide +kernel
theorem d113_60 : decode Y113.2.1 60 = .ok (.getfield 47, 3) := by decide +kernel
theorem d113_63 : decode Y113.2.1 63 = .ok (.getfield 223, 3) := by decide +kernel
theorem d113_66 : decode Y113.2.1 66 = .ok (.invokevirtual 250, 3) := by decide +kernel
theorem d113_69 : decode Y113.2.1 69 = .ok (.aload_n 0, 1) := by decide +kernel
theorem d113_70 : decode Y113.2.1 70 = .ok (.getfield 47, 3) := by decide +kernel
theorem d113_73 : decode Y113.2.1 73 = .ok (.iconst 1, 1) := by decide +kernel
theorem d113_74 : decode Y113.2.1 74 = .ok (.aload_n 3, 1) := by decide +kernel
theorem d113_75 : decode Y113.2.1 75 = .ok (.invokevirtual 233, 3) := by decide +kernel
theorem d113_78 : decode Y113.2.1 78 = .ok (.aload_n 3, 1) := by decide +kernel
theorem d113_79 : decode Y113.2.1 79 = .ok (.getfield 253, 3) := by decide +kernel
theorem d113_82 : decode Y113.2.1 82 = .ok (.aload_n 3, 1) := by decide +kernel
theorem d113_83 : decode Y113.2.1 83 = .ok (.getfield 256, 3) := by decide +kernel
theorem d113_86 : decode Y113.2.1 86 = .ok (.isub, 1) := by decide +kernel
theorem d113_87 : decode Y113.2.1 87 = .ok (.ireturn, 1) := by decide +kernel
theorem E113 (d : Nat) (a0 : Nat) (x1 : Int32) (x2 : Int32) (h0 : ts_sh a0 = (0, 11)) (m : lt_m) : lt_ev (d + 1) 113 [.inr (.inr (some a0)), .inl x1, .inl x2] m = lt_cR (lt_ev d 114 [.inr (.inr (some (a0 + 13))), .inl x1] m) (fun v1 m1 => (lt_nl v1 (some (some (.inl (-1 : Int32)), m1)) (fun q1 => (lt_gd (ts_sh (m1.2.2.1) = (0, 5)) (lt_cI (lt_ev d 14 [.inr (.inr (some (m1.2.2.1))), .inl x2] m1) (fun v2 m2 => (if ¬ v2 = 0 then (lt_gd (ts_sh q1 = (0, 4)) (lt_cI (lt_ev d 62 [.inr (.inr (some q1))] m2) (fun v3 m3 => (if ¬ v3 = 0 then (lt_cI (lt_ev d 115 [.inr (.inr (some q1))] m3) (fun v4 m4 => (if v4 = x2 then (lt_cV (lt_ev d 81 [.inr (.inr (some (a0 + 81))), .inr (.inr (some (a0 + 13)))] m4) (fun m5 => (lt_cV (lt_ev d 116 [.inr (.inr (some q1)), .inl (m5.1 (a0 + 13) 4)] m5) (fun m6 => (lt_cV (lt_ev d 111 [.inr (.inr (some (a0 + 13))), .inl (1 : Int32), .inr (.inr (some q1))] m6) (fun m7 => (some (some (.inl ((m7.1 q1 8) - (m7.1 q1 9))), m7)))))))) else (some (some (.inl (-3 : Int32)), m4))))) else (some (some (.inl (-2 : Int32)), m3)))))) else (some (some (.inl (-1 : Int32)), m2))))))))) := by
  refine Eq.trans (lt_enter2 (ls := [some (.inr (.inr (some a0))), some (.inl x1), some (.inl x2), none]) hY113 (Nat.le_of_ble_eq_true rfl) (by rfl)) ?_
  refine Eq.trans (li_aload_n d113_0 (by rfl)) ?_
  refine Eq.trans (li_getr d113_1 fa_11_47 h0 rfl rfl rfl (by decide)) ?_
  refine Eq.trans (li_iload_n d113_4 (by rfl)) ?_
  refine Eq.trans (li_ivR d113_5 ca_11_240 kd_114 kl_114 (by rfl) (by rfl) (sf_of h0 5 (by decide) (by decide)) (Nat.le_of_ble_eq_true rfl) (Nat.le_of_ble_eq_true rfl)) ?_
  refine lt_cR_c (fun v1 m1 => ?_)
  refine Eq.trans (li_astore_n (ls' := [some (.inr (.inr (some a0))), some (.inl x1), some (.inl x2), some (.inr (.inr v1))]) d113_8 (by decide) (by rfl)) ?_
  refine Eq.trans (li_aload_n d113_9 (by rfl)) ?_
  refine lt_nl_x (F := fun oz => lt_run d Y113 10 [some (.inr (.inr (some a0))), some (.inl x1), some (.inl x2), some (.inr (.inr oz))] [.inr (.inr oz)] m1) ?_ (fun q1 => ?_)
  · refine Eq.trans (li_ifnull_n (t := 24) d113_10 (by rfl)) ?_
    refine Eq.trans (li_iconst d113_24 ic_n1) ?_
    exact li_iret d113_25 rfl
  · refine Eq.trans (li_ifnull_s d113_10) ?_
    refine Eq.trans (li_aload_n d113_13 (by rfl)) ?_
    refine Eq.trans (li_getnet d113_14 fa_11_61 h0) ?_
    refine Eq.trans (li_iload_n d113_17 (by rfl)) ?_
    refine Eq.trans (li_ginv d113_18 ca_11_105 kl_14 (by rfl)) ?_
    refine lt_gd_c (fun g1 => ?_)
    refine Eq.trans (li_ivI d113_18 ca_11_105 kd_14 kl_14 (by rfl) (by rfl) g1 (Nat.le_of_ble_eq_true rfl) (Nat.le_of_ble_eq_true rfl)) ?_
    refine lt_cI_c (fun v2 m2 => ?_)
    refine Eq.trans (li_if_ne (t := 26) d113_21 (by rfl)) ?_
    refine lt_ite (fun c1 => ?_) (fun c1 => ?_)
    · refine Eq.trans (li_aload_n d113_26 (by rfl)) ?_
      refine Eq.trans (li_ginv d113_27 ca_11_244 kl_62 (by rfl)) ?_
      refine lt_gd_c (fun g2 => ?_)
      refine Eq.trans (li_ivI d113_27 ca_11_244 kd_62 kl_62 (by rfl) (by rfl) g2 (Nat.le_of_ble_eq_true rfl) (Nat.le_of_ble_eq_true rfl)) ?_
      refine lt_cI_c (fun v3 m3 => ?_)
      refine Eq.trans (li_if_ne (t := 36) d113_30 (by rfl)) ?_
      refine lt_ite (fun c2 => ?_) (fun c2 => ?_)
      · refine Eq.trans (li_aload_n d113_36 (by rfl)) ?_
        refine Eq.trans (li_ivI d113_37 ca_11_247 kd_115 kl_115 (by rfl) (by rfl) g2 (Nat.le_of_ble_eq_true rfl) (Nat.le_of_ble_eq_true rfl)) ?_
        refine lt_cI_c (fun v4 m4 => ?_)
        refine Eq.trans (li_iload_n d113_40 (by rfl)) ?_
        refine Eq.trans (li_icmp_eq (t := 47) d113_41 (by rfl)) ?_
        refine lt_ite (fun c3 => ?_) (fun c3 => ?_)
        · refine Eq.trans (li_aload_n d113_47 (by rfl)) ?_
          refine Eq.trans (li_getr d113_48 fa_11_54 h0 rfl rfl rfl (by decide)) ?_
          refine Eq.trans (li_aload_n d113_51 (by rfl)) ?_
          refine Eq.trans (li_getr d113_52 fa_11_47 h0 rfl rfl rfl (by decide)) ?_
          refine Eq.trans (li_ivV d113_55 ca_11_168 kd_81 kl_81 (by rfl) (by rfl) (sf_of h0 6 (by decide) (by decide)) (Nat.le_of_ble_eq_true rfl) (Nat.le_of_ble_eq_true rfl)) ?_
          refine lt_cV_c (fun m5 => ?_)
          refine Eq.trans (li_aload_n d113_58 (by rfl)) ?_
          refine Eq.trans (li_aload_n d113_59 (by rfl)) ?_
          refine Eq.trans (li_getr d113_60 fa_11_47 h0 rfl rfl rfl (by decide)) ?_
          refine Eq.trans (li_geti d113_63 fa_11_223 (sf_of h0 5 (by decide) (by decide)) rfl) ?_
          refine Eq.trans (li_ivV d113_66 ca_11_250 kd_116 kl_116 (by rfl) (by rfl) g2 (Nat.le_of_ble_eq_true rfl) (Nat.le_of_ble_eq_true rfl)) ?_
          refine lt_cV_c (fun m6 => ?_)
          refine Eq.trans (li_aload_n d113_69 (by rfl)) ?_
          refine Eq.trans (li_getr d113_70 fa_11_47 h0 rfl rfl rfl (by decide)) ?_
          refine Eq.trans (li_iconst d113_73 ic_1) ?_
          refine Eq.trans (li_aload_n d113_74 (by rfl)) ?_
          refine Eq.trans (li_ivV d113_75 ca_11_233 kd_111 kl_111 (by rfl) (by rfl) (sf_of h0 5 (by decide) (by decide)) (Nat.le_of_ble_eq_true rfl) (Nat.le_of_ble_eq_true rfl)) ?_
          refine lt_cV_c (fun m7 => ?_)
          refine Eq.trans (li_aload_n d113_78 (by rfl)) ?_
          refine Eq.trans (li_geti d113_79 fa_11_253 g2 rfl) ?_
          refine Eq.trans (li_aload_n d113_82 (by rfl)) ?_
          refine Eq.trans (li_geti d113_83 fa_11_256 g2 rfl) ?_
          refine Eq.trans (li_isub d113_86) ?_
          exact li_iret d113_87 rfl
        · refine Eq.trans (li_bipush d113_44 bi_n3) ?_
          exact li_iret d113_46 rfl
      · refine Eq.trans (li_bipush d113_33 bi_n2) ?_
        exact li_iret d113_35 rfl
    · refine Eq.trans (li_iconst d113_24 ic_n1) ?_
      exact li_iret d113_25 rfl
/-! TransitSeals$Ledger.find(I)LTransitSeals$Movement; -/
theorem d114_0 : decode Y114.2.1 0 = .ok (.iload_n 1, 1) := by decide +kernel
theorem d114_1 : decode Y114.2.1 1 = .ok (.aload_n 0, 1) := by decide +kernel
theorem d114_2 : decode Y114.2.1 2 = .ok (.getfield 41, 3) := by decide +kernel
theorem d114_5 : decode Y114.2.1 5 = .ok (.if_icmp .ge 11, 3) := by decide +kernel
theorem d114_8 : decode Y114.2.1 8 = .ok (.aload_n 0, 1) := by decide +kernel
theorem d114_9 : decode Y114.2.1 9 = .ok (.iload_n 1, 1) := by decide +kernel
theorem d114_10 : decode Y114.2.1 10 = .ok (.invokevirtual 114, 3) := by decide +kernel
theorem d114_13 : decode Y114.2.1 13 = .ok (.goto 4, 3) := by decide +kernel
theorem d114_16 : decode Y114.2.1 16 = .ok (.aconst_null, 1) := by decide +kernel
theorem d114_17 : decode Y114.2.1 17 = .ok (.areturn, 1) := by decide +kernel
theorem E114 (d : Nat) (a0 : Nat) (x1 : Int32) (h0 : ts_sh a0 = (0, 2)) (m : lt_m) : lt_ev (d + 1) 114 [.inr (.inr (some a0)), .inl x1] m = if (m.1 a0 6) ≤ x1 then (some (some (.inr (.inr none)), m)) else (lt_cR (lt_ev d 105 [.inr (.inr (some a0)), .inl x1] m) (fun v1 m1 => (some (some (.inr (.inr v1)), m1)))) := by
  refine Eq.trans (lt_enter2 (ls := [some (.inr (.inr (some a0))), some (.inl x1)]) hY114 (Nat.le_of_ble_eq_true rfl) (by rfl)) ?_
  refine Eq.trans (li_iload_n d114_0 (by rfl)) ?_
  refine Eq.trans (li_aload_n d114_1 (by rfl)) ?_
  refine Eq.trans (li_geti d114_2 fa_2_41 h0 rfl) ?_
  refine Eq.trans (li_icmp_ge (t := 16) d114_5 (by rfl)) ?_
  refine lt_ite (fun c1 => ?_) (fun c1 => ?_)
  · refine Eq.trans (li_null d114_16) ?_
    exact li_aret d114_17 rfl
  · refine Eq.trans (li_aload_n d114_8 (by rfl)) ?_
    refine Eq.trans (li_iload_n d114_9 (by rfl)) ?_
    refine Eq.trans (li_ivR d114_10 ca_2_114 kd_105 kl_105 (by rfl) (by rfl) h0 (Nat.le_of_ble_eq_true rfl) (Nat.le_of_ble_eq_true rfl)) ?_
    refine lt_cR_c (fun v1 m1 => ?_)
    refine Eq.trans (li_goto (t := 17) d114_13 (by rfl)) ?_
    exact li_aret d114_17 rfl
/-! TransitSeals$Movement.comesTo()I -/
theorem d115_0 : decode Y115.2.1 0 = .ok (.aload_n 0, 1) := by decide +kernel
theorem d115_1 : decode Y115.2.1 1 = .ok (.aload_n 0, 1) := by decide +kernel
theorem d115_2 : decode Y115.2.1 2 = .ok (.getfield 35, 3) := by decide +kernel
theorem d115_5 : decode Y115.2.1 5 = .ok (.invokevirtual 38, 3) := by decide +kernel
theorem d115_8 : decode Y115.2.1 8 = .ok (.ireturn, 1) := by decide +kernel
theorem E115 (d : Nat) (a0 : Nat) (h0 : ts_sh a0 = (0, 4)) (m : lt_m) : lt_ev (d + 1) 115 [.inr (.inr (some a0))] m = lt_cI (lt_ev d 64 [.inr (.inr (some a0)), .inl (m.1 a0 9)] m) (fun v1 m1 => (some (some (.inl v1), m1))) := by
  refine Eq.trans (lt_enter2 (ls := [some (.inr (.inr (some a0)))]) hY115 (Nat.le_of_ble_eq_true rfl) (by rfl)) ?_
  refine Eq.trans (li_aload_n d115_0 (by rfl)) ?_
  refine Eq.trans (li_aload_n d115_1 (by rfl)) ?_
  refine Eq.trans (li_geti d115_2 fa_4_35 h0 rfl) ?_
  refine Eq.trans (li_ivI d115_5 ca_4_38 kd_64 kl_64 (by rfl) (by rfl) h0 (Nat.le_of_ble_eq_true rfl) (Nat.le_of_ble_eq_true rfl)) ?_
  refine lt_cI_c (fun v1 m1 => ?_)
  exact li_iret d115_8 rfl
/-! TransitSeals$Movement.stamp(I)V -/
theorem d116_0 : decode Y116.2.1 0 = .ok (.aload_n 0, 1) := by decide +kernel
theorem d116_1 : decode Y116.2.1 1 = .ok (.getfield 19, 3) := by decide +kernel
theorem d116_4 : decode Y116.2.1 4 = .ok (.aload_n 0, 1) := by decide +kernel
theorem d116_5 : decode Y116.2.1 5 = .ok (.getfield 35, 3) := by decide +kernel
theorem d116_8 : decode Y116.2.1 8 = .ok (.iload_n 1, 1) := by decide +kernel
theorem d116_9 : decode Y116.2.1 9 = .ok (.invokestatic 68, 3) := by decide +kernel
theorem d116_12 : decode Y116.2.1 12 = .ok (.aload_n 0, 1) := by decide +kernel
theorem d116_13 : decode Y116.2.1 13 = .ok (.dup, 1) := by decide +kernel
theorem d116_14 : decode Y116.2.1 14 = .ok (.getfield 35, 3) := by decide +kernel
theorem d116_17 : decode Y116.2.1 17 = .ok (.iconst 1, 1) := by decide +kernel
theorem d116_18 : decode Y116.2.1 18 = .ok (.iadd, 1) := by decide +kernel
theorem d116_19 : decode Y116.2.1 19 = .ok (.putfield 35, 3) := by decide +kernel
theorem d116_22 : decode Y116.2.1 22 = .ok (.aload_n 0, 1) := by decide +kernel
theorem d116_23 : decode Y116.2.1 23 = .ok (.getfield 35, 3) := by decide +kernel
theorem d116_26 : decode Y116.2.1 26 = .ok (.aload_n 0, 1) := by decide +kernel
theorem d116_27 : decode Y116.2.1 27 = .ok (.getfield 28, 3) := by decide +kernel
theorem d116_30 : decode Y116.2.1 30 = .ok (.if_icmp .lt 8, 3) := by decide +kernel
theorem d116_33 : decode Y116.2.1 33 = .ok (.aload_n 0, 1) := by decide +kernel
theorem d116_34 : decode Y116.2.1 34 = .ok (.iconst 1, 1) := by decide +kernel
theorem d116_35 : decode Y116.2.1 35 = .ok (.putfield 9, 3) := by decide +kernel
theorem d116_38 : decode Y116.2.1 38 = .ok (.return_, 1) := by decide +kernel
theorem E116 (d : Nat) (a0 : Nat) (x1 : Int32) (h0 : ts_sh a0 = (0, 4)) (m : lt_m) : lt_ev (d + 1) 116 [.inr (.inr (some a0)), .inl x1] m = lt_cV (lt_ev d 17 [.inr (.inr (some (a0 + 2))), .inl (m.1 a0 9), .inl x1] m) (fun m1 => (if ((lm_i m1 a0 9 ((m1.1 a0 9) + (1 : Int32))).1 a0 9) < ((lm_i m1 a0 9 ((m1.1 a0 9) + (1 : Int32))).1 a0 8) then (some (none, (lm_i m1 a0 9 ((m1.1 a0 9) + (1 : Int32))))) else (some (none, (lm_i (lm_i m1 a0 9 ((m1.1 a0 9) + (1 : Int32))) a0 7 (1 : Int32)))))) := by
  refine Eq.trans (lt_enter2 (ls := [some (.inr (.inr (some a0))), some (.inl x1)]) hY116 (Nat.le_of_ble_eq_true rfl) (by rfl)) ?_
  refine Eq.trans (li_aload_n d116_0 (by rfl)) ?_
  refine Eq.trans (li_getr d116_1 fa_4_19 h0 rfl rfl rfl (by decide)) ?_
  refine Eq.trans (li_aload_n d116_4 (by rfl)) ?_
  refine Eq.trans (li_geti d116_5 fa_4_35 h0 rfl) ?_
  refine Eq.trans (li_iload_n d116_8 (by rfl)) ?_
  refine Eq.trans (li_isV d116_9 bi_4_68 ca_4_68 kd_17 (by rfl) (by rfl) (Nat.le_of_ble_eq_true rfl) (Nat.le_of_ble_eq_true rfl)) ?_
  refine lt_cV_c (fun m1 => ?_)
  refine Eq.trans (li_aload_n d116_12 (by rfl)) ?_
  refine Eq.trans (li_dup d116_13 rfl) ?_
  refine Eq.trans (li_geti d116_14 fa_4_35 h0 rfl) ?_
  refine Eq.trans (li_iconst d116_17 ic_1) ?_
  refine Eq.trans (li_iadd d116_18) ?_
  refine Eq.trans (li_puti d116_19 fa_4_35 h0 rfl rfl) ?_
  refine Eq.trans (li_aload_n d116_22 (by rfl)) ?_
  refine Eq.trans (li_geti d116_23 fa_4_35 h0 rfl) ?_
  refine Eq.trans (li_aload_n d116_26 (by rfl)) ?_
  refine Eq.trans (li_geti d116_27 fa_4_28 h0 rfl) ?_
  refine Eq.trans (li_icmp_lt (t := 38) d116_30 (by rfl)) ?_
  refine lt_ite (fun c1 => ?_) (fun c1 => ?_)
  · exact li_vret d116_38 rfl
  · refine Eq.trans (li_aload_n d116_33 (by rfl)) ?_
    refine Eq.trans (li_iconst d116_34 ic_1) ?_
    refine Eq.trans (li_puti d116_35 fa_4_9 h0 rfl rfl) ?_
    exact li_vret d116_38 rfl
/-! TransitSeals.breaks(I)I -/
theorem d117_0 : decode Y117.2.1 0 = .ok (.aload_n 0, 1) := by decide +kernel
theorem d117_1 : decode Y117.2.1 1 = .ok (.getfield 47, 3) := by decide +kernel
theorem d117_4 : decode Y117.2.1 4 = .ok (.iload_n 1, 1) := by decide +kernel
theorem d117_5 : decode Y117.2.1 5 = .ok (.invokevirtual 240, 3) := by decide +kernel
theorem d117_8 : decode Y117.2.1 8 = .ok (.astore_n 2, 1) := by decide +kernel
theorem d117_9 : decode Y117.2.1 9 = .ok (.aload_n 2, 1) := by decide +kernel
theorem d117_10 : decode Y117.2.1 10 = .ok (.ifnonnull 5, 3) := by decide +kernel
theorem d117_13 : decode Y117.2.1 13 = .ok (.iconst (-1), 1) := by decide +kernel
theorem d117_14 : decode Y117.2.1 14 = .ok (.ireturn, 1) := by decide +kernel
theorem d117_15 : decode Y117.2.1 15 = .ok (.aload_n 2, 1) := by decide +kernel
theorem d117_16 : decode Y117.2.1 16 = .ok (.invokevirtual 244, 3) := by decide +kernel
theorem d117_19 : decode Y117.2.1 19 = .ok (.ifCond .ne 6, 3) := by decide +kernel
theorem d117_22 : decode Y117.2.1 22 = .ok (.bipush (-2), 2) := by decide +kernel
theorem d117_24 : decode Y117.2.1 24 = .ok (.ireturn, 1) := by decide +kernel
theorem d117_25 : decode Y117.2.1 25 = .ok (.aload_n 2, 1) := by decide +kernel
theorem d117_26 : decode Y117.2.1 26 = .ok (.getfield 259, 3) := by decide +kernel
theorem d117_29 : decode Y117.2.1 29 = .ok (.ifCond .eq 6, 3) := by decide +kernel
theorem d117_32 : decode Y117.2.1 32 = .ok (.bipush (-3), 2) := by decide +kernel
theorem d117_34 : decode Y117.2.1 34 = .ok (.ireturn, 1) := by decide +kernel
theorem d117_35 : decode Y117.2.1 35 = .ok (.aload_n 0, 1) := by decide +kernel
theorem d117_36 : decode Y117.2.1 36 = .ok (.getfield 54, 3) := by decide +kernel
theorem d117_39 : decode Y117.2.1 39 = .ok (.aload_n 0, 1) := by decide +kernel
theorem d117_40 : decode Y117.2.1 40 = .ok (.getfield 47, 3) := by decide +kernel
theorem d117_43 : decode Y117.2.1 43 = .ok (.invokevirtual 168, 3) := by decide +kernel
theorem d117_46 : decode Y117.2.1 46 = .ok (.aload_n 2, 1) := by decide +kernel
theorem d117_47 : decode Y117.2.1 47 = .ok (.iconst 1, 1) := by decide +kernel
theorem d117_48 : decode Y117.2.1 48 = .ok (.putfield 259, 3) := by decide +kernel
theorem d117_51 : decode Y117.2.1 51 = .ok (.aload_n 0, 1) := by decide +kernel
theorem d117_52 : decode Y117.2.1 52 = .ok (.getfield 47, 3) := by decide +kernel
theorem d117_55 : decode Y117.2.1 55 = .ok (.iconst 2, 1) := by decide +kernel
theorem d117_56 : decode Y117.2.1 56 = .ok (.aload_n 2, 1) := by decide +kernel
theorem d117_57 : decode Y117.2.1 57 = .ok (.invokevirtual 233, 3) := by decide +kernel
theorem d117_60 : decode Y117.2.1 60 = .ok (.aload_n 0, 1) := by decide +kernel
theorem d117_61 : decode Y117.2.1 61 = .ok (.getfield 47, 3) := by decide +kernel
theorem d117_64 : decode Y117.2.1 64 = .ok (.invokevirtual 263, 3) := by decide +kernel
theorem d117_67 : decode Y117.2.1 67 = .ok (.ireturn, 1) := by decide +kernel
theorem E117 (d : Nat) (a0 : Nat) (x1 : Int32) (h0 : ts_sh a0 = (0, 11)) (m : lt_m) : lt_ev (d + 1) 117 [.inr (.inr (some a0)), .inl x1] m = lt_cR (lt_ev d 114 [.inr (.inr (some (a0 + 13))), .inl x1] m) (fun v1 m1 => (lt_nl v1 (some (some (.inl (-1 : Int32)), m1)) (fun q1 => (lt_gd (ts_sh q1 = (0, 4)) (lt_cI (lt_ev d 62 [.inr (.inr (some q1))] m1) (fun v2 m2 => (if ¬ v2 = 0 then (if (m2.1 q1 11) = 0 then (lt_cV (lt_ev d 81 [.inr (.inr (some (a0 + 81))), .inr (.inr (some (a0 + 13)))] m2) (fun m3 => (lt_cV (lt_ev d 111 [.inr (.inr (some (a0 + 13))), .inl (2 : Int32), .inr (.inr (some q1))] (lm_i m3 q1 11 (1 : Int32))) (fun m4 => (lt_cI (lt_ev d 118 [.inr (.inr (some (a0 + 13)))] m4) (fun v3 m5 => (some (some (.inl v3), m5)))))))) else (some (some (.inl (-3 : Int32)), m2))) else (some (some (.inl (-2 : Int32)), m2))))))))) := by
  refine Eq.trans (lt_enter2 (ls := [some (.inr (.inr (some a0))), some (.inl x1), none]) hY117 (Nat.le_of_ble_eq_true rfl) (by rfl)) ?_
  refine Eq.trans (li_aload_n d117_0 (by rfl)) ?_
  refine Eq.trans (li_getr d117_1 fa_11_47 h0 rfl rfl rfl (by decide)) ?_
  refine Eq.trans (li_iload_n d117_4 (by rfl)) ?_
  refine Eq.trans (li_ivR d117_5 ca_11_240 kd_114 kl_114 (by rfl) (by rfl) (sf_of h0 5 (by decide) (by decide)) (Nat.le_of_ble_eq_true rfl) (Nat.le_of_ble_eq_true rfl)) ?_
  refine lt_cR_c (fun v1 m1 => ?_)
  refine Eq.trans (li_astore_n (ls' := [some (.inr (.inr (some a0))), some (.inl x1), some (.inr (.inr v1))]) d117_8 (by decide) (by rfl)) ?_
  refine Eq.trans (li_aload_n d117_9 (by rfl)) ?_
  refine lt_nl_x (F := fun oz => lt_run d Y117 10 [some (.inr (.inr (some a0))), some (.inl x1), some (.inr (.inr oz))] [.inr (.inr oz)] m1) ?_ (fun q1 => ?_)
  · refine Eq.trans (li_ifnonnull_n d117_10) ?_
    refine Eq.trans (li_iconst d117_13 ic_n1) ?_
    exact li_iret d117_14 rfl
  · refine Eq.trans (li_ifnonnull_s (t := 15) d117_10 (by rfl)) ?_
    refine Eq.trans (li_aload_n d117_15 (by rfl)) ?_
    refine Eq.trans (li_ginv d117_16 ca_11_244 kl_62 (by rfl)) ?_
    refine lt_gd_c (fun g1 => ?_)
    refine Eq.trans (li_ivI d117_16 ca_11_244 kd_62 kl_62 (by rfl) (by rfl) g1 (Nat.le_of_ble_eq_true rfl) (Nat.le_of_ble_eq_true rfl)) ?_
    refine lt_cI_c (fun v2 m2 => ?_)
    refine Eq.trans (li_if_ne (t := 25) d117_19 (by rfl)) ?_
    refine lt_ite (fun c1 => ?_) (fun c1 => ?_)
    · refine Eq.trans (li_aload_n d117_25 (by rfl)) ?_
      refine Eq.trans (li_geti d117_26 fa_11_259 g1 rfl) ?_
      refine Eq.trans (li_if_eq (t := 35) d117_29 (by rfl)) ?_
      refine lt_ite (fun c2 => ?_) (fun c2 => ?_)
      · refine Eq.trans (li_aload_n d117_35 (by rfl)) ?_
        refine Eq.trans (li_getr d117_36 fa_11_54 h0 rfl rfl rfl (by decide)) ?_
        refine Eq.trans (li_aload_n d117_39 (by rfl)) ?_
        refine Eq.trans (li_getr d117_40 fa_11_47 h0 rfl rfl rfl (by decide)) ?_
        refine Eq.trans (li_ivV d117_43 ca_11_168 kd_81 kl_81 (by rfl) (by rfl) (sf_of h0 6 (by decide) (by decide)) (Nat.le_of_ble_eq_true rfl) (Nat.le_of_ble_eq_true rfl)) ?_
        refine lt_cV_c (fun m3 => ?_)
        refine Eq.trans (li_aload_n d117_46 (by rfl)) ?_
        refine Eq.trans (li_iconst d117_47 ic_1) ?_
        refine Eq.trans (li_putz d117_48 fa_11_259 g1 rfl rfl) ?_
        refine Eq.trans (lt_gd_t (by decide)) ?_
        refine Eq.trans (li_aload_n d117_51 (by rfl)) ?_
        refine Eq.trans (li_getr d117_52 fa_11_47 h0 rfl rfl rfl (by decide)) ?_
        refine Eq.trans (li_iconst d117_55 ic_2) ?_
        refine Eq.trans (li_aload_n d117_56 (by rfl)) ?_
        refine Eq.trans (li_ivV d117_57 ca_11_233 kd_111 kl_111 (by rfl) (by rfl) (sf_of h0 5 (by decide) (by decide)) (Nat.le_of_ble_eq_true rfl) (Nat.le_of_ble_eq_true rfl)) ?_
        refine lt_cV_c (fun m4 => ?_)
        refine Eq.trans (li_aload_n d117_60 (by rfl)) ?_
        refine Eq.trans (li_getr d117_61 fa_11_47 h0 rfl rfl rfl (by decide)) ?_
        refine Eq.trans (li_ivI d117_64 ca_11_263 kd_118 kl_118 (by rfl) (by rfl) (sf_of h0 5 (by decide) (by decide)) (Nat.le_of_ble_eq_true rfl) (Nat.le_of_ble_eq_true rfl)) ?_
        refine lt_cI_c (fun v3 m5 => ?_)
        exact li_iret d117_67 rfl
      · refine Eq.trans (li_bipush d117_32 bi_n3) ?_
        exact li_iret d117_34 rfl
    · refine Eq.trans (li_bipush d117_22 bi_n2) ?_
      exact li_iret d117_24 rfl
/-! TransitSeals$Ledger.brokenSeals()I -/
theorem d118_0 : decode Y118.2.1 0 = .ok (.iconst 0, 1) := by decide +kernel
theorem d118_1 : decode Y118.2.1 1 = .ok (.istore_n 1, 1) := by decide +kernel
theorem d118_2 : decode Y118.2.1 2 = .ok (.aload_n 0, 1) := by decide +kernel
theorem d118_3 : decode Y118.2.1 3 = .ok (.getfield 20, 3) := by decide +kernel
theorem d118_6 : decode Y118.2.1 6 = .ok (.astore_n 2, 1) := by decide +kernel
theorem d118_7 : decode Y118.2.1 7 = .ok (.aload_n 2, 1) := by decide +kernel
theorem d118_8 : decode Y118.2.1 8 = .ok (.arraylength, 1) := by decide +kernel
theorem d118_9 : decode Y118.2.1 9 = .ok (.istore_n 3, 1) := by decide +kernel
theorem d118_10 : decode Y118.2.1 10 = .ok (.iconst 0, 1) := by decide +kernel
theorem d118_11 : decode Y118.2.1 11 = .ok (.istore 4, 2) := by decide +kernel
theorem d118_13 : decode Y118.2.1 13 = .ok (.iload 4, 2) := by decide +kernel
theorem d118_15 : decode Y118.2.1 15 = .ok (.iload_n 3, 1) := by decide +kernel
theorem d118_16 : decode Y118.2.1 16 = .ok (.if_icmp .ge 40, 3) := by decide +kernel
theorem d118_19 : decode Y118.2.1 19 = .ok (.aload_n 2, 1) := by decide +kernel
theorem d118_20 : decode Y118.2.1 20 = .ok (.iload 4, 2) := by decide +kernel
theorem d118_22 : decode Y118.2.1 22 = .ok (.aaload, 1) := by decide +kernel
theorem d118_23 : decode Y118.2.1 23 = .ok (.astore 5, 2) := by decide +kernel
theorem d118_25 : decode Y118.2.1 25 = .ok (.iload_n 1, 1) := by decide +kernel
theorem d118_26 : decode Y118.2.1 26 = .ok (.aload 5, 2) := by decide +kernel
theorem d118_28 : decode Y118.2.1 28 = .ok (.getfield 44, 3) := by decide +kernel
theorem d118_31 : decode Y118.2.1 31 = .ok (.iconst (-1), 1) := by decide +kernel
theorem d118_32 : decode Y118.2.1 32 = .ok (.if_icmp .eq 15, 3) := by decide +kernel
theorem d118_35 : decode Y118.2.1 35 = .ok (.aload 5, 2) := by decide +kernel
theorem d118_37 : decode Y118.2.1 37 = .ok (.getfield 97, 3) := by decide +kernel
theorem d118_40 : decode Y118.2.1 40 = .ok (.ifCond .eq 7, 3) := by decide +kernel
theorem d118_43 : decode Y118.2.1 43 = .ok (.iconst 1, 1) := by decide +kernel
theorem d118_44 : decode Y118.2.1 44 = .ok (.goto 4, 3) := by decide +kernel
theorem d118_47 : decode Y118.2.1 47 = .ok (.iconst 0, 1) := by decide +kernel
theorem d118_48 : decode Y118.2.1 48 = .ok (.iadd, 1) := by decide +kernel
theorem d118_49 : decode Y118.2.1 49 = .ok (.istore_n 1, 1) := by decide +kernel
theorem d118_50 : decode Y118.2.1 50 = .ok (.iinc 4 1, 3) := by decide +kernel
theorem d118_53 : decode Y118.2.1 53 = .ok (.goto (-40), 3) := by decide +kernel
theorem d118_56 : decode Y118.2.1 56 = .ok (.iload_n 1, 1) := by decide +kernel
theorem d118_57 : decode Y118.2.1 57 = .ok (.ireturn, 1) := by decide +kernel
noncomputable def L118_13 (d : Nat) (a0 : Nat) (x1 : Int32) (x4 : Int32) (o5 : Option ts_V) (m : lt_m) : Option lt_r := lt_run d Y118 13 [some (.inr (.inr (some a0))), some (.inl x1), some (.inr (.inr (some (a0 + 3)))), some (.inl (20 : Int32)), some (.inl x4), o5] [] m
theorem E118 (d : Nat) (a0 : Nat) (h0 : ts_sh a0 = (0, 2)) (m : lt_m) : lt_ev (d + 1) 118 [.inr (.inr (some a0))] m = L118_13 d a0 (0 : Int32) (0 : Int32) none m := by
  refine Eq.trans (lt_enter2 (ls := [some (.inr (.inr (some a0))), none, none, none, none, none]) hY118 (Nat.le_of_ble_eq_true rfl) (by rfl)) ?_
  refine Eq.trans (li_iconst d118_0 ic_0) ?_
  refine Eq.trans (li_istore_n (ls' := [some (.inr (.inr (some a0))), some (.inl (0 : Int32)), none, none, none, none]) d118_1 (by decide) (by rfl)) ?_
  refine Eq.trans (li_aload_n d118_2 (by rfl)) ?_
  refine Eq.trans (li_getr d118_3 fa_2_20 h0 rfl rfl rfl (by decide)) ?_
  refine Eq.trans (li_astore_n (ls' := [some (.inr (.inr (some a0))), some (.inl (0 : Int32)), some (.inr (.inr (some (a0 + 3)))), none, none, none]) d118_6 (by decide) (by rfl)) ?_
  refine Eq.trans (li_aload_n d118_7 (by rfl)) ?_
  refine Eq.trans (li_alen d118_8 (sf_of h0 2 (by decide) (by decide)) (by decide) (by rfl)) ?_
  refine Eq.trans (li_istore_n (ls' := [some (.inr (.inr (some a0))), some (.inl (0 : Int32)), some (.inr (.inr (some (a0 + 3)))), some (.inl (20 : Int32)), none, none]) d118_9 (by decide) (by rfl)) ?_
  refine Eq.trans (li_iconst d118_10 ic_0) ?_
  refine Eq.trans (li_istore (ls' := [some (.inr (.inr (some a0))), some (.inl (0 : Int32)), some (.inr (.inr (some (a0 + 3)))), some (.inl (20 : Int32)), some (.inl (0 : Int32)), none]) d118_11 (by decide) (by rfl)) ?_
  rfl
theorem E118_13 (d : Nat) (a0 : Nat) (x1 : Int32) (x4 : Int32) (o5 : Option ts_V) (h0 : ts_sh a0 = (0, 2)) (m : lt_m) : L118_13 d a0 x1 x4 o5 m = if (20 : Int32) ≤ x4 then (some (some (.inl x1), m)) else (lt_gd (0 ≤ x4 ∧ (x4).toNatClampNeg < 20) (if (m.1 ((a0 + 3) + 5 + 3 * (x4).toNatClampNeg) 7) = (-1 : Int32) then (L118_13 d a0 (x1 + (0 : Int32)) (x4 + (1 : Int32)) (some (.inr (.inr (some ((a0 + 3) + 5 + 3 * (x4).toNatClampNeg))))) m) else (if (m.1 ((a0 + 3) + 5 + 3 * (x4).toNatClampNeg) 11) = 0 then (L118_13 d a0 (x1 + (0 : Int32)) (x4 + (1 : Int32)) (some (.inr (.inr (some ((a0 + 3) + 5 + 3 * (x4).toNatClampNeg))))) m) else (L118_13 d a0 (x1 + (1 : Int32)) (x4 + (1 : Int32)) (some (.inr (.inr (some ((a0 + 3) + 5 + 3 * (x4).toNatClampNeg))))) m)))) := by
  show lt_run d Y118 13 [some (.inr (.inr (some a0))), some (.inl x1), some (.inr (.inr (some (a0 + 3)))), some (.inl (20 : Int32)), some (.inl x4), o5] [] m = _
  refine Eq.trans (li_iload d118_13 (by rfl)) ?_
  refine Eq.trans (li_iload_n d118_15 (by rfl)) ?_
  refine Eq.trans (li_icmp_ge (t := 56) d118_16 (by rfl)) ?_
  refine lt_ite (fun c1 => ?_) (fun c1 => ?_)
  · refine Eq.trans (li_iload_n d118_56 (by rfl)) ?_
    exact li_iret d118_57 rfl
  · refine Eq.trans (li_aload_n d118_19 (by rfl)) ?_
    refine Eq.trans (li_iload d118_20 (by rfl)) ?_
    refine Eq.trans (li_aald4 d118_22 (sf_of h0 2 (by decide) (by decide))) ?_
    refine lt_gd_c (fun g1 => ?_)
    refine Eq.trans (li_astore (ls' := [some (.inr (.inr (some a0))), some (.inl x1), some (.inr (.inr (some (a0 + 3)))), some (.inl (20 : Int32)), some (.inl x4), some (.inr (.inr (some ((a0 + 3) + 5 + 3 * (x4).toNatClampNeg))))]) d118_23 (by decide) (by rfl)) ?_
    refine Eq.trans (li_iload_n d118_25 (by rfl)) ?_
    refine Eq.trans (li_aload d118_26 (by rfl)) ?_
    refine Eq.trans (li_geti d118_28 fa_2_44 (sm_4 (sf_of h0 2 (by decide) (by decide)) g1.2) rfl) ?_
    refine Eq.trans (li_iconst d118_31 ic_n1) ?_
    refine Eq.trans (li_icmp_eq (t := 47) d118_32 (by rfl)) ?_
    refine lt_ite (fun c2 => ?_) (fun c2 => ?_)
    · refine Eq.trans (li_iconst d118_47 ic_0) ?_
      refine Eq.trans (li_iadd d118_48) ?_
      refine Eq.trans (li_istore_n (ls' := [some (.inr (.inr (some a0))), some (.inl (x1 + (0 : Int32))), some (.inr (.inr (some (a0 + 3)))), some (.inl (20 : Int32)), some (.inl x4), some (.inr (.inr (some ((a0 + 3) + 5 + 3 * (x4).toNatClampNeg))))]) d118_49 (by decide) (by rfl)) ?_
      refine Eq.trans (li_iinc (ls' := [some (.inr (.inr (some a0))), some (.inl (x1 + (0 : Int32))), some (.inr (.inr (some (a0 + 3)))), some (.inl (20 : Int32)), some (.inl (x4 + (1 : Int32))), some (.inr (.inr (some ((a0 + 3) + 5 + 3 * (x4).toNatClampNeg))))]) d118_50 (by rfl) (by decide) ic_1 (by rfl)) ?_
      refine Eq.trans (li_goto (t := 13) d118_53 (by rfl)) ?_
      rfl
    · refine Eq.trans (li_aload d118_35 (by rfl)) ?_
      refine Eq.trans (li_geti d118_37 fa_2_97 (sm_4 (sf_of h0 2 (by decide) (by decide)) g1.2) rfl) ?_
      refine Eq.trans (li_if_eq (t := 47) d118_40 (by rfl)) ?_
      refine lt_ite (fun c3 => ?_) (fun c3 => ?_)
      · refine Eq.trans (li_iconst d118_47 ic_0) ?_
        refine Eq.trans (li_iadd d118_48) ?_
        refine Eq.trans (li_istore_n (ls' := [some (.inr (.inr (some a0))), some (.inl (x1 + (0 : Int32))), some (.inr (.inr (some (a0 + 3)))), some (.inl (20 : Int32)), some (.inl x4), some (.inr (.inr (some ((a0 + 3) + 5 + 3 * (x4).toNatClampNeg))))]) d118_49 (by decide) (by rfl)) ?_
        refine Eq.trans (li_iinc (ls' := [some (.inr (.inr (some a0))), some (.inl (x1 + (0 : Int32))), some (.inr (.inr (some (a0 + 3)))), some (.inl (20 : Int32)), some (.inl (x4 + (1 : Int32))), some (.inr (.inr (some ((a0 + 3) + 5 + 3 * (x4).toNatClampNeg))))]) d118_50 (by rfl) (by decide) ic_1 (by rfl)) ?_
        refine Eq.trans (li_goto (t := 13) d118_53 (by rfl)) ?_
        rfl
      · refine Eq.trans (li_iconst d118_43 ic_1) ?_
        refine Eq.trans (li_goto (t := 48) d118_44 (by rfl)) ?_
        refine Eq.trans (li_iadd d118_48) ?_
        refine Eq.trans (li_istore_n (ls' := [some (.inr (.inr (some a0))), some (.inl (x1 + (1 : Int32))), some (.inr (.inr (some (a0 + 3)))), some (.inl (20 : Int32)), some (.inl x4), some (.inr (.inr (some ((a0 + 3) + 5 + 3 * (x4).toNatClampNeg))))]) d118_49 (by decide) (by rfl)) ?_
        refine Eq.trans (li_iinc (ls' := [some (.inr (.inr (some a0))), some (.inl (x1 + (1 : Int32))), some (.inr (.inr (some (a0 + 3)))), some (.inl (20 : Int32)), some (.inl (x4 + (1 : Int32))), some (.inr (.inr (some ((a0 + 3) + 5 + 3 * (x4).toNatClampNeg))))]) d118_50 (by rfl) (by decide) ic_1 (by rfl)) ?_
        refine Eq.trans (li_goto (t := 13) d118_53 (by rfl)) ?_
        rfl
/-! TransitSeals.controls(II)I -/
theorem d119_0 : decode Y119.2.1 0 = .ok (.aload_n 0, 1) := by decide +kernel
theorem d119_1 : decode Y119.2.1 1 = .ok (.getfield 47, 3) := by decide +kernel
theorem d119_4 : decode Y119.2.1 4 = .ok (.iload_n 1, 1) := by decide +kernel
theorem d119_5 : decode Y119.2.1 5 = .ok (.invokevirtual 240, 3) := by decide +kernel
theorem d119_8 : decode Y119.2.1 8 = .ok (.astore_n 3, 1) := by decide +kernel
theorem d119_9 : decode Y119.2.1 9 = .ok (.aload_n 3, 1) := by decide +kernel
theorem d119_10 : decode Y119.2.1 10 = .ok (.ifnull 15, 3) := by decide +kernel
theorem d119_13 : decode Y119.2.1 13 = .ok (.iload_n 2, 1) := by decide +kernel
theorem d119_14 : decode Y119.2.1 14 = .ok (.ifCond .lt 11, 3) := by decide +kernel
theorem d119_17 : decode Y119.2.1 17 = .ok (.iload_n 2, 1) := by decide +kernel
theorem d119_18 : decode Y119.2.1 18 = .ok (.aload_n 3, 1) := by decide +kernel
theorem d119_19 : decode Y119.2.1 19 = .ok (.getfield 266, 3) := by decide +kernel
theorem d119_22 : decode Y119.2.1 22 = .ok (.if_icmp .le 5, 3) := by decide +kernel
theorem d119_25 : decode Y119.2.1 25 = .ok (.iconst (-1), 1) := by decide +kernel
theorem d119_26 : decode Y119.2.1 26 = .ok (.ireturn, 1) := by decide +kernel
theorem d119_27 : decode Y119.2.1 27 = .ok (.aload_n 3, 1) := by decide +kernel
theorem d119_28 : decode Y119.2.1 28 = .ok (.getfield 269, 3) := by decide +kernel
theorem d119_31 : decode Y119.2.1 31 = .ok (.iconst 1, 1) := by decide +kernel
theorem d119_32 : decode Y119.2.1 32 = .ok (.if_icmp .eq 6, 3) := by decide +kernel
theorem d119_35 : decode Y119.2.1 35 = .ok (.bipush (-2), 2) := by decide +kernel
theorem d119_37 : decode Y119.2.1 37 = .ok (.ireturn, 1) := by decide +kernel
theorem d119_38 : decode Y119.2.1 38 = .ok (.aload_n 0, 1) := by decide +kernel
theorem d119_39 : decode Y119.2.1 39 = .ok (.getfield 54, 3) := by decide +kernel
theorem d119_42 : decode Y119.2.1 42 = .ok (.aload_n 0, 1) := by decide +kernel
theorem d119_43 : decode Y119.2.1 43 = .ok (.getfield 47, 3) := by decide +kernel
theorem d119_46 : decode Y119.2.1 46 = .ok (.invokevirtual 168, 3) := by decide +kernel
theorem d119_49 : decode Y119.2.1 49 = .ok (.iload_n 2, 1) := by decide +kernel
theorem d119_50 : decode Y119.2.1 50 = .ok (.aload_n 3, 1) := by decide +kernel
theorem d119_51 : decode Y119.2.1 51 = .ok (.getfield 266, 3) := by decide +kernel
theorem d119_54 : decode Y119.2.1 54 = .ok (.if_icmp .ne 19, 3) := by decide +kernel
theorem d119_57 : decode Y119.2.1 57 = .ok (.aload_n 3, 1) := by decide +kernel
theorem d119_58 : decode Y119.2.1 58 = .ok (.iconst 2, 1) := by decide +kernel
theorem d119_59 : decode Y119.2.1 59 = .ok (.putfield 269, 3) := by decide +kernel
theorem d119_62 : decode Y119.2.1 62 = .ok (.aload_n 0, 1) := by decide +kernel
theorem d119_63 : decode Y119.2.1 63 = .ok (.getfield 47, 3) := by decide +kernel
theorem d119_66 : decode Y119.2.1 66 = .ok (.iconst 3, 1) := by decide +kernel
theorem d119_67 : decode Y119.2.1 67 = .ok (.aload_n 3, 1) := by decide +kernel
theorem d119_68 : decode Y119.2.1 68 = .ok (.invokevirtual 233, 3) := by decide +kernel
theorem d119_71 : decode Y119.2.1 71 = .ok (.iconst 0, 1) := by decide +kernel
theorem d119_72 : decode Y119.2.1 72 = .ok (.ireturn, 1) := by decide +kernel
theorem d119_73 : decode Y119.2.1 73 = .ok (.aload_n 3, 1) := by decide +kernel
theorem d119_74 : decode Y119.2.1 74 = .ok (.getfield 266, 3) := by decide +kernel
theorem d119_77 : decode Y119.2.1 77 = .ok (.iload_n 2, 1) := by decide +kernel
theorem d119_78 : decode Y119.2.1 78 = .ok (.isub, 1) := by decide +kernel
theorem d119_79 : decode Y119.2.1 79 = .ok (.aload_n 0, 1) := by decide +kernel
theorem d119_80 : decode Y119.2.1 80 = .ok (.getfield 61, 3) := by decide +kernel
theorem d119_83 : decode Y119.2.1 83 = .ok (.aload_n 3, 1) := by decide +kernel
theorem d119_84 : decode Y119.2.1 84 = .ok (.getfield 272, 3) := by decide +kernel
theorem d119_87 : decode Y119.2.1 87 = .ok (.invokevirtual 211, 3) := by decide +kernel
theorem d119_90 : decode Y119.2.1 90 = .ok (.imul, 1) := by decide +kernel
theorem d119_91 : decode Y119.2.1 91 = .ok (.istore 4, 2) := by decide +kernel
theorem d119_93 : decode Y119.2.1 93 = .ok (.aload_n 3, 1) := by decide +kernel
theorem d119_94 : decode Y119.2.1 94 = .ok (.aload_n 3, 1) := by decide +kernel
theorem d119_95 : decode Y119.2.1 95 = .ok (.getfield 259, 3) := by decide +kernel
theorem d119_98 : decode Y119.2.1 98 = .ok (.ifCond .eq 10, 3) := by decide +kernel
theorem d119_101 : decode Y119.2.1 101 = .ok (.iconst 2, 1) := by decide +kernel
theorem d119_102 : decode Y119.2.1 102 = .ok (.iload 4, 2) := by decide +kernel
theorem d119_104 : decode Y119.2.1 104 = .ok (.imul, 1) := by decide +kernel
theorem d119_105 : decode Y119.2.1 105 = .ok (.goto 5, 3) := by decide +kernel
theorem d119_108 : decode Y119.2.1 108 = .ok (.iload 4, 2) := by decide +kernel
theorem d119_110 : decode Y119.2.1 110 = .ok (.invokevirtual 275, 3) := by decide +kernel
theorem d119_113 : decode Y119.2.1 113 = .ok (.aload_n 0, 1) := by decide +kernel
theorem d119_114 : decode Y119.2.1 114 = .ok (.getfield 47, 3) := by decide +kernel
theorem d119_117 : decode Y119.2.1 117 = .ok (.iconst 5, 1) := by decide +kernel
theorem d119_118 : decode Y119.2.1 118 = .ok (.aload_n 3, 1) := by decide +kernel
theorem d119_119 : decode Y119.2.1 119 = .ok (.invokevirtual 233, 3) := by decide +kernel
theorem d119_122 : decode Y119.2.1 122 = .ok (.aload_n 3, 1) := by decide +kernel
theorem d119_123 : decode Y119.2.1 123 = .ok (.getfield 278, 3) := by decide +kernel
theorem d119_126 : decode Y119.2.1 126 = .ok (.ireturn, 1) := by decide +kernel
theorem E119 (d : Nat) (a0 : Nat) (x1 : Int32) (x2 : Int32) (h0 : ts_sh a0 = (0, 11)) (m : lt_m) : lt_ev (d + 1) 119 [.inr (.inr (some a0)), .inl x1, .inl x2] m = lt_cR (lt_ev d 114 [.inr (.inr (some (a0 + 13))), .inl x1] m) (fun v1 m1 => (lt_nl v1 (some (some (.inl (-1 : Int32)), m1)) (fun q1 => (if x2 < 0 then (some (some (.inl (-1 : Int32)), m1)) else (lt_gd (ts_sh q1 = (0, 4)) (if x2 ≤ (m1.1 q1 3) then (if (m1.1 q1 7) = (1 : Int32) then (lt_cV (lt_ev d 81 [.inr (.inr (some (a0 + 81))), .inr (.inr (some (a0 + 13)))] m1) (fun m2 => (if ¬ x2 = (m2.1 q1 3) then (lt_gd (ts_sh (m2.2.2.1) = (0, 5)) (lt_cI (lt_ev d 25 [.inr (.inr (some (m2.2.2.1))), .inl (m2.1 q1 2)] m2) (fun v2 m3 => (if (m3.1 q1 11) = 0 then (lt_cV (lt_ev d 120 [.inr (.inr (some q1)), .inl (((m2.1 q1 3) - x2) * v2)] m3) (fun m4 => (lt_cV (lt_ev d 111 [.inr (.inr (some (a0 + 13))), .inl (5 : Int32), .inr (.inr (some q1))] m4) (fun m5 => (some (some (.inl (m5.1 q1 10)), m5)))))) else (lt_cV (lt_ev d 120 [.inr (.inr (some q1)), .inl ((2 : Int32) * (((m2.1 q1 3) - x2) * v2))] m3) (fun m6 => (lt_cV (lt_ev d 111 [.inr (.inr (some (a0 + 13))), .inl (5 : Int32), .inr (.inr (some q1))] m6) (fun m7 => (some (some (.inl (m7.1 q1 10)), m7)))))))))) else (lt_cV (lt_ev d 111 [.inr (.inr (some (a0 + 13))), .inl (3 : Int32), .inr (.inr (some q1))] (lm_i m2 q1 7 (2 : Int32))) (fun m8 => (some (some (.inl (0 : Int32)), m8))))))) else (some (some (.inl (-2 : Int32)), m1))) else (some (some (.inl (-1 : Int32)), m1)))))))) := by
  refine Eq.trans (lt_enter2 (ls := [some (.inr (.inr (some a0))), some (.inl x1), some (.inl x2), none, none]) hY119 (Nat.le_of_ble_eq_true rfl) (by rfl)) ?_
  refine Eq.trans (li_aload_n d119_0 (by rfl)) ?_
  refine Eq.trans (li_getr d119_1 fa_11_47 h0 rfl rfl rfl (by decide)) ?_
  refine Eq.trans (li_iload_n d119_4 (by rfl)) ?_
  refine Eq.trans (li_ivR d119_5 ca_11_240 kd_114 kl_114 (by rfl) (by rfl) (sf_of h0 5 (by decide) (by decide)) (Nat.le_of_ble_eq_true rfl) (Nat.le_of_ble_eq_true rfl)) ?_
  refine lt_cR_c (fun v1 m1 => ?_)
  refine Eq.trans (li_astore_n (ls' := [some (.inr (.inr (some a0))), some (.inl x1), some (.inl x2), some (.inr (.inr v1)), none]) d119_8 (by decide) (by rfl)) ?_
  refine Eq.trans (li_aload_n d119_9 (by rfl)) ?_
  refine lt_nl_x (F := fun oz => lt_run d Y119 10 [some (.inr (.inr (some a0))), some (.inl x1), some (.inl x2), some (.inr (.inr oz)), none] [.inr (.inr oz)] m1) ?_ (fun q1 => ?_)
  · refine Eq.trans (li_ifnull_n (t := 25) d119_10 (by rfl)) ?_
    refine Eq.trans (li_iconst d119_25 ic_n1) ?_
    exact li_iret d119_26 rfl
  · refine Eq.trans (li_ifnull_s d119_10) ?_
    refine Eq.trans (li_iload_n d119_13 (by rfl)) ?_
    refine Eq.trans (li_if_lt (t := 25) d119_14 (by rfl)) ?_
    refine lt_ite (fun c1 => ?_) (fun c1 => ?_)
    · refine Eq.trans (li_iconst d119_25 ic_n1) ?_
      exact li_iret d119_26 rfl
    · refine Eq.trans (li_iload_n d119_17 (by rfl)) ?_
      refine Eq.trans (li_aload_n d119_18 (by rfl)) ?_
      refine Eq.trans (li_gget d119_19 fa_11_266) ?_
      refine lt_gd_c (fun g1 => ?_)
      refine Eq.trans (li_geti d119_19 fa_11_266 g1 rfl) ?_
      refine Eq.trans (li_icmp_le (t := 27) d119_22 (by rfl)) ?_
      refine lt_ite (fun c2 => ?_) (fun c2 => ?_)
      · refine Eq.trans (li_aload_n d119_27 (by rfl)) ?_
        refine Eq.trans (li_geti d119_28 fa_11_269 g1 rfl) ?_
        refine Eq.trans (li_iconst d119_31 ic_1) ?_
        refine Eq.trans (li_icmp_eq (t := 38) d119_32 (by rfl)) ?_
        refine lt_ite (fun c3 => ?_) (fun c3 => ?_)
        · refine Eq.trans (li_aload_n d119_38 (by rfl)) ?_
          refine Eq.trans (li_getr d119_39 fa_11_54 h0 rfl rfl rfl (by decide)) ?_
          refine Eq.trans (li_aload_n d119_42 (by rfl)) ?_
          refine Eq.trans (li_getr d119_43 fa_11_47 h0 rfl rfl rfl (by decide)) ?_
          refine Eq.trans (li_ivV d119_46 ca_11_168 kd_81 kl_81 (by rfl) (by rfl) (sf_of h0 6 (by decide) (by decide)) (Nat.le_of_ble_eq_true rfl) (Nat.le_of_ble_eq_true rfl)) ?_
          refine lt_cV_c (fun m2 => ?_)
          refine Eq.trans (li_iload_n d119_49 (by rfl)) ?_
          refine Eq.trans (li_aload_n d119_50 (by rfl)) ?_
          refine Eq.trans (li_geti d119_51 fa_11_266 g1 rfl) ?_
          refine Eq.trans (li_icmp_ne (t := 73) d119_54 (by rfl)) ?_
          refine lt_ite (fun c4 => ?_) (fun c4 => ?_)
          · refine Eq.trans (li_aload_n d119_73 (by rfl)) ?_
            refine Eq.trans (li_geti d119_74 fa_11_266 g1 rfl) ?_
            refine Eq.trans (li_iload_n d119_77 (by rfl)) ?_
            refine Eq.trans (li_isub d119_78) ?_
            refine Eq.trans (li_aload_n d119_79 (by rfl)) ?_
            refine Eq.trans (li_getnet d119_80 fa_11_61 h0) ?_
            refine Eq.trans (li_aload_n d119_83 (by rfl)) ?_
            refine Eq.trans (li_geti d119_84 fa_11_272 g1 rfl) ?_
            refine Eq.trans (li_ginv d119_87 ca_11_211 kl_25 (by rfl)) ?_
            refine lt_gd_c (fun g2 => ?_)
            refine Eq.trans (li_ivI d119_87 ca_11_211 kd_25 kl_25 (by rfl) (by rfl) g2 (Nat.le_of_ble_eq_true rfl) (Nat.le_of_ble_eq_true rfl)) ?_
            refine lt_cI_c (fun v2 m3 => ?_)
            refine Eq.trans (li_imul d119_90) ?_
            refine Eq.trans (li_istore (ls' := [some (.inr (.inr (some a0))), some (.inl x1), some (.inl x2), some (.inr (.inr (some q1))), some (.inl (((m2.1 q1 3) - x2) * v2))]) d119_91 (by decide) (by rfl)) ?_
            refine Eq.trans (li_aload_n d119_93 (by rfl)) ?_
            refine Eq.trans (li_aload_n d119_94 (by rfl)) ?_
            refine Eq.trans (li_geti d119_95 fa_11_259 g1 rfl) ?_
            refine Eq.trans (li_if_eq (t := 108) d119_98 (by rfl)) ?_
            refine lt_ite (fun c5 => ?_) (fun c5 => ?_)
            · refine Eq.trans (li_iload d119_108 (by rfl)) ?_
              refine Eq.trans (li_ivV d119_110 ca_11_275 kd_120 kl_120 (by rfl) (by rfl) g1 (Nat.le_of_ble_eq_true rfl) (Nat.le_of_ble_eq_true rfl)) ?_
              refine lt_cV_c (fun m4 => ?_)
              refine Eq.trans (li_aload_n d119_113 (by rfl)) ?_
              refine Eq.trans (li_getr d119_114 fa_11_47 h0 rfl rfl rfl (by decide)) ?_
              refine Eq.trans (li_iconst d119_117 ic_5) ?_
              refine Eq.trans (li_aload_n d119_118 (by rfl)) ?_
              refine Eq.trans (li_ivV d119_119 ca_11_233 kd_111 kl_111 (by rfl) (by rfl) (sf_of h0 5 (by decide) (by decide)) (Nat.le_of_ble_eq_true rfl) (Nat.le_of_ble_eq_true rfl)) ?_
              refine lt_cV_c (fun m5 => ?_)
              refine Eq.trans (li_aload_n d119_122 (by rfl)) ?_
              refine Eq.trans (li_geti d119_123 fa_11_278 g1 rfl) ?_
              exact li_iret d119_126 rfl
            · refine Eq.trans (li_iconst d119_101 ic_2) ?_
              refine Eq.trans (li_iload d119_102 (by rfl)) ?_
              refine Eq.trans (li_imul d119_104) ?_
              refine Eq.trans (li_goto (t := 110) d119_105 (by rfl)) ?_
              refine Eq.trans (li_ivV d119_110 ca_11_275 kd_120 kl_120 (by rfl) (by rfl) g1 (Nat.le_of_ble_eq_true rfl) (Nat.le_of_ble_eq_true rfl)) ?_
              refine lt_cV_c (fun m6 => ?_)
              refine Eq.trans (li_aload_n d119_113 (by rfl)) ?_
              refine Eq.trans (li_getr d119_114 fa_11_47 h0 rfl rfl rfl (by decide)) ?_
              refine Eq.trans (li_iconst d119_117 ic_5) ?_
              refine Eq.trans (li_aload_n d119_118 (by rfl)) ?_
              refine Eq.trans (li_ivV d119_119 ca_11_233 kd_111 kl_111 (by rfl) (by rfl) (sf_of h0 5 (by decide) (by decide)) (Nat.le_of_ble_eq_true rfl) (Nat.le_of_ble_eq_true rfl)) ?_
              refine lt_cV_c (fun m7 => ?_)
              refine Eq.trans (li_aload_n d119_122 (by rfl)) ?_
              refine Eq.trans (li_geti d119_123 fa_11_278 g1 rfl) ?_
              exact li_iret d119_126 rfl
          · refine Eq.trans (li_aload_n d119_57 (by rfl)) ?_
            refine Eq.trans (li_iconst d119_58 ic_2) ?_
            refine Eq.trans (li_puti d119_59 fa_11_269 g1 rfl rfl) ?_
            refine Eq.trans (li_aload_n d119_62 (by rfl)) ?_
            refine Eq.trans (li_getr d119_63 fa_11_47 h0 rfl rfl rfl (by decide)) ?_
            refine Eq.trans (li_iconst d119_66 ic_3) ?_
            refine Eq.trans (li_aload_n d119_67 (by rfl)) ?_
            refine Eq.trans (li_ivV d119_68 ca_11_233 kd_111 kl_111 (by rfl) (by rfl) (sf_of h0 5 (by decide) (by decide)) (Nat.le_of_ble_eq_true rfl) (Nat.le_of_ble_eq_true rfl)) ?_
            refine lt_cV_c (fun m8 => ?_)
            refine Eq.trans (li_iconst d119_71 ic_0) ?_
            exact li_iret d119_72 rfl
        · refine Eq.trans (li_bipush d119_35 bi_n2) ?_
          exact li_iret d119_37 rfl
      · refine Eq.trans (li_iconst d119_25 ic_n1) ?_
        exact li_iret d119_26 rfl
/-! TransitSeals$Movement.owe(I)V -/
theorem d120_0 : decode Y120.2.1 0 = .ok (.aload_n 0, 1) := by decide +kernel
theorem d120_1 : decode Y120.2.1 1 = .ok (.iconst 4, 1) := by decide +kernel
theorem d120_2 : decode Y120.2.1 2 = .ok (.putfield 9, 3) := by decide +kernel
theorem d120_5 : decode Y120.2.1 5 = .ok (.aload_n 0, 1) := by decide +kernel
theorem d120_6 : decode Y120.2.1 6 = .ok (.iload_n 1, 1) := by decide +kernel
theorem d120_7 : decode Y120.2.1 7 = .ok (.putfield 75, 3) := by decide +kernel
theorem d120_10 : decode Y120.2.1 10 = .ok (.return_, 1) := by decide +kernel
theorem E120 (d : Nat) (a0 : Nat) (x1 : Int32) (h0 : ts_sh a0 = (0, 4)) (m : lt_m) : lt_ev (d + 1) 120 [.inr (.inr (some a0)), .inl x1] m = some (none, (lm_i (lm_i m a0 7 (4 : Int32)) a0 10 x1)) := by
  refine Eq.trans (lt_enter2 (ls := [some (.inr (.inr (some a0))), some (.inl x1)]) hY120 (Nat.le_of_ble_eq_true rfl) (by rfl)) ?_
  refine Eq.trans (li_aload_n d120_0 (by rfl)) ?_
  refine Eq.trans (li_iconst d120_1 ic_4) ?_
  refine Eq.trans (li_puti d120_2 fa_4_9 h0 rfl rfl) ?_
  refine Eq.trans (li_aload_n d120_5 (by rfl)) ?_
  refine Eq.trans (li_iload_n d120_6 (by rfl)) ?_
  refine Eq.trans (li_puti d120_7 fa_4_75 h0 rfl rfl) ?_
  exact li_vret d120_10 rfl
/-! TransitSeals.proves(I)I -/
theorem d121_0 : decode Y121.2.1 0 = .ok (.aload_n 0, 1) := by decide +kernel
theorem d121_1 : decode Y121.2.1 1 = .ok (.getfield 47, 3) := by decide +kernel
theorem d121_4 : decode Y121.2.1 4 = .ok (.iload_n 1, 1) := by decide +kernel
theorem d121_5 : decode Y121.2.1 5 = .ok (.invokevirtual 240, 3) := by decide +kernel
theorem d121_8 : decode Y121.2.1 8 = .ok (.astore_n 2, 1) := by decide +kernel
theorem d121_9 : decode Y121.2.1 9 = .ok (.aload_n 2, 1) := by decide +kernel
theorem d121_10 : decode Y121.2.1 10 = .ok (.ifnonnull 5, 3) := by decide +kernel
theorem d121_13 : decode Y121.2.1 13 = .ok (.iconst (-1), 1) := by decide +kernel
theorem d121_14 : decode Y121.2.1 14 = .ok (.ireturn, 1) := by decide +kernel
theorem d121_15 : decode Y121.2.1 15 = .ok (.aload_n 2, 1) := by decide +kernel
theorem d121_16 : decode Y121.2.1 16 = .ok (.getfield 269, 3) := by decide +kernel
theorem d121_19 : decode Y121.2.1 19 = .ok (.iconst 3, 1) := by decide +kernel
theorem d121_20 : decode Y121.2.1 20 = .ok (.if_icmp .eq 6, 3) := by decide +kernel
theorem d121_23 : decode Y121.2.1 23 = .ok (.bipush (-2), 2) := by decide +kernel
theorem d121_25 : decode Y121.2.1 25 = .ok (.ireturn, 1) := by decide +kernel
theorem d121_26 : decode Y121.2.1 26 = .ok (.aload_n 2, 1) := by decide +kernel
theorem d121_27 : decode Y121.2.1 27 = .ok (.getfield 259, 3) := by decide +kernel
theorem d121_30 : decode Y121.2.1 30 = .ok (.ifCond .eq 6, 3) := by decide +kernel
theorem d121_33 : decode Y121.2.1 33 = .ok (.bipush (-3), 2) := by decide +kernel
theorem d121_35 : decode Y121.2.1 35 = .ok (.ireturn, 1) := by decide +kernel
theorem d121_36 : decode Y121.2.1 36 = .ok (.aload_n 0, 1) := by decide +kernel
theorem d121_37 : decode Y121.2.1 37 = .ok (.getfield 54, 3) := by decide +kernel
theorem d121_40 : decode Y121.2.1 40 = .ok (.aload_n 0, 1) := by decide +kernel
theorem d121_41 : decode Y121.2.1 41 = .ok (.getfield 47, 3) := by decide +kernel
theorem d121_44 : decode Y121.2.1 44 = .ok (.invokevirtual 168, 3) := by decide +kernel
theorem d121_47 : decode Y121.2.1 47 = .ok (.aload_n 2, 1) := by decide +kernel
theorem d121_48 : decode Y121.2.1 48 = .ok (.aload_n 0, 1) := by decide +kernel
theorem d121_49 : decode Y121.2.1 49 = .ok (.getfield 47, 3) := by decide +kernel
theorem d121_52 : decode Y121.2.1 52 = .ok (.getfield 223, 3) := by decide +kernel
theorem d121_55 : decode Y121.2.1 55 = .ok (.invokevirtual 281, 3) := by decide +kernel
theorem d121_58 : decode Y121.2.1 58 = .ok (.istore_n 3, 1) := by decide +kernel
theorem d121_59 : decode Y121.2.1 59 = .ok (.aload_n 2, 1) := by decide +kernel
theorem d121_60 : decode Y121.2.1 60 = .ok (.iconst 2, 1) := by decide +kernel
theorem d121_61 : decode Y121.2.1 61 = .ok (.putfield 269, 3) := by decide +kernel
theorem d121_64 : decode Y121.2.1 64 = .ok (.aload_n 0, 1) := by decide +kernel
theorem d121_65 : decode Y121.2.1 65 = .ok (.getfield 47, 3) := by decide +kernel
theorem d121_68 : decode Y121.2.1 68 = .ok (.iconst 3, 1) := by decide +kernel
theorem d121_69 : decode Y121.2.1 69 = .ok (.aload_n 2, 1) := by decide +kernel
theorem d121_70 : decode Y121.2.1 70 = .ok (.invokevirtual 233, 3) := by decide +kernel
theorem d121_73 : decode Y121.2.1 73 = .ok (.iload_n 3, 1) := by decide +kernel
theorem d121_74 : decode Y121.2.1 74 = .ok (.ireturn, 1) := by decide +kernel
theorem E121 (d : Nat) (a0 : Nat) (x1 : Int32) (h0 : ts_sh a0 = (0, 11)) (m : lt_m) : lt_ev (d + 1) 121 [.inr (.inr (some a0)), .inl x1] m = lt_cR (lt_ev d 114 [.inr (.inr (some (a0 + 13))), .inl x1] m) (fun v1 m1 => (lt_nl v1 (some (some (.inl (-1 : Int32)), m1)) (fun q1 => (lt_gd (ts_sh q1 = (0, 4)) (if (m1.1 q1 7) = (3 : Int32) then (if (m1.1 q1 11) = 0 then (lt_cV (lt_ev d 81 [.inr (.inr (some (a0 + 81))), .inr (.inr (some (a0 + 13)))] m1) (fun m2 => (lt_cI (lt_ev d 122 [.inr (.inr (some q1)), .inl (m2.1 (a0 + 13) 4)] m2) (fun v2 m3 => (lt_cV (lt_ev d 111 [.inr (.inr (some (a0 + 13))), .inl (3 : Int32), .inr (.inr (some q1))] (lm_i m3 q1 7 (2 : Int32))) (fun m4 => (some (some (.inl v2), m4)))))))) else (some (some (.inl (-3 : Int32)), m1))) else (some (some (.inl (-2 : Int32)), m1))))))) := by
  refine Eq.trans (lt_enter2 (ls := [some (.inr (.inr (some a0))), some (.inl x1), none, none]) hY121 (Nat.le_of_ble_eq_true rfl) (by rfl)) ?_
  refine Eq.trans (li_aload_n d121_0 (by rfl)) ?_
  refine Eq.trans (li_getr d121_1 fa_11_47 h0 rfl rfl rfl (by decide)) ?_
  refine Eq.trans (li_iload_n d121_4 (by rfl)) ?_
  refine Eq.trans (li_ivR d121_5 ca_11_240 kd_114 kl_114 (by rfl) (by rfl) (sf_of h0 5 (by decide) (by decide)) (Nat.le_of_ble_eq_true rfl) (Nat.le_of_ble_eq_true rfl)) ?_
  refine lt_cR_c (fun v1 m1 => ?_)
  refine Eq.trans (li_astore_n (ls' := [some (.inr (.inr (some a0))), some (.inl x1), some (.inr (.inr v1)), none]) d121_8 (by decide) (by rfl)) ?_
  refine Eq.trans (li_aload_n d121_9 (by rfl)) ?_
  refine lt_nl_x (F := fun oz => lt_run d Y121 10 [some (.inr (.inr (some a0))), some (.inl x1), some (.inr (.inr oz)), none] [.inr (.inr oz)] m1) ?_ (fun q1 => ?_)
  · refine Eq.trans (li_ifnonnull_n d121_10) ?_
    refine Eq.trans (li_iconst d121_13 ic_n1) ?_
    exact li_iret d121_14 rfl
  · refine Eq.trans (li_ifnonnull_s (t := 15) d121_10 (by rfl)) ?_
    refine Eq.trans (li_aload_n d121_15 (by rfl)) ?_
    refine Eq.trans (li_gget d121_16 fa_11_269) ?_
    refine lt_gd_c (fun g1 => ?_)
    refine Eq.trans (li_geti d121_16 fa_11_269 g1 rfl) ?_
    refine Eq.trans (li_iconst d121_19 ic_3) ?_
    refine Eq.trans (li_icmp_eq (t := 26) d121_20 (by rfl)) ?_
    refine lt_ite (fun c1 => ?_) (fun c1 => ?_)
    · refine Eq.trans (li_aload_n d121_26 (by rfl)) ?_
      refine Eq.trans (li_geti d121_27 fa_11_259 g1 rfl) ?_
      refine Eq.trans (li_if_eq (t := 36) d121_30 (by rfl)) ?_
      refine lt_ite (fun c2 => ?_) (fun c2 => ?_)
      · refine Eq.trans (li_aload_n d121_36 (by rfl)) ?_
        refine Eq.trans (li_getr d121_37 fa_11_54 h0 rfl rfl rfl (by decide)) ?_
        refine Eq.trans (li_aload_n d121_40 (by rfl)) ?_
        refine Eq.trans (li_getr d121_41 fa_11_47 h0 rfl rfl rfl (by decide)) ?_
        refine Eq.trans (li_ivV d121_44 ca_11_168 kd_81 kl_81 (by rfl) (by rfl) (sf_of h0 6 (by decide) (by decide)) (Nat.le_of_ble_eq_true rfl) (Nat.le_of_ble_eq_true rfl)) ?_
        refine lt_cV_c (fun m2 => ?_)
        refine Eq.trans (li_aload_n d121_47 (by rfl)) ?_
        refine Eq.trans (li_aload_n d121_48 (by rfl)) ?_
        refine Eq.trans (li_getr d121_49 fa_11_47 h0 rfl rfl rfl (by decide)) ?_
        refine Eq.trans (li_geti d121_52 fa_11_223 (sf_of h0 5 (by decide) (by decide)) rfl) ?_
        refine Eq.trans (li_ivI d121_55 ca_11_281 kd_122 kl_122 (by rfl) (by rfl) g1 (Nat.le_of_ble_eq_true rfl) (Nat.le_of_ble_eq_true rfl)) ?_
        refine lt_cI_c (fun v2 m3 => ?_)
        refine Eq.trans (li_istore_n (ls' := [some (.inr (.inr (some a0))), some (.inl x1), some (.inr (.inr (some q1))), some (.inl v2)]) d121_58 (by decide) (by rfl)) ?_
        refine Eq.trans (li_aload_n d121_59 (by rfl)) ?_
        refine Eq.trans (li_iconst d121_60 ic_2) ?_
        refine Eq.trans (li_puti d121_61 fa_11_269 g1 rfl rfl) ?_
        refine Eq.trans (li_aload_n d121_64 (by rfl)) ?_
        refine Eq.trans (li_getr d121_65 fa_11_47 h0 rfl rfl rfl (by decide)) ?_
        refine Eq.trans (li_iconst d121_68 ic_3) ?_
        refine Eq.trans (li_aload_n d121_69 (by rfl)) ?_
        refine Eq.trans (li_ivV d121_70 ca_11_233 kd_111 kl_111 (by rfl) (by rfl) (sf_of h0 5 (by decide) (by decide)) (Nat.le_of_ble_eq_true rfl) (Nat.le_of_ble_eq_true rfl)) ?_
        refine lt_cV_c (fun m4 => ?_)
        refine Eq.trans (li_iload_n d121_73 (by rfl)) ?_
        exact li_iret d121_74 rfl
      · refine Eq.trans (li_bipush d121_33 bi_n3) ?_
        exact li_iret d121_35 rfl
    · refine Eq.trans (li_bipush d121_23 bi_n2) ?_
      exact li_iret d121_25 rfl
/-! TransitSeals$Movement.step(I)I -/
theorem d122_0 : decode Y122.2.1 0 = .ok (.aload_n 0, 1) := by decide +kernel
theorem d122_1 : decode Y122.2.1 1 = .ok (.getfield 9, 3) := by decide +kernel
theorem d122_4 : decode Y122.2.1 4 = .ok (.iconst 3, 1) := by decide +kernel
theorem d122_5 : decode Y122.2.1 5 = .ok (.if_icmp .ne 15, 3) := by decide +kernel
theorem d122_8 : decode Y122.2.1 8 = .ok (.iload_n 1, 1) := by decide +kernel
theorem d122_9 : decode Y122.2.1 9 = .ok (.aload_n 0, 1) := by decide +kernel
theorem d122_10 : decode Y122.2.1 10 = .ok (.getfield 48, 3) := by decide +kernel
theorem d122_13 : decode Y122.2.1 13 = .ok (.isub, 1) := by decide +kernel
theorem d122_14 : decode Y122.2.1 14 = .ok (.bipush 24, 2) := by decide +kernel
theorem d122_16 : decode Y122.2.1 16 = .ok (.idiv, 1) := by decide +kernel
theorem d122_17 : decode Y122.2.1 17 = .ok (.goto 4, 3) := by decide +kernel
theorem d122_20 : decode Y122.2.1 20 = .ok (.iconst 0, 1) := by decide +kernel
theorem d122_21 : decode Y122.2.1 21 = .ok (.ireturn, 1) := by decide +kernel
theorem E122 (d : Nat) (a0 : Nat) (x1 : Int32) (h0 : ts_sh a0 = (0, 4)) (m : lt_m) : lt_ev (d + 1) 122 [.inr (.inr (some a0)), .inl x1] m = if ¬ (m.1 a0 7) = (3 : Int32) then (some (some (.inl (0 : Int32)), m)) else (some (some (.inl ((x1 - (m.1 a0 6)) / (24 : Int32))), m)) := by
  refine Eq.trans (lt_enter2 (ls := [some (.inr (.inr (some a0))), some (.inl x1)]) hY122 (Nat.le_of_ble_eq_true rfl) (by rfl)) ?_
  refine Eq.trans (li_aload_n d122_0 (by rfl)) ?_
  refine Eq.trans (li_geti d122_1 fa_4_9 h0 rfl) ?_
  refine Eq.trans (li_iconst d122_4 ic_3) ?_
  refine Eq.trans (li_icmp_ne (t := 20) d122_5 (by rfl)) ?_
  refine lt_ite (fun c1 => ?_) (fun c1 => ?_)
  · refine Eq.trans (li_iconst d122_20 ic_0) ?_
    exact li_iret d122_21 rfl
  · refine Eq.trans (li_iload_n d122_8 (by rfl)) ?_
    refine Eq.trans (li_aload_n d122_9 (by rfl)) ?_
    refine Eq.trans (li_geti d122_10 fa_4_48 h0 rfl) ?_
    refine Eq.trans (li_isub d122_13) ?_
    refine Eq.trans (li_bipush d122_14 bi_24) ?_
    refine Eq.trans (li_idiv d122_16) ?_
    refine Eq.trans (lt_gd_t (by decide)) ?_
    refine Eq.trans (li_goto (t := 21) d122_17 (by rfl)) ?_
    exact li_iret d122_21 rfl
/-! TransitSeals.pays(I)I -/
theorem d123_0 : decode Y123.2.1 0 = .ok (.aload_n 0, 1) := by decide +kernel
theorem d123_1 : decode Y123.2.1 1 = .ok (.getfield 47, 3) := by decide +kernel
theorem d123_4 : decode Y123.2.1 4 = .ok (.iload_n 1, 1) := by decide +kernel
theorem d123_5 : decode Y123.2.1 5 = .ok (.invokevirtual 240, 3) := by decide +kernel
theorem d123_8 : decode Y123.2.1 8 = .ok (.astore_n 2, 1) := by decide +kernel
theorem d123_9 : decode Y123.2.1 9 = .ok (.aload_n 2, 1) := by decide +kernel
theorem d123_10 : decode Y123.2.1 10 = .ok (.ifnonnull 5, 3) := by decide +kernel
theorem d123_13 : decode Y123.2.1 13 = .ok (.iconst (-1), 1) := by decide +kernel
theorem d123_14 : decode Y123.2.1 14 = .ok (.ireturn, 1) := by decide +kernel
theorem d123_15 : decode Y123.2.1 15 = .ok (.aload_n 2, 1) := by decide +kernel
theorem d123_16 : decode Y123.2.1 16 = .ok (.getfield 269, 3) := by decide +kernel
theorem d123_19 : decode Y123.2.1 19 = .ok (.iconst 4, 1) := by decide +kernel
theorem d123_20 : decode Y123.2.1 20 = .ok (.if_icmp .eq 6, 3) := by decide +kernel
theorem d123_23 : decode Y123.2.1 23 = .ok (.bipush (-2), 2) := by decide +kernel
theorem d123_25 : decode Y123.2.1 25 = .ok (.ireturn, 1) := by decide +kernel
theorem d123_26 : decode Y123.2.1 26 = .ok (.aload_n 0, 1) := by decide +kernel
theorem d123_27 : decode Y123.2.1 27 = .ok (.getfield 54, 3) := by decide +kernel
theorem d123_30 : decode Y123.2.1 30 = .ok (.aload_n 0, 1) := by decide +kernel
theorem d123_31 : decode Y123.2.1 31 = .ok (.getfield 47, 3) := by decide +kernel
theorem d123_34 : decode Y123.2.1 34 = .ok (.invokevirtual 168, 3) := by decide +kernel
theorem d123_37 : decode Y123.2.1 37 = .ok (.aload_n 2, 1) := by decide +kernel
theorem d123_38 : decode Y123.2.1 38 = .ok (.iconst 5, 1) := by decide +kernel
theorem d123_39 : decode Y123.2.1 39 = .ok (.putfield 269, 3) := by decide +kernel
theorem d123_42 : decode Y123.2.1 42 = .ok (.aload_n 0, 1) := by decide +kernel
theorem d123_43 : decode Y123.2.1 43 = .ok (.getfield 47, 3) := by decide +kernel
theorem d123_46 : decode Y123.2.1 46 = .ok (.bipush 6, 2) := by decide +kernel
theorem d123_48 : decode Y123.2.1 48 = .ok (.aload_n 2, 1) := by decide +kernel
theorem d123_49 : decode Y123.2.1 49 = .ok (.invokevirtual 233, 3) := by decide +kernel
theorem d123_52 : decode Y123.2.1 52 = .ok (.aload_n 2, 1) := by decide +kernel
theorem d123_53 : decode Y123.2.1 53 = .ok (.getfield 278, 3) := by decide +kernel
theorem d123_56 : decode Y123.2.1 56 = .ok (.ireturn, 1) := by decide +kernel
theorem E123 (d : Nat) (a0 : Nat) (x1 : Int32) (h0 : ts_sh a0 = (0, 11)) (m : lt_m) : lt_ev (d + 1) 123 [.inr (.inr (some a0)), .inl x1] m = lt_cR (lt_ev d 114 [.inr (.inr (some (a0 + 13))), .inl x1] m) (fun v1 m1 => (lt_nl v1 (some (some (.inl (-1 : Int32)), m1)) (fun q1 => (lt_gd (ts_sh q1 = (0, 4)) (if (m1.1 q1 7) = (4 : Int32) then (lt_cV (lt_ev d 81 [.inr (.inr (some (a0 + 81))), .inr (.inr (some (a0 + 13)))] m1) (fun m2 => (lt_cV (lt_ev d 111 [.inr (.inr (some (a0 + 13))), .inl (6 : Int32), .inr (.inr (some q1))] (lm_i m2 q1 7 (5 : Int32))) (fun m3 => (some (some (.inl (m3.1 q1 10)), m3)))))) else (some (some (.inl (-2 : Int32)), m1))))))) := by
  refine Eq.trans (lt_enter2 (ls := [some (.inr (.inr (some a0))), some (.inl x1), none]) hY123 (Nat.le_of_ble_eq_true rfl) (by rfl)) ?_
  refine Eq.trans (li_aload_n d123_0 (by rfl)) ?_
  refine Eq.trans (li_getr d123_1 fa_11_47 h0 rfl rfl rfl (by decide)) ?_
  refine Eq.trans (li_iload_n d123_4 (by rfl)) ?_
  refine Eq.trans (li_ivR d123_5 ca_11_240 kd_114 kl_114 (by rfl) (by rfl) (sf_of h0 5 (by decide) (by decide)) (Nat.le_of_ble_eq_true rfl) (Nat.le_of_ble_eq_true rfl)) ?_
  refine lt_cR_c (fun v1 m1 => ?_)
  refine Eq.trans (li_astore_n (ls' := [some (.inr (.inr (some a0))), some (.inl x1), some (.inr (.inr v1))]) d123_8 (by decide) (by rfl)) ?_
  refine Eq.trans (li_aload_n d123_9 (by rfl)) ?_
  refine lt_nl_x (F := fun oz => lt_run d Y123 10 [some (.inr (.inr (some a0))), some (.inl x1), some (.inr (.inr oz))] [.inr (.inr oz)] m1) ?_ (fun q1 => ?_)
  · refine Eq.trans (li_ifnonnull_n d123_10) ?_
    refine Eq.trans (li_iconst d123_13 ic_n1) ?_
    exact li_iret d123_14 rfl
  · refine Eq.trans (li_ifnonnull_s (t := 15) d123_10 (by rfl)) ?_
    refine Eq.trans (li_aload_n d123_15 (by rfl)) ?_
    refine Eq.trans (li_gget d123_16 fa_11_269) ?_
    refine lt_gd_c (fun g1 => ?_)
    refine Eq.trans (li_geti d123_16 fa_11_269 g1 rfl) ?_
    refine Eq.trans (li_iconst d123_19 ic_4) ?_
    refine Eq.trans (li_icmp_eq (t := 26) d123_20 (by rfl)) ?_
    refine lt_ite (fun c1 => ?_) (fun c1 => ?_)
    · refine Eq.trans (li_aload_n d123_26 (by rfl)) ?_
      refine Eq.trans (li_getr d123_27 fa_11_54 h0 rfl rfl rfl (by decide)) ?_
      refine Eq.trans (li_aload_n d123_30 (by rfl)) ?_
      refine Eq.trans (li_getr d123_31 fa_11_47 h0 rfl rfl rfl (by decide)) ?_
      refine Eq.trans (li_ivV d123_34 ca_11_168 kd_81 kl_81 (by rfl) (by rfl) (sf_of h0 6 (by decide) (by decide)) (Nat.le_of_ble_eq_true rfl) (Nat.le_of_ble_eq_true rfl)) ?_
      refine lt_cV_c (fun m2 => ?_)
      refine Eq.trans (li_aload_n d123_37 (by rfl)) ?_
      refine Eq.trans (li_iconst d123_38 ic_5) ?_
      refine Eq.trans (li_puti d123_39 fa_11_269 g1 rfl rfl) ?_
      refine Eq.trans (li_aload_n d123_42 (by rfl)) ?_
      refine Eq.trans (li_getr d123_43 fa_11_47 h0 rfl rfl rfl (by decide)) ?_
      refine Eq.trans (li_bipush d123_46 bi_6) ?_
      refine Eq.trans (li_aload_n d123_48 (by rfl)) ?_
      refine Eq.trans (li_ivV d123_49 ca_11_233 kd_111 kl_111 (by rfl) (by rfl) (sf_of h0 5 (by decide) (by decide)) (Nat.le_of_ble_eq_true rfl) (Nat.le_of_ble_eq_true rfl)) ?_
      refine lt_cV_c (fun m3 => ?_)
      refine Eq.trans (li_aload_n d123_52 (by rfl)) ?_
      refine Eq.trans (li_geti d123_53 fa_11_278 g1 rfl) ?_
      exact li_iret d123_56 rfl
    · refine Eq.trans (li_bipush d123_23 bi_n2) ?_
      exact li_iret d123_25 rfl
/-! TransitSeals.hours(I)I -/
theorem d124_0 : decode Y124.2.1 0 = .ok (.iload_n 1, 1) := by decide +kernel
theorem d124_1 : decode Y124.2.1 1 = .ok (.iconst 1, 1) := by decide +kernel
theorem d124_2 : decode Y124.2.1 2 = .ok (.if_icmp .lt 25, 3) := by decide +kernel
theorem d124_5 : decode Y124.2.1 5 = .ok (.iload_n 1, 1) := by decide +kernel
theorem d124_6 : decode Y124.2.1 6 = .ok (.sipush 999, 3) := by decide +kernel
theorem d124_9 : decode Y124.2.1 9 = .ok (.if_icmp .gt 18, 3) := by decide +kernel
theorem d124_12 : decode Y124.2.1 12 = .ok (.aload_n 0, 1) := by decide +kernel
theorem d124_13 : decode Y124.2.1 13 = .ok (.getfield 47, 3) := by decide +kernel
theorem d124_16 : decode Y124.2.1 16 = .ok (.getfield 223, 3) := by decide +kernel
theorem d124_19 : decode Y124.2.1 19 = .ok (.iload_n 1, 1) := by decide +kernel
theorem d124_20 : decode Y124.2.1 20 = .ok (.iadd, 1) := by decide +kernel
theorem d124_21 : decode Y124.2.1 21 = .ok (.ldc_w 284, 3) := by decide +kernel
theorem d124_24 : decode Y124.2.1 24 = .ok (.if_icmp .le 5, 3) := by decide +kernel
theorem d124_27 : decode Y124.2.1 27 = .ok (.iconst (-1), 1) := by decide +kernel
theorem d124_28 : decode Y124.2.1 28 = .ok (.ireturn, 1) := by decide +kernel
theorem d124_29 : decode Y124.2.1 29 = .ok (.aload_n 0, 1) := by decide +kernel
theorem d124_30 : decode Y124.2.1 30 = .ok (.getfield 54, 3) := by decide +kernel
theorem d124_33 : decode Y124.2.1 33 = .ok (.aload_n 0, 1) := by decide +kernel
theorem d124_34 : decode Y124.2.1 34 = .ok (.getfield 47, 3) := by decide +kernel
theorem d124_37 : decode Y124.2.1 37 = .ok (.invokevirtual 168, 3) := by decide +kernel
theorem d124_40 : decode Y124.2.1 40 = .ok (.aload_n 0, 1) := by decide +kernel
theorem d124_41 : decode Y124.2.1 41 = .ok (.getfield 47, 3) := by decide +kernel
theorem d124_44 : decode Y124.2.1 44 = .ok (.iload_n 1, 1) := by decide +kernel
theorem d124_45 : decode Y124.2.1 45 = .ok (.invokevirtual 285, 3) := by decide +kernel
theorem d124_48 : decode Y124.2.1 48 = .ok (.ireturn, 1) := by decide +kernel
theorem E124 (d : Nat) (a0 : Nat) (x1 : Int32) (h0 : ts_sh a0 = (0, 11)) (m : lt_m) : lt_ev (d + 1) 124 [.inr (.inr (some a0)), .inl x1] m = if x1 < (1 : Int32) then (some (some (.inl (-1 : Int32)), m)) else (if (999 : Int32) < x1 then (some (some (.inl (-1 : Int32)), m)) else (if ((m.1 (a0 + 13) 4) + x1) ≤ (99999 : Int32) then (lt_cV (lt_ev d 81 [.inr (.inr (some (a0 + 81))), .inr (.inr (some (a0 + 13)))] m) (fun m1 => (lt_cI (lt_ev d 125 [.inr (.inr (some (a0 + 13))), .inl x1] m1) (fun v1 m2 => (some (some (.inl v1), m2)))))) else (some (some (.inl (-1 : Int32)), m)))) := by
  refine Eq.trans (lt_enter2 (ls := [some (.inr (.inr (some a0))), some (.inl x1)]) hY124 (Nat.le_of_ble_eq_true rfl) (by rfl)) ?_
  refine Eq.trans (li_iload_n d124_0 (by rfl)) ?_
  refine Eq.trans (li_iconst d124_1 ic_1) ?_
  refine Eq.trans (li_icmp_lt (t := 27) d124_2 (by rfl)) ?_
  refine lt_ite (fun c1 => ?_) (fun c1 => ?_)
  · refine Eq.trans (li_iconst d124_27 ic_n1) ?_
    exact li_iret d124_28 rfl
  · refine Eq.trans (li_iload_n d124_5 (by rfl)) ?_
    refine Eq.trans (li_sipush d124_6 si_999) ?_
    refine Eq.trans (li_icmp_gt (t := 27) d124_9 (by rfl)) ?_
    refine lt_ite (fun c2 => ?_) (fun c2 => ?_)
    · refine Eq.trans (li_iconst d124_27 ic_n1) ?_
      exact li_iret d124_28 rfl
    · refine Eq.trans (li_aload_n d124_12 (by rfl)) ?_
      refine Eq.trans (li_getr d124_13 fa_11_47 h0 rfl rfl rfl (by decide)) ?_
      refine Eq.trans (li_geti d124_16 fa_11_223 (sf_of h0 5 (by decide) (by decide)) rfl) ?_
      refine Eq.trans (li_iload_n d124_19 (by rfl)) ?_
      refine Eq.trans (li_iadd d124_20) ?_
      refine Eq.trans (li_ldc_w d124_21 cI_11_284) ?_
      refine Eq.trans (li_icmp_le (t := 29) d124_24 (by rfl)) ?_
      refine lt_ite (fun c3 => ?_) (fun c3 => ?_)
      · refine Eq.trans (li_aload_n d124_29 (by rfl)) ?_
        refine Eq.trans (li_getr d124_30 fa_11_54 h0 rfl rfl rfl (by decide)) ?_
        refine Eq.trans (li_aload_n d124_33 (by rfl)) ?_
        refine Eq.trans (li_getr d124_34 fa_11_47 h0 rfl rfl rfl (by decide)) ?_
        refine Eq.trans (li_ivV d124_37 ca_11_168 kd_81 kl_81 (by rfl) (by rfl) (sf_of h0 6 (by decide) (by decide)) (Nat.le_of_ble_eq_true rfl) (Nat.le_of_ble_eq_true rfl)) ?_
        refine lt_cV_c (fun m1 => ?_)
        refine Eq.trans (li_aload_n d124_40 (by rfl)) ?_
        refine Eq.trans (li_getr d124_41 fa_11_47 h0 rfl rfl rfl (by decide)) ?_
        refine Eq.trans (li_iload_n d124_44 (by rfl)) ?_
        refine Eq.trans (li_ivI d124_45 ca_11_285 kd_125 kl_125 (by rfl) (by rfl) (sf_of h0 5 (by decide) (by decide)) (Nat.le_of_ble_eq_true rfl) (Nat.le_of_ble_eq_true rfl)) ?_
        refine lt_cI_c (fun v1 m2 => ?_)
        exact li_iret d124_48 rfl
      · refine Eq.trans (li_iconst d124_27 ic_n1) ?_
        exact li_iret d124_28 rfl
/-! TransitSeals$Ledger.letPass(I)I -/
theorem d125_0 : decode Y125.2.1 0 = .ok (.aload_n 0, 1) := by decide +kernel
theorem d125_1 : decode Y125.2.1 1 = .ok (.getfield 34, 3) := by decide +kernel
theorem d125_4 : decode Y125.2.1 4 = .ok (.iload_n 1, 1) := by decide +kernel
theorem d125_5 : decode Y125.2.1 5 = .ok (.iadd, 1) := by decide +kernel
theorem d125_6 : decode Y125.2.1 6 = .ok (.istore_n 2, 1) := by decide +kernel
theorem d125_7 : decode Y125.2.1 7 = .ok (.iconst 0, 1) := by decide +kernel
theorem d125_8 : decode Y125.2.1 8 = .ok (.istore_n 3, 1) := by decide +kernel
theorem d125_9 : decode Y125.2.1 9 = .ok (.iconst 0, 1) := by decide +kernel
theorem d125_10 : decode Y125.2.1 10 = .ok (.istore 4, 2) := by decide +kernel
theorem d125_12 : decode Y125.2.1 12 = .ok (.iload 4, 2) := by decide +kernel
theorem d125_14 : decode Y125.2.1 14 = .ok (.bipush 40, 2) := by decide +kernel
theorem d125_16 : decode Y125.2.1 16 = .ok (.if_icmp .ge 38, 3) := by decide +kernel
theorem d125_19 : decode Y125.2.1 19 = .ok (.aload_n 0, 1) := by decide +kernel
theorem d125_20 : decode Y125.2.1 20 = .ok (.iload_n 2, 1) := by decide +kernel
theorem d125_21 : decode Y125.2.1 21 = .ok (.invokevirtual 124, 3) := by decide +kernel
theorem d125_24 : decode Y125.2.1 24 = .ok (.astore 5, 2) := by decide +kernel
theorem d125_26 : decode Y125.2.1 26 = .ok (.aload 5, 2) := by decide +kernel
theorem d125_28 : decode Y125.2.1 28 = .ok (.ifnonnull 6, 3) := by decide +kernel
theorem d125_31 : decode Y125.2.1 31 = .ok (.goto 23, 3) := by decide +kernel
theorem d125_34 : decode Y125.2.1 34 = .ok (.aload_n 0, 1) := by decide +kernel
theorem d125_35 : decode Y125.2.1 35 = .ok (.aload 5, 2) := by decide +kernel
theorem d125_37 : decode Y125.2.1 37 = .ok (.invokevirtual 127, 3) := by decide +kernel
theorem d125_40 : decode Y125.2.1 40 = .ok (.iload_n 3, 1) := by decide +kernel
theorem d125_41 : decode Y125.2.1 41 = .ok (.aload 5, 2) := by decide +kernel
theorem d125_43 : decode Y125.2.1 43 = .ok (.invokevirtual 87, 3) := by decide +kernel
theorem d125_46 : decode Y125.2.1 46 = .ok (.ior, 1) := by decide +kernel
theorem d125_47 : decode Y125.2.1 47 = .ok (.istore_n 3, 1) := by decide +kernel
theorem d125_48 : decode Y125.2.1 48 = .ok (.iinc 4 1, 3) := by decide +kernel
theorem d125_51 : decode Y125.2.1 51 = .ok (.goto (-39), 3) := by decide +kernel
theorem d125_54 : decode Y125.2.1 54 = .ok (.aload_n 0, 1) := by decide +kernel
theorem d125_55 : decode Y125.2.1 55 = .ok (.iload_n 2, 1) := by decide +kernel
theorem d125_56 : decode Y125.2.1 56 = .ok (.putfield 34, 3) := by decide +kernel
theorem d125_59 : decode Y125.2.1 59 = .ok (.iload_n 3, 1) := by decide +kernel
theorem d125_60 : decode Y125.2.1 60 = .ok (.invokestatic 130, 3) := by decide +kernel
theorem d125_63 : decode Y125.2.1 63 = .ok (.ireturn, 1) := by decide +kernel
noncomputable def L125_12 (d : Nat) (a0 : Nat) (x1 : Int32) (x2 : Int32) (x3 : Int32) (x4 : Int32) (o5 : Option ts_V) (m : lt_m) : Option lt_r := lt_run d Y125 12 [some (.inr (.inr (some a0))), some (.inl x1), some (.inl x2), some (.inl x3), some (.inl x4), o5] [] m
theorem E125 (d : Nat) (a0 : Nat) (x1 : Int32) (h0 : ts_sh a0 = (0, 2)) (m : lt_m) : lt_ev (d + 1) 125 [.inr (.inr (some a0)), .inl x1] m = L125_12 d a0 x1 ((m.1 a0 4) + x1) (0 : Int32) (0 : Int32) none m := by
  refine Eq.trans (lt_enter2 (ls := [some (.inr (.inr (some a0))), some (.inl x1), none, none, none, none]) hY125 (Nat.le_of_ble_eq_true rfl) (by rfl)) ?_
  refine Eq.trans (li_aload_n d125_0 (by rfl)) ?_
  refine Eq.trans (li_geti d125_1 fa_2_34 h0 rfl) ?_
  refine Eq.trans (li_iload_n d125_4 (by rfl)) ?_
  refine Eq.trans (li_iadd d125_5) ?_
  refine Eq.trans (li_istore_n (ls' := [some (.inr (.inr (some a0))), some (.inl x1), some (.inl ((m.1 a0 4) + x1)), none, none, none]) d125_6 (by decide) (by rfl)) ?_
  refine Eq.trans (li_iconst d125_7 ic_0) ?_
  refine Eq.trans (li_istore_n (ls' := [some (.inr (.inr (some a0))), some (.inl x1), some (.inl ((m.1 a0 4) + x1)), some (.inl (0 : Int32)), none, none]) d125_8 (by decide) (by rfl)) ?_
  refine Eq.trans (li_iconst d125_9 ic_0) ?_
  refine Eq.trans (li_istore (ls' := [some (.inr (.inr (some a0))), some (.inl x1), some (.inl ((m.1 a0 4) + x1)), some (.inl (0 : Int32)), some (.inl (0 : Int32)), none]) d125_10 (by decide) (by rfl)) ?_
  rfl
theorem E125_12 (d : Nat) (a0 : Nat) (x1 : Int32) (x2 : Int32) (x3 : Int32) (x4 : Int32) (o5 : Option ts_V) (h0 : ts_sh a0 = (0, 2)) (m : lt_m) : L125_12 d a0 x1 x2 x3 x4 o5 m = if (40 : Int32) ≤ x4 then (lt_cI (lt_ev d 60 [.inl x3] (lm_i m a0 4 x2)) (fun v1 m1 => (some (some (.inl v1), m1)))) else (lt_cR (lt_ev d 126 [.inr (.inr (some a0)), .inl x2] m) (fun v2 m2 => (lt_nl v2 (lt_cI (lt_ev d 60 [.inl x3] (lm_i m2 a0 4 x2)) (fun v3 m3 => (some (some (.inl v3), m3)))) (fun q1 => (lt_cV (lt_ev d 128 [.inr (.inr (some a0)), .inr (.inr (some q1))] m2) (fun m4 => (lt_gd (ts_sh q1 = (0, 4)) (lt_cI (lt_ev d 65 [.inr (.inr (some q1))] m4) (fun v4 m5 => (L125_12 d a0 x1 x2 (x3 ||| v4) (x4 + (1 : Int32)) (some (.inr (.inr (some q1)))) m5)))))))))) := by
  show lt_run d Y125 12 [some (.inr (.inr (some a0))), some (.inl x1), some (.inl x2), some (.inl x3), some (.inl x4), o5] [] m = _
  refine Eq.trans (li_iload d125_12 (by rfl)) ?_
  refine Eq.trans (li_bipush d125_14 bi_40) ?_
  refine Eq.trans (li_icmp_ge (t := 54) d125_16 (by rfl)) ?_
  refine lt_ite (fun c1 => ?_) (fun c1 => ?_)
  · refine Eq.trans (li_aload_n d125_54 (by rfl)) ?_
    refine Eq.trans (li_iload_n d125_55 (by rfl)) ?_
    refine Eq.trans (li_puti d125_56 fa_2_34 h0 rfl rfl) ?_
    refine Eq.trans (li_iload_n d125_59 (by rfl)) ?_
    refine Eq.trans (li_isI d125_60 bi_2_130 ca_2_130 kd_60 (by rfl) (by rfl) (Nat.le_of_ble_eq_true rfl) (Nat.le_of_ble_eq_true rfl)) ?_
    refine lt_cI_c (fun v1 m1 => ?_)
    exact li_iret d125_63 rfl
  · refine Eq.trans (li_aload_n d125_19 (by rfl)) ?_
    refine Eq.trans (li_iload_n d125_20 (by rfl)) ?_
    refine Eq.trans (li_ivR d125_21 ca_2_124 kd_126 kl_126 (by rfl) (by rfl) h0 (Nat.le_of_ble_eq_true rfl) (Nat.le_of_ble_eq_true rfl)) ?_
    refine lt_cR_c (fun v2 m2 => ?_)
    refine Eq.trans (li_astore (ls' := [some (.inr (.inr (some a0))), some (.inl x1), some (.inl x2), some (.inl x3), some (.inl x4), some (.inr (.inr v2))]) d125_24 (by decide) (by rfl)) ?_
    refine Eq.trans (li_aload d125_26 (by rfl)) ?_
    refine lt_nl_x (F := fun oz => lt_run d Y125 28 [some (.inr (.inr (some a0))), some (.inl x1), some (.inl x2), some (.inl x3), some (.inl x4), some (.inr (.inr oz))] [.inr (.inr oz)] m2) ?_ (fun q1 => ?_)
    · refine Eq.trans (li_ifnonnull_n d125_28) ?_
      refine Eq.trans (li_goto (t := 54) d125_31 (by rfl)) ?_
      refine Eq.trans (li_aload_n d125_54 (by rfl)) ?_
      refine Eq.trans (li_iload_n d125_55 (by rfl)) ?_
      refine Eq.trans (li_puti d125_56 fa_2_34 h0 rfl rfl) ?_
      refine Eq.trans (li_iload_n d125_59 (by rfl)) ?_
      refine Eq.trans (li_isI d125_60 bi_2_130 ca_2_130 kd_60 (by rfl) (by rfl) (Nat.le_of_ble_eq_true rfl) (Nat.le_of_ble_eq_true rfl)) ?_
      refine lt_cI_c (fun v3 m3 => ?_)
      exact li_iret d125_63 rfl
    · refine Eq.trans (li_ifnonnull_s (t := 34) d125_28 (by rfl)) ?_
      refine Eq.trans (li_aload_n d125_34 (by rfl)) ?_
      refine Eq.trans (li_aload d125_35 (by rfl)) ?_
      refine Eq.trans (li_ivV d125_37 ca_2_127 kd_128 kl_128 (by rfl) (by rfl) h0 (Nat.le_of_ble_eq_true rfl) (Nat.le_of_ble_eq_true rfl)) ?_
      refine lt_cV_c (fun m4 => ?_)
      refine Eq.trans (li_iload_n d125_40 (by rfl)) ?_
      refine Eq.trans (li_aload d125_41 (by rfl)) ?_
      refine Eq.trans (li_ginv d125_43 ca_2_87 kl_65 (by rfl)) ?_
      refine lt_gd_c (fun g1 => ?_)
      refine Eq.trans (li_ivI d125_43 ca_2_87 kd_65 kl_65 (by rfl) (by rfl) g1 (Nat.le_of_ble_eq_true rfl) (Nat.le_of_ble_eq_true rfl)) ?_
      refine lt_cI_c (fun v4 m5 => ?_)
      refine Eq.trans (li_ior d125_46) ?_
      refine Eq.trans (li_istore_n (ls' := [some (.inr (.inr (some a0))), some (.inl x1), some (.inl x2), some (.inl (x3 ||| v4)), some (.inl x4), some (.inr (.inr (some q1)))]) d125_47 (by decide) (by rfl)) ?_
      refine Eq.trans (li_iinc (ls' := [some (.inr (.inr (some a0))), some (.inl x1), some (.inl x2), some (.inl (x3 ||| v4)), some (.inl (x4 + (1 : Int32))), some (.inr (.inr (some q1)))]) d125_48 (by rfl) (by decide) ic_1 (by rfl)) ?_
      refine Eq.trans (li_goto (t := 12) d125_51 (by rfl)) ?_
      rfl
/-! TransitSeals$Ledger.firstToChange(I)LTransitSeals$Movement; -/
theorem d126_0 : decode Y126.2.1 0 = .ok (.aconst_null, 1) := by decide +kernel
theorem d126_1 : decode Y126.2.1 1 = .ok (.astore_n 2, 1) := by decide +kernel
theorem d126_2 : decode Y126.2.1 2 = .ok (.aload_n 0, 1) := by decide +kernel
theorem d126_3 : decode Y126.2.1 3 = .ok (.getfield 20, 3) := by decide +kernel
theorem d126_6 : decode Y126.2.1 6 = .ok (.astore_n 3, 1) := by decide +kernel
theorem d126_7 : decode Y126.2.1 7 = .ok (.aload_n 3, 1) := by decide +kernel
theorem d126_8 : decode Y126.2.1 8 = .ok (.arraylength, 1) := by decide +kernel
theorem d126_9 : decode Y126.2.1 9 = .ok (.istore 4, 2) := by decide +kernel
theorem d126_11 : decode Y126.2.1 11 = .ok (.iconst 0, 1) := by decide +kernel
theorem d126_12 : decode Y126.2.1 12 = .ok (.istore 5, 2) := by decide +kernel
theorem d126_14 : decode Y126.2.1 14 = .ok (.iload 5, 2) := by decide +kernel
theorem d126_16 : decode Y126.2.1 16 = .ok (.iload 4, 2) := by decide +kernel
theorem d126_18 : decode Y126.2.1 18 = .ok (.if_icmp .ge 43, 3) := by decide +kernel
theorem d126_21 : decode Y126.2.1 21 = .ok (.aload_n 3, 1) := by decide +kernel
theorem d126_22 : decode Y126.2.1 22 = .ok (.iload 5, 2) := by decide +kernel
theorem d126_24 : decode Y126.2.1 24 = .ok (.aaload, 1) := by decide +kernel
theorem d126_25 : decode Y126.2.1 25 = .ok (.astore 6, 2) := by decide +kernel
theorem d126_27 : decode Y126.2.1 27 = .ok (.aload 6, 2) := by decide +kernel
theorem d126_29 : decode Y126.2.1 29 = .ok (.invokevirtual 135, 3) := by decide +kernel
theorem d126_32 : decode Y126.2.1 32 = .ok (.iload_n 1, 1) := by decide +kernel
theorem d126_33 : decode Y126.2.1 33 = .ok (.if_icmp .gt 22, 3) := by decide +kernel
theorem d126_36 : decode Y126.2.1 36 = .ok (.aload_n 2, 1) := by decide +kernel
theorem d126_37 : decode Y126.2.1 37 = .ok (.ifnull 15, 3) := by decide +kernel
theorem d126_40 : decode Y126.2.1 40 = .ok (.aload 6, 2) := by decide +kernel
theorem d126_42 : decode Y126.2.1 42 = .ok (.invokevirtual 135, 3) := by decide +kernel
theorem d126_45 : decode Y126.2.1 45 = .ok (.aload_n 2, 1) := by decide +kernel
theorem d126_46 : decode Y126.2.1 46 = .ok (.invokevirtual 135, 3) := by decide +kernel
theorem d126_49 : decode Y126.2.1 49 = .ok (.if_icmp .ge 6, 3) := by decide +kernel
theorem d126_52 : decode Y126.2.1 52 = .ok (.aload 6, 2) := by decide +kernel
theorem d126_54 : decode Y126.2.1 54 = .ok (.astore_n 2, 1) := by decide +kernel
theorem d126_55 : decode Y126.2.1 55 = .ok (.iinc 5 1, 3) := by decide +kernel
theorem d126_58 : decode Y126.2.1 58 = .ok (.goto (-44), 3) := by decide +kernel
theorem d126_61 : decode Y126.2.1 61 = .ok (.aload_n 2, 1) := by decide +kernel
theorem d126_62 : decode Y126.2.1 62 = .ok (.areturn, 1) := by decide +kernel
noncomputable def L126_14 (d : Nat) (a0 : Nat) (x1 : Int32) (q2 : Option Nat) (x5 : Int32) (o6 : Option ts_V) (m : lt_m) : Option lt_r := lt_run d Y126 14 [some (.inr (.inr (some a0))), some (.inl x1), some (.inr (.inr q2)), some (.inr (.inr (some (a0 + 3)))), some (.inl (20 : Int32)), some (.inl x5), o6] [] m
theorem E126 (d : Nat) (a0 : Nat) (x1 : Int32) (h0 : ts_sh a0 = (0, 2)) (m : lt_m) : lt_ev (d + 1) 126 [.inr (.inr (some a0)), .inl x1] m = L126_14 d a0 x1 none (0 : Int32) none m := by
  refine Eq.trans (lt_enter2 (ls := [some (.inr (.inr (some a0))), some (.inl x1), none, none, none, none, none]) hY126 (Nat.le_of_ble_eq_true rfl) (by rfl)) ?_
  refine Eq.trans (li_null d126_0) ?_
  refine Eq.trans (li_astore_n (ls' := [some (.inr (.inr (some a0))), some (.inl x1), some (.inr (.inr none)), none, none, none, none]) d126_1 (by decide) (by rfl)) ?_
  refine Eq.trans (li_aload_n d126_2 (by rfl)) ?_
  refine Eq.trans (li_getr d126_3 fa_2_20 h0 rfl rfl rfl (by decide)) ?_
  refine Eq.trans (li_astore_n (ls' := [some (.inr (.inr (some a0))), some (.inl x1), some (.inr (.inr none)), some (.inr (.inr (some (a0 + 3)))), none, none, none]) d126_6 (by decide) (by rfl)) ?_
  refine Eq.trans (li_aload_n d126_7 (by rfl)) ?_
  refine Eq.trans (li_alen d126_8 (sf_of h0 2 (by decide) (by decide)) (by decide) (by rfl)) ?_
  refine Eq.trans (li_istore (ls' := [some (.inr (.inr (some a0))), some (.inl x1), some (.inr (.inr none)), some (.inr (.inr (some (a0 + 3)))), some (.inl (20 : Int32)), none, none]) d126_9 (by decide) (by rfl)) ?_
  refine Eq.trans (li_iconst d126_11 ic_0) ?_
  refine Eq.trans (li_istore (ls' := [some (.inr (.inr (some a0))), some (.inl x1), some (.inr (.inr none)), some (.inr (.inr (some (a0 + 3)))), some (.inl (20 : Int32)), some (.inl (0 : Int32)), none]) d126_12 (by decide) (by rfl)) ?_
  rfl
theorem E126_14 (d : Nat) (a0 : Nat) (x1 : Int32) (q2 : Option Nat) (x5 : Int32) (o6 : Option ts_V) (h0 : ts_sh a0 = (0, 2)) (m : lt_m) : L126_14 d a0 x1 q2 x5 o6 m = if (20 : Int32) ≤ x5 then (some (some (.inr (.inr q2)), m)) else (lt_gd (0 ≤ x5 ∧ (x5).toNatClampNeg < 20) (lt_cI (lt_ev d 127 [.inr (.inr (some ((a0 + 3) + 5 + 3 * (x5).toNatClampNeg)))] m) (fun v1 m1 => (if x1 < v1 then (L126_14 d a0 x1 q2 (x5 + (1 : Int32)) (some (.inr (.inr (some ((a0 + 3) + 5 + 3 * (x5).toNatClampNeg))))) m1) else (lt_nl q2 (L126_14 d a0 x1 (some ((a0 + 3) + 5 + 3 * (x5).toNatClampNeg)) (x5 + (1 : Int32)) (some (.inr (.inr (some ((a0 + 3) + 5 + 3 * (x5).toNatClampNeg))))) m1) (fun q1 => (lt_cI (lt_ev d 127 [.inr (.inr (some ((a0 + 3) + 5 + 3 * (x5).toNatClampNeg)))] m1) (fun v2 m2 => (lt_gd (ts_sh q1 = (0, 4)) (lt_cI (lt_ev d 127 [.inr (.inr (some q1))] m2) (fun v3 m3 => (if v3 ≤ v2 then (L126_14 d a0 x1 (some q1) (x5 + (1 : Int32)) (some (.inr (.inr (some ((a0 + 3) + 5 + 3 * (x5).toNatClampNeg))))) m3) else (L126_14 d a0 x1 (some ((a0 + 3) + 5 + 3 * (x5).toNatClampNeg)) (x5 + (1 : Int32)) (some (.inr (.inr (some ((a0 + 3) + 5 + 3 * (x5).toNatClampNeg))))) m3))))))))))))) := by
  show lt_run d Y126 14 [some (.inr (.inr (some a0))), some (.inl x1), some (.inr (.inr q2)), some (.inr (.inr (some (a0 + 3)))), some (.inl (20 : Int32)), some (.inl x5), o6] [] m = _
  refine Eq.trans (li_iload d126_14 (by rfl)) ?_
  refine Eq.trans (li_iload d126_16 (by rfl)) ?_
  refine Eq.trans (li_icmp_ge (t := 61) d126_18 (by rfl)) ?_
  refine lt_ite (fun c1 => ?_) (fun c1 => ?_)
  · refine Eq.trans (li_aload_n d126_61 (by rfl)) ?_
    exact li_aret d126_62 rfl
  · refine Eq.trans (li_aload_n d126_21 (by rfl)) ?_
    refine Eq.trans (li_iload d126_22 (by rfl)) ?_
    refine Eq.trans (li_aald4 d126_24 (sf_of h0 2 (by decide) (by decide))) ?_
    refine lt_gd_c (fun g1 => ?_)
    refine Eq.trans (li_astore (ls' := [some (.inr (.inr (some a0))), some (.inl x1), some (.inr (.inr q2)), some (.inr (.inr (some (a0 + 3)))), some (.inl (20 : Int32)), some (.inl x5), some (.inr (.inr (some ((a0 + 3) + 5 + 3 * (x5).toNatClampNeg))))]) d126_25 (by decide) (by rfl)) ?_
    refine Eq.trans (li_aload d126_27 (by rfl)) ?_
    refine Eq.trans (li_ivI d126_29 ca_2_135 kd_127 kl_127 (by rfl) (by rfl) (sm_4 (sf_of h0 2 (by decide) (by decide)) g1.2) (Nat.le_of_ble_eq_true rfl) (Nat.le_of_ble_eq_true rfl)) ?_
    refine lt_cI_c (fun v1 m1 => ?_)
    refine Eq.trans (li_iload_n d126_32 (by rfl)) ?_
    refine Eq.trans (li_icmp_gt (t := 55) d126_33 (by rfl)) ?_
    refine lt_ite (fun c2 => ?_) (fun c2 => ?_)
    · refine Eq.trans (li_iinc (ls' := [some (.inr (.inr (some a0))), some (.inl x1), some (.inr (.inr q2)), some (.inr (.inr (some (a0 + 3)))), some (.inl (20 : Int32)), some (.inl (x5 + (1 : Int32))), some (.inr (.inr (some ((a0 + 3) + 5 + 3 * (x5).toNatClampNeg))))]) d126_55 (by rfl) (by decide) ic_1 (by rfl)) ?_
      refine Eq.trans (li_goto (t := 14) d126_58 (by rfl)) ?_
      rfl
    · refine Eq.trans (li_aload_n d126_36 (by rfl)) ?_
      refine lt_nl_x (F := fun oz => lt_run d Y126 37 [some (.inr (.inr (some a0))), some (.inl x1), some (.inr (.inr oz)), some (.inr (.inr (some (a0 + 3)))), some (.inl (20 : Int32)), some (.inl x5), some (.inr (.inr (some ((a0 + 3) + 5 + 3 * (x5).toNatClampNeg))))] [.inr (.inr oz)] m1) ?_ (fun q1 => ?_)
      · refine Eq.trans (li_ifnull_n (t := 52) d126_37 (by rfl)) ?_
        refine Eq.trans (li_aload d126_52 (by rfl)) ?_
        refine Eq.trans (li_astore_n (ls' := [some (.inr (.inr (some a0))), some (.inl x1), some (.inr (.inr (some ((a0 + 3) + 5 + 3 * (x5).toNatClampNeg)))), some (.inr (.inr (some (a0 + 3)))), some (.inl (20 : Int32)), some (.inl x5), some (.inr (.inr (some ((a0 + 3) + 5 + 3 * (x5).toNatClampNeg))))]) d126_54 (by decide) (by rfl)) ?_
        refine Eq.trans (li_iinc (ls' := [some (.inr (.inr (some a0))), some (.inl x1), some (.inr (.inr (some ((a0 + 3) + 5 + 3 * (x5).toNatClampNeg)))), some (.inr (.inr (some (a0 + 3)))), some (.inl (20 : Int32)), some (.inl (x5 + (1 : Int32))), some (.inr (.inr (some ((a0 + 3) + 5 + 3 * (x5).toNatClampNeg))))]) d126_55 (by rfl) (by decide) ic_1 (by rfl)) ?_
        refine Eq.trans (li_goto (t := 14) d126_58 (by rfl)) ?_
        rfl
      · refine Eq.trans (li_ifnull_s d126_37) ?_
        refine Eq.trans (li_aload d126_40 (by rfl)) ?_
        refine Eq.trans (li_ivI d126_42 ca_2_135 kd_127 kl_127 (by rfl) (by rfl) (sm_4 (sf_of h0 2 (by decide) (by decide)) g1.2) (Nat.le_of_ble_eq_true rfl) (Nat.le_of_ble_eq_true rfl)) ?_
        refine lt_cI_c (fun v2 m2 => ?_)
        refine Eq.trans (li_aload_n d126_45 (by rfl)) ?_
        refine Eq.trans (li_ginv d126_46 ca_2_135 kl_127 (by rfl)) ?_
        refine lt_gd_c (fun g2 => ?_)
        refine Eq.trans (li_ivI d126_46 ca_2_135 kd_127 kl_127 (by rfl) (by rfl) g2 (Nat.le_of_ble_eq_true rfl) (Nat.le_of_ble_eq_true rfl)) ?_
        refine lt_cI_c (fun v3 m3 => ?_)
        refine Eq.trans (li_icmp_ge (t := 55) d126_49 (by rfl)) ?_
        refine lt_ite (fun c3 => ?_) (fun c3 => ?_)
        · refine Eq.trans (li_iinc (ls' := [some (.inr (.inr (some a0))), some (.inl x1), some (.inr (.inr (some q1))), some (.inr (.inr (some (a0 + 3)))), some (.inl (20 : Int32)), some (.inl (x5 + (1 : Int32))), some (.inr (.inr (some ((a0 + 3) + 5 + 3 * (x5).toNatClampNeg))))]) d126_55 (by rfl) (by decide) ic_1 (by rfl)) ?_
          refine Eq.trans (li_goto (t := 14) d126_58 (by rfl)) ?_
          rfl
        · refine Eq.trans (li_aload d126_52 (by rfl)) ?_
          refine Eq.trans (li_astore_n (ls' := [some (.inr (.inr (some a0))), some (.inl x1), some (.inr (.inr (some ((a0 + 3) + 5 + 3 * (x5).toNatClampNeg)))), some (.inr (.inr (some (a0 + 3)))), some (.inl (20 : Int32)), some (.inl x5), some (.inr (.inr (some ((a0 + 3) + 5 + 3 * (x5).toNatClampNeg))))]) d126_54 (by decide) (by rfl)) ?_
          refine Eq.trans (li_iinc (ls' := [some (.inr (.inr (some a0))), some (.inl x1), some (.inr (.inr (some ((a0 + 3) + 5 + 3 * (x5).toNatClampNeg)))), some (.inr (.inr (some (a0 + 3)))), some (.inl (20 : Int32)), some (.inl (x5 + (1 : Int32))), some (.inr (.inr (some ((a0 + 3) + 5 + 3 * (x5).toNatClampNeg))))]) d126_55 (by rfl) (by decide) ic_1 (by rfl)) ?_
          refine Eq.trans (li_goto (t := 14) d126_58 (by rfl)) ?_
          rfl
/-! TransitSeals$Movement.changesAt()I -/
theorem d127_0 : decode Y127.2.1 0 = .ok (.aload_n 0, 1) := by decide +kernel
theorem d127_1 : decode Y127.2.1 1 = .ok (.getfield 9, 3) := by decide +kernel
theorem d127_4 : decode Y127.2.1 4 = .ok (.ifCond .ne 10, 3) := by decide +kernel
theorem d127_7 : decode Y127.2.1 7 = .ok (.aload_n 0, 1) := by decide +kernel
theorem d127_8 : decode Y127.2.1 8 = .ok (.getfield 48, 3) := by decide +kernel
theorem d127_11 : decode Y127.2.1 11 = .ok (.iconst 1, 1) := by decide +kernel
theorem d127_12 : decode Y127.2.1 12 = .ok (.iadd, 1) := by decide +kernel
theorem d127_13 : decode Y127.2.1 13 = .ok (.ireturn, 1) := by decide +kernel
theorem d127_14 : decode Y127.2.1 14 = .ok (.aload_n 0, 1) := by decide +kernel
theorem d127_15 : decode Y127.2.1 15 = .ok (.getfield 9, 3) := by decide +kernel
theorem d127_18 : decode Y127.2.1 18 = .ok (.iconst 3, 1) := by decide +kernel
theorem d127_19 : decode Y127.2.1 19 = .ok (.if_icmp .ne 13, 3) := by decide +kernel
theorem d127_22 : decode Y127.2.1 22 = .ok (.aload_n 0, 1) := by decide +kernel
theorem d127_23 : decode Y127.2.1 23 = .ok (.getfield 48, 3) := by decide +kernel
theorem d127_26 : decode Y127.2.1 26 = .ok (.bipush 72, 2) := by decide +kernel
theorem d127_28 : decode Y127.2.1 28 = .ok (.iadd, 1) := by decide +kernel
theorem d127_29 : decode Y127.2.1 29 = .ok (.goto 5, 3) := by decide +kernel
theorem d127_32 : decode Y127.2.1 32 = .ok (.ldc 51, 2) := by decide +kernel
theorem d127_34 : decode Y127.2.1 34 = .ok (.ireturn, 1) := by decide +kernel
theorem E127 (d : Nat) (a0 : Nat) (h0 : ts_sh a0 = (0, 4)) (m : lt_m) : lt_ev (d + 1) 127 [.inr (.inr (some a0))] m = if ¬ (m.1 a0 7) = 0 then (if ¬ (m.1 a0 7) = (3 : Int32) then (some (some (.inl (1000000 : Int32)), m)) else (some (some (.inl ((m.1 a0 6) + (72 : Int32))), m))) else (some (some (.inl ((m.1 a0 6) + (1 : Int32))), m)) := by
  refine Eq.trans (lt_enter2 (ls := [some (.inr (.inr (some a0)))]) hY127 (Nat.le_of_ble_eq_true rfl) (by rfl)) ?_
  refine Eq.trans (li_aload_n d127_0 (by rfl)) ?_
  refine Eq.trans (li_geti d127_1 fa_4_9 h0 rfl) ?_
  refine Eq.trans (li_if_ne (t := 14) d127_4 (by rfl)) ?_
  refine lt_ite (fun c1 => ?_) (fun c1 => ?_)
  · refine Eq.trans (li_aload_n d127_14 (by rfl)) ?_
    refine Eq.trans (li_geti d127_15 fa_4_9 h0 rfl) ?_
    refine Eq.trans (li_iconst d127_18 ic_3) ?_
    refine Eq.trans (li_icmp_ne (t := 32) d127_19 (by rfl)) ?_
    refine lt_ite (fun c2 => ?_) (fun c2 => ?_)
    · refine Eq.trans (li_ldc d127_32 cI_4_51) ?_
      exact li_iret d127_34 rfl
    · refine Eq.trans (li_aload_n d127_22 (by rfl)) ?_
      refine Eq.trans (li_geti d127_23 fa_4_48 h0 rfl) ?_
      refine Eq.trans (li_bipush d127_26 bi_72) ?_
      refine Eq.trans (li_iadd d127_28) ?_
      refine Eq.trans (li_goto (t := 34) d127_29 (by rfl)) ?_
      exact li_iret d127_34 rfl
  · refine Eq.trans (li_aload_n d127_7 (by rfl)) ?_
    refine Eq.trans (li_geti d127_8 fa_4_48 h0 rfl) ?_
    refine Eq.trans (li_iconst d127_11 ic_1) ?_
    refine Eq.trans (li_iadd d127_12) ?_
    exact li_iret d127_13 rfl
/-! TransitSeals$Ledger.change(LTransitSeals$Movement;)V -/
theorem d128_0 : decode Y128.2.1 0 = .ok (.aload_n 1, 1) := by decide +kernel
theorem d128_1 : decode Y128.2.1 1 = .ok (.invokevirtual 135, 3) := by decide +kernel
theorem d128_4 : decode Y128.2.1 4 = .ok (.istore_n 2, 1) := by decide +kernel
theorem d128_5 : decode Y128.2.1 5 = .ok (.aload_n 1, 1) := by decide +kernel
theorem d128_6 : decode Y128.2.1 6 = .ok (.getfield 44, 3) := by decide +kernel
theorem d128_9 : decode Y128.2.1 9 = .ok (.ifCond .ne 24, 3) := by decide +kernel
theorem d128_12 : decode Y128.2.1 12 = .ok (.aload_n 1, 1) := by decide +kernel
theorem d128_13 : decode Y128.2.1 13 = .ok (.iconst 3, 1) := by decide +kernel
theorem d128_14 : decode Y128.2.1 14 = .ok (.putfield 44, 3) := by decide +kernel
theorem d128_17 : decode Y128.2.1 17 = .ok (.aload_n 0, 1) := by decide +kernel
theorem d128_18 : decode Y128.2.1 18 = .ok (.getfield 27, 3) := by decide +kernel
theorem d128_21 : decode Y128.2.1 21 = .ok (.iconst 4, 1) := by decide +kernel
theorem d128_22 : decode Y128.2.1 22 = .ok (.aload_n 1, 1) := by decide +kernel
theorem d128_23 : decode Y128.2.1 23 = .ok (.getfield 118, 3) := by decide +kernel
theorem d128_26 : decode Y128.2.1 26 = .ok (.iload_n 2, 1) := by decide +kernel
theorem d128_27 : decode Y128.2.1 27 = .ok (.invokevirtual 121, 3) := by decide +kernel
theorem d128_30 : decode Y128.2.1 30 = .ok (.goto 24, 3) := by decide +kernel
theorem d128_33 : decode Y128.2.1 33 = .ok (.aload_n 1, 1) := by decide +kernel
theorem d128_34 : decode Y128.2.1 34 = .ok (.aload_n 1, 1) := by decide +kernel
theorem d128_35 : decode Y128.2.1 35 = .ok (.getfield 138, 3) := by decide +kernel
theorem d128_38 : decode Y128.2.1 38 = .ok (.invokevirtual 141, 3) := by decide +kernel
theorem d128_41 : decode Y128.2.1 41 = .ok (.aload_n 0, 1) := by decide +kernel
theorem d128_42 : decode Y128.2.1 42 = .ok (.getfield 27, 3) := by decide +kernel
theorem d128_45 : decode Y128.2.1 45 = .ok (.iconst 5, 1) := by decide +kernel
theorem d128_46 : decode Y128.2.1 46 = .ok (.aload_n 1, 1) := by decide +kernel
theorem d128_47 : decode Y128.2.1 47 = .ok (.getfield 118, 3) := by decide +kernel
theorem d128_50 : decode Y128.2.1 50 = .ok (.iload_n 2, 1) := by decide +kernel
theorem d128_51 : decode Y128.2.1 51 = .ok (.invokevirtual 121, 3) := by decide +kernel
theorem d128_54 : decode Y128.2.1 54 = .ok (.return_, 1) := by decide +kernel
theorem E128 (d : Nat) (a0 : Nat) (a1 : Nat) (h0 : ts_sh a0 = (0, 2)) (h1 : ts_sh a1 = (0, 4)) (m : lt_m) : lt_ev (d + 1) 128 [.inr (.inr (some a0)), .inr (.inr (some a1))] m = lt_cI (lt_ev d 127 [.inr (.inr (some a1))] m) (fun v1 m1 => (if ¬ (m1.1 a1 7) = 0 then (lt_cV (lt_ev d 120 [.inr (.inr (some a1)), .inl (m1.1 a1 4)] m1) (fun m2 => (lt_cV (lt_ev d 112 [.inr (.inr (some (a0 + 4))), .inl (5 : Int32), .inl (m2.1 a1 0), .inl v1] m2) (fun m3 => (some (none, m3)))))) else (lt_cV (lt_ev d 112 [.inr (.inr (some (a0 + 4))), .inl (4 : Int32), .inl ((lm_i m1 a1 7 (3 : Int32)).1 a1 0), .inl v1] (lm_i m1 a1 7 (3 : Int32))) (fun m4 => (some (none, m4)))))) := by
  refine Eq.trans (lt_enter2 (ls := [some (.inr (.inr (some a0))), some (.inr (.inr (some a1))), none]) hY128 (Nat.le_of_ble_eq_true rfl) (by rfl)) ?_
  refine Eq.trans (li_aload_n d128_0 (by rfl)) ?_
  refine Eq.trans (li_ivI d128_1 ca_2_135 kd_127 kl_127 (by rfl) (by rfl) h1 (Nat.le_of_ble_eq_true rfl) (Nat.le_of_ble_eq_true rfl)) ?_
  refine lt_cI_c (fun v1 m1 => ?_)
  refine Eq.trans (li_istore_n (ls' := [some (.inr (.inr (some a0))), some (.inr (.inr (some a1))), some (.inl v1)]) d128_4 (by decide) (by rfl)) ?_
  refine Eq.trans (li_aload_n d128_5 (by rfl)) ?_
  refine Eq.trans (li_geti d128_6 fa_2_44 h1 rfl) ?_
  refine Eq.trans (li_if_ne (t := 33) d128_9 (by rfl)) ?_
  refine lt_ite (fun c1 => ?_) (fun c1 => ?_)
  · refine Eq.trans (li_aload_n d128_33 (by rfl)) ?_
    refine Eq.trans (li_aload_n d128_34 (by rfl)) ?_
    refine Eq.trans (li_geti d128_35 fa_2_138 h1 rfl) ?_
    refine Eq.trans (li_ivV d128_38 ca_2_141 kd_120 kl_120 (by rfl) (by rfl) h1 (Nat.le_of_ble_eq_true rfl) (Nat.le_of_ble_eq_true rfl)) ?_
    refine lt_cV_c (fun m2 => ?_)
    refine Eq.trans (li_aload_n d128_41 (by rfl)) ?_
    refine Eq.trans (li_getr d128_42 fa_2_27 h0 rfl rfl rfl (by decide)) ?_
    refine Eq.trans (li_iconst d128_45 ic_5) ?_
    refine Eq.trans (li_aload_n d128_46 (by rfl)) ?_
    refine Eq.trans (li_geti d128_47 fa_2_118 h1 rfl) ?_
    refine Eq.trans (li_iload_n d128_50 (by rfl)) ?_
    refine Eq.trans (li_ivV d128_51 ca_2_121 kd_112 kl_112 (by rfl) (by rfl) (sf_of h0 3 (by decide) (by decide)) (Nat.le_of_ble_eq_true rfl) (Nat.le_of_ble_eq_true rfl)) ?_
    refine lt_cV_c (fun m3 => ?_)
    exact li_vret d128_54 rfl
  · refine Eq.trans (li_aload_n d128_12 (by rfl)) ?_
    refine Eq.trans (li_iconst d128_13 ic_3) ?_
    refine Eq.trans (li_puti d128_14 fa_2_44 h1 rfl rfl) ?_
    refine Eq.trans (li_aload_n d128_17 (by rfl)) ?_
    refine Eq.trans (li_getr d128_18 fa_2_27 h0 rfl rfl rfl (by decide)) ?_
    refine Eq.trans (li_iconst d128_21 ic_4) ?_
    refine Eq.trans (li_aload_n d128_22 (by rfl)) ?_
    refine Eq.trans (li_geti d128_23 fa_2_118 h1 rfl) ?_
    refine Eq.trans (li_iload_n d128_26 (by rfl)) ?_
    refine Eq.trans (li_ivV d128_27 ca_2_121 kd_112 kl_112 (by rfl) (by rfl) (sf_of h0 3 (by decide) (by decide)) (Nat.le_of_ble_eq_true rfl) (Nat.le_of_ble_eq_true rfl)) ?_
    refine lt_cV_c (fun m4 => ?_)
    refine Eq.trans (li_goto (t := 54) d128_30 (by rfl)) ?_
    exact li_vret d128_54 rfl
/-! TransitSeals.movement(II)I -/
theorem d129_0 : decode Y129.2.1 0 = .ok (.aload_n 0, 1) := by decide +kernel
theorem d129_1 : decode Y129.2.1 1 = .ok (.getfield 47, 3) := by decide +kernel
theorem d129_4 : decode Y129.2.1 4 = .ok (.iload_n 1, 1) := by decide +kernel
theorem d129_5 : decode Y129.2.1 5 = .ok (.invokevirtual 240, 3) := by decide +kernel
theorem d129_8 : decode Y129.2.1 8 = .ok (.astore_n 3, 1) := by decide +kernel
theorem d129_9 : decode Y129.2.1 9 = .ok (.aload_n 3, 1) := by decide +kernel
theorem d129_10 : decode Y129.2.1 10 = .ok (.ifnonnull 5, 3) := by decide +kernel
theorem d129_13 : decode Y129.2.1 13 = .ok (.iconst (-1), 1) := by decide +kernel
theorem d129_14 : decode Y129.2.1 14 = .ok (.ireturn, 1) := by decide +kernel
theorem d129_15 : decode Y129.2.1 15 = .ok (.iload_n 2, 1) := by decide +kernel
theorem d129_16 : decode Y129.2.1 16 = .ok (.tableswitch 148 0 12 #[68, 73, 78, 83, 88, 93, 98, 103, 108, 113, 126, 131, 143], 68) := by decide +kernel
theorem d129_84 : decode Y129.2.1 84 = .ok (.aload_n 3, 1) := by decide +kernel
theorem d129_85 : decode Y129.2.1 85 = .ok (.getfield 288, 3) := by decide +kernel
theorem d129_88 : decode Y129.2.1 88 = .ok (.ireturn, 1) := by decide +kernel
theorem d129_89 : decode Y129.2.1 89 = .ok (.aload_n 3, 1) := by decide +kernel
theorem d129_90 : decode Y129.2.1 90 = .ok (.getfield 272, 3) := by decide +kernel
theorem d129_93 : decode Y129.2.1 93 = .ok (.ireturn, 1) := by decide +kernel
theorem d129_94 : decode Y129.2.1 94 = .ok (.aload_n 3, 1) := by decide +kernel
theorem d129_95 : decode Y129.2.1 95 = .ok (.getfield 266, 3) := by decide +kernel
theorem d129_98 : decode Y129.2.1 98 = .ok (.ireturn, 1) := by decide +kernel
theorem d129_99 : decode Y129.2.1 99 = .ok (.aload_n 3, 1) := by decide +kernel
theorem d129_100 : decode Y129.2.1 100 = .ok (.getfield 269, 3) := by decide +kernel
theorem d129_103 : decode Y129.2.1 103 = .ok (.ireturn, 1) := by decide +kernel
theorem d129_104 : decode Y129.2.1 104 = .ok (.aload_n 3, 1) := by decide +kernel
theorem d129_105 : decode Y129.2.1 105 = .ok (.getfield 291, 3) := by decide +kernel
theorem d129_108 : decode Y129.2.1 108 = .ok (.ireturn, 1) := by decide +kernel
theorem d129_109 : decode Y129.2.1 109 = .ok (.aload_n 3, 1) := by decide +kernel
theorem d129_110 : decode Y129.2.1 110 = .ok (.getfield 294, 3) := by decide +kernel
theorem d129_113 : decode Y129.2.1 113 = .ok (.ireturn, 1) := by decide +kernel
theorem d129_114 : decode Y129.2.1 114 = .ok (.aload_n 3, 1) := by decide +kernel
theorem d129_115 : decode Y129.2.1 115 = .ok (.getfield 296, 3) := by decide +kernel
theorem d129_118 : decode Y129.2.1 118 = .ok (.ireturn, 1) := by decide +kernel
theorem d129_119 : decode Y129.2.1 119 = .ok (.aload_n 3, 1) := by decide +kernel
theorem d129_120 : decode Y129.2.1 120 = .ok (.getfield 256, 3) := by decide +kernel
theorem d129_123 : decode Y129.2.1 123 = .ok (.ireturn, 1) := by decide +kernel
theorem d129_124 : decode Y129.2.1 124 = .ok (.aload_n 3, 1) := by decide +kernel
theorem d129_125 : decode Y129.2.1 125 = .ok (.invokevirtual 299, 3) := by decide +kernel
theorem d129_128 : decode Y129.2.1 128 = .ok (.ireturn, 1) := by decide +kernel
theorem d129_129 : decode Y129.2.1 129 = .ok (.aload_n 3, 1) := by decide +kernel
theorem d129_130 : decode Y129.2.1 130 = .ok (.getfield 259, 3) := by decide +kernel
theorem d129_133 : decode Y129.2.1 133 = .ok (.ifCond .eq 7, 3) := by decide +kernel
theorem d129_136 : decode Y129.2.1 136 = .ok (.iconst 1, 1) := by decide +kernel
theorem d129_137 : decode Y129.2.1 137 = .ok (.goto 4, 3) := by decide +kernel
theorem d129_140 : decode Y129.2.1 140 = .ok (.iconst 0, 1) := by decide +kernel
theorem d129_141 : decode Y129.2.1 141 = .ok (.ireturn, 1) := by decide +kernel
theorem d129_142 : decode Y129.2.1 142 = .ok (.aload_n 3, 1) := by decide +kernel
theorem d129_143 : decode Y129.2.1 143 = .ok (.getfield 278, 3) := by decide +kernel
theorem d129_146 : decode Y129.2.1 146 = .ok (.ireturn, 1) := by decide +kernel
theorem d129_147 : decode Y129.2.1 147 = .ok (.aload_n 3, 1) := by decide +kernel
theorem d129_148 : decode Y129.2.1 148 = .ok (.aload_n 0, 1) := by decide +kernel
theorem d129_149 : decode Y129.2.1 149 = .ok (.getfield 47, 3) := by decide +kernel
theorem d129_152 : decode Y129.2.1 152 = .ok (.getfield 223, 3) := by decide +kernel
theorem d129_155 : decode Y129.2.1 155 = .ok (.invokevirtual 281, 3) := by decide +kernel
theorem d129_158 : decode Y129.2.1 158 = .ok (.ireturn, 1) := by decide +kernel
theorem d129_159 : decode Y129.2.1 159 = .ok (.aload_n 3, 1) := by decide +kernel
theorem d129_160 : decode Y129.2.1 160 = .ok (.getfield 253, 3) := by decide +kernel
theorem d129_163 : decode Y129.2.1 163 = .ok (.ireturn, 1) := by decide +kernel
theorem d129_164 : decode Y129.2.1 164 = .ok (.iconst (-1), 1) := by decide +kernel
theorem d129_165 : decode Y129.2.1 165 = .ok (.ireturn, 1) := by decide +kernel
theorem E129 (d : Nat) (a0 : Nat) (x1 : Int32) (x2 : Int32) (h0 : ts_sh a0 = (0, 11)) (m : lt_m) : lt_ev (d + 1) 129 [.inr (.inr (some a0)), .inl x1, .inl x2] m = lt_cR (lt_ev d 114 [.inr (.inr (some (a0 + 13))), .inl x1] m) (fun v1 m1 => (lt_nl v1 (some (some (.inl (-1 : Int32)), m1)) (fun q1 => (lt_sw x2 [(lt_gd (ts_sh q1 = (0, 4)) (some (some (.inl (m1.1 q1 1)), m1))), (lt_gd (ts_sh q1 = (0, 4)) (some (some (.inl (m1.1 q1 2)), m1))), (lt_gd (ts_sh q1 = (0, 4)) (some (some (.inl (m1.1 q1 3)), m1))), (lt_gd (ts_sh q1 = (0, 4)) (some (some (.inl (m1.1 q1 7)), m1))), (lt_gd (ts_sh q1 = (0, 4)) (some (some (.inl (m1.1 q1 4)), m1))), (lt_gd (ts_sh q1 = (0, 4)) (some (some (.inl (m1.1 q1 5)), m1))), (lt_gd (ts_sh q1 = (0, 4)) (some (some (.inl (m1.1 q1 6)), m1))), (lt_gd (ts_sh q1 = (0, 4)) (some (some (.inl (m1.1 q1 9)), m1))), (lt_gd (ts_sh q1 = (0, 4)) (lt_cI (lt_ev d 63 [.inr (.inr (some q1))] m1) (fun v2 m2 => (some (some (.inl v2), m2))))), (lt_gd (ts_sh q1 = (0, 4)) (if (m1.1 q1 11) = 0 then (some (some (.inl (0 : Int32)), m1)) else (some (some (.inl (1 : Int32)), m1)))), (lt_gd (ts_sh q1 = (0, 4)) (some (some (.inl (m1.1 q1 10)), m1))), (lt_gd (ts_sh q1 = (0, 4)) (lt_cI (lt_ev d 122 [.inr (.inr (some q1)), .inl (m1.1 (a0 + 13) 4)] m1) (fun v3 m3 => (some (some (.inl v3), m3))))), (lt_gd (ts_sh q1 = (0, 4)) (some (some (.inl (m1.1 q1 8)), m1)))] (some (some (.inl (-1 : Int32)), m1)))))) := by
  refine Eq.trans (lt_enter2 (ls := [some (.inr (.inr (some a0))), some (.inl x1), some (.inl x2), none]) hY129 (Nat.le_of_ble_eq_true rfl) (by rfl)) ?_
  refine Eq.trans (li_aload_n d129_0 (by rfl)) ?_
  refine Eq.trans (li_getr d129_1 fa_11_47 h0 rfl rfl rfl (by decide)) ?_
  refine Eq.trans (li_iload_n d129_4 (by rfl)) ?_
  refine Eq.trans (li_ivR d129_5 ca_11_240 kd_114 kl_114 (by rfl) (by rfl) (sf_of h0 5 (by decide) (by decide)) (Nat.le_of_ble_eq_true rfl) (Nat.le_of_ble_eq_true rfl)) ?_
  refine lt_cR_c (fun v1 m1 => ?_)
  refine Eq.trans (li_astore_n (ls' := [some (.inr (.inr (some a0))), some (.inl x1), some (.inl x2), some (.inr (.inr v1))]) d129_8 (by decide) (by rfl)) ?_
  refine Eq.trans (li_aload_n d129_9 (by rfl)) ?_
  refine lt_nl_x (F := fun oz => lt_run d Y129 10 [some (.inr (.inr (some a0))), some (.inl x1), some (.inl x2), some (.inr (.inr oz))] [.inr (.inr oz)] m1) ?_ (fun q1 => ?_)
  · refine Eq.trans (li_ifnonnull_n d129_10) ?_
    refine Eq.trans (li_iconst d129_13 ic_n1) ?_
    exact li_iret d129_14 rfl
  · refine Eq.trans (li_ifnonnull_s (t := 15) d129_10 (by rfl)) ?_
    refine Eq.trans (li_iload_n d129_15 (by rfl)) ?_
    refine Eq.trans (li_tsw (n := 12) (td := 164) (ts := [84, 89, 94, 99, 104, 109, 114, 119, 124, 129, 142, 147, 159]) d129_16 (by decide) (by decide) (by rfl)) ?_
    refine lt_sw_c ?_ ?_
    · simp only [List.map_cons, List.map_nil]
      refine lt_l2 ?_ (lt_l2 ?_ (lt_l2 ?_ (lt_l2 ?_ (lt_l2 ?_ (lt_l2 ?_ (lt_l2 ?_ (lt_l2 ?_ (lt_l2 ?_ (lt_l2 ?_ (lt_l2 ?_ (lt_l2 ?_ (lt_l2 ?_ (rfl)))))))))))))
      · refine Eq.trans (li_aload_n d129_84 (by rfl)) ?_
        refine Eq.trans (li_gget d129_85 fa_11_288) ?_
        refine lt_gd_c (fun g1 => ?_)
        refine Eq.trans (li_geti d129_85 fa_11_288 g1 rfl) ?_
        exact li_iret d129_88 rfl
      · refine Eq.trans (li_aload_n d129_89 (by rfl)) ?_
        refine Eq.trans (li_gget d129_90 fa_11_272) ?_
        refine lt_gd_c (fun g2 => ?_)
        refine Eq.trans (li_geti d129_90 fa_11_272 g2 rfl) ?_
        exact li_iret d129_93 rfl
      · refine Eq.trans (li_aload_n d129_94 (by rfl)) ?_
        refine Eq.trans (li_gget d129_95 fa_11_266) ?_
        refine lt_gd_c (fun g3 => ?_)
        refine Eq.trans (li_geti d129_95 fa_11_266 g3 rfl) ?_
        exact li_iret d129_98 rfl
      · refine Eq.trans (li_aload_n d129_99 (by rfl)) ?_
        refine Eq.trans (li_gget d129_100 fa_11_269) ?_
        refine lt_gd_c (fun g4 => ?_)
        refine Eq.trans (li_geti d129_100 fa_11_269 g4 rfl) ?_
        exact li_iret d129_103 rfl
      · refine Eq.trans (li_aload_n d129_104 (by rfl)) ?_
        refine Eq.trans (li_gget d129_105 fa_11_291) ?_
        refine lt_gd_c (fun g5 => ?_)
        refine Eq.trans (li_geti d129_105 fa_11_291 g5 rfl) ?_
        exact li_iret d129_108 rfl
      · refine Eq.trans (li_aload_n d129_109 (by rfl)) ?_
        refine Eq.trans (li_gget d129_110 fa_11_294) ?_
        refine lt_gd_c (fun g6 => ?_)
        refine Eq.trans (li_geti d129_110 fa_11_294 g6 rfl) ?_
        exact li_iret d129_113 rfl
      · refine Eq.trans (li_aload_n d129_114 (by rfl)) ?_
        refine Eq.trans (li_gget d129_115 fa_11_296) ?_
        refine lt_gd_c (fun g7 => ?_)
        refine Eq.trans (li_geti d129_115 fa_11_296 g7 rfl) ?_
        exact li_iret d129_118 rfl
      · refine Eq.trans (li_aload_n d129_119 (by rfl)) ?_
        refine Eq.trans (li_gget d129_120 fa_11_256) ?_
        refine lt_gd_c (fun g8 => ?_)
        refine Eq.trans (li_geti d129_120 fa_11_256 g8 rfl) ?_
        exact li_iret d129_123 rfl
      · refine Eq.trans (li_aload_n d129_124 (by rfl)) ?_
        refine Eq.trans (li_ginv d129_125 ca_11_299 kl_63 (by rfl)) ?_
        refine lt_gd_c (fun g9 => ?_)
        refine Eq.trans (li_ivI d129_125 ca_11_299 kd_63 kl_63 (by rfl) (by rfl) g9 (Nat.le_of_ble_eq_true rfl) (Nat.le_of_ble_eq_true rfl)) ?_
        refine lt_cI_c (fun v2 m2 => ?_)
        exact li_iret d129_128 rfl
      · refine Eq.trans (li_aload_n d129_129 (by rfl)) ?_
        refine Eq.trans (li_gget d129_130 fa_11_259) ?_
        refine lt_gd_c (fun g10 => ?_)
        refine Eq.trans (li_geti d129_130 fa_11_259 g10 rfl) ?_
        refine Eq.trans (li_if_eq (t := 140) d129_133 (by rfl)) ?_
        refine lt_ite (fun c1 => ?_) (fun c1 => ?_)
        · refine Eq.trans (li_iconst d129_140 ic_0) ?_
          exact li_iret d129_141 rfl
        · refine Eq.trans (li_iconst d129_136 ic_1) ?_
          refine Eq.trans (li_goto (t := 141) d129_137 (by rfl)) ?_
          exact li_iret d129_141 rfl
      · refine Eq.trans (li_aload_n d129_142 (by rfl)) ?_
        refine Eq.trans (li_gget d129_143 fa_11_278) ?_
        refine lt_gd_c (fun g11 => ?_)
        refine Eq.trans (li_geti d129_143 fa_11_278 g11 rfl) ?_
        exact li_iret d129_146 rfl
      · refine Eq.trans (li_aload_n d129_147 (by rfl)) ?_
        refine Eq.trans (li_aload_n d129_148 (by rfl)) ?_
        refine Eq.trans (li_getr d129_149 fa_11_47 h0 rfl rfl rfl (by decide)) ?_
        refine Eq.trans (li_geti d129_152 fa_11_223 (sf_of h0 5 (by decide) (by decide)) rfl) ?_
        refine Eq.trans (li_ginv d129_155 ca_11_281 kl_122 (by rfl)) ?_
        refine lt_gd_c (fun g12 => ?_)
        refine Eq.trans (li_ivI d129_155 ca_11_281 kd_122 kl_122 (by rfl) (by rfl) g12 (Nat.le_of_ble_eq_true rfl) (Nat.le_of_ble_eq_true rfl)) ?_
        refine lt_cI_c (fun v3 m3 => ?_)
        exact li_iret d129_158 rfl
      · refine Eq.trans (li_aload_n d129_159 (by rfl)) ?_
        refine Eq.trans (li_gget d129_160 fa_11_253) ?_
        refine lt_gd_c (fun g13 => ?_)
        refine Eq.trans (li_geti d129_160 fa_11_253 g13 rfl) ?_
        exact li_iret d129_163 rfl
    · refine Eq.trans (li_iconst d129_164 ic_n1) ?_
      exact li_iret d129_165 rfl
/-! TransitSeals.stop(II)I -/
theorem d130_0 : decode Y130.2.1 0 = .ok (.aload_n 0, 1) := by decide +kernel
theorem d130_1 : decode Y130.2.1 1 = .ok (.getfield 47, 3) := by decide +kernel
theorem d130_4 : decode Y130.2.1 4 = .ok (.iload_n 1, 1) := by decide +kernel
theorem d130_5 : decode Y130.2.1 5 = .ok (.invokevirtual 240, 3) := by decide +kernel
theorem d130_8 : decode Y130.2.1 8 = .ok (.astore_n 3, 1) := by decide +kernel
theorem d130_9 : decode Y130.2.1 9 = .ok (.aload_n 3, 1) := by decide +kernel
theorem d130_10 : decode Y130.2.1 10 = .ok (.ifnull 12, 3) := by decide +kernel
theorem d130_13 : decode Y130.2.1 13 = .ok (.aload_n 3, 1) := by decide +kernel
theorem d130_14 : decode Y130.2.1 14 = .ok (.iload_n 2, 1) := by decide +kernel
theorem d130_15 : decode Y130.2.1 15 = .ok (.invokevirtual 302, 3) := by decide +kernel
theorem d130_18 : decode Y130.2.1 18 = .ok (.iconst (-1), 1) := by decide +kernel
theorem d130_19 : decode Y130.2.1 19 = .ok (.if_icmp .ne 5, 3) := by decide +kernel
theorem d130_22 : decode Y130.2.1 22 = .ok (.iconst (-1), 1) := by decide +kernel
theorem d130_23 : decode Y130.2.1 23 = .ok (.ireturn, 1) := by decide +kernel
theorem d130_24 : decode Y130.2.1 24 = .ok (.aload_n 0, 1) := by decide +kernel
theorem d130_25 : decode Y130.2.1 25 = .ok (.aload_n 3, 1) := by decide +kernel
theorem d130_26 : decode Y130.2.1 26 = .ok (.iload_n 2, 1) := by decide +kernel
theorem d130_27 : decode Y130.2.1 27 = .ok (.invokevirtual 305, 3) := by decide +kernel
theorem d130_30 : decode Y130.2.1 30 = .ok (.invokevirtual 157, 3) := by decide +kernel
theorem d130_33 : decode Y130.2.1 33 = .ok (.aload_n 3, 1) := by decide +kernel
theorem d130_34 : decode Y130.2.1 34 = .ok (.iload_n 2, 1) := by decide +kernel
theorem d130_35 : decode Y130.2.1 35 = .ok (.invokevirtual 302, 3) := by decide +kernel
theorem d130_38 : decode Y130.2.1 38 = .ok (.ireturn, 1) := by decide +kernel
theorem E130 (d : Nat) (a0 : Nat) (x1 : Int32) (x2 : Int32) (h0 : ts_sh a0 = (0, 11)) (m : lt_m) : lt_ev (d + 1) 130 [.inr (.inr (some a0)), .inl x1, .inl x2] m = lt_cR (lt_ev d 114 [.inr (.inr (some (a0 + 13))), .inl x1] m) (fun v1 m1 => (lt_nl v1 (some (some (.inl (-1 : Int32)), m1)) (fun q1 => (lt_gd (ts_sh q1 = (0, 4)) (lt_cI (lt_ev d 64 [.inr (.inr (some q1)), .inl x2] m1) (fun v2 m2 => (if ¬ v2 = (-1 : Int32) then (lt_cI (lt_ev d 131 [.inr (.inr (some q1)), .inl x2] m2) (fun v3 m3 => (lt_cV (lt_ev d 75 [.inr (.inr (some a0)), .inl v3] m3) (fun m4 => (lt_cI (lt_ev d 64 [.inr (.inr (some q1)), .inl x2] m4) (fun v4 m5 => (some (some (.inl v4), m5)))))))) else (some (some (.inl (-1 : Int32)), m2))))))))) := by
  refine Eq.trans (lt_enter2 (ls := [some (.inr (.inr (some a0))), some (.inl x1), some (.inl x2), none]) hY130 (Nat.le_of_ble_eq_true rfl) (by rfl)) ?_
  refine Eq.trans (li_aload_n d130_0 (by rfl)) ?_
  refine Eq.trans (li_getr d130_1 fa_11_47 h0 rfl rfl rfl (by decide)) ?_
  refine Eq.trans (li_iload_n d130_4 (by rfl)) ?_
  refine Eq.trans (li_ivR d130_5 ca_11_240 kd_114 kl_114 (by rfl) (by rfl) (sf_of h0 5 (by decide) (by decide)) (Nat.le_of_ble_eq_true rfl) (Nat.le_of_ble_eq_true rfl)) ?_
  refine lt_cR_c (fun v1 m1 => ?_)
  refine Eq.trans (li_astore_n (ls' := [some (.inr (.inr (some a0))), some (.inl x1), some (.inl x2), some (.inr (.inr v1))]) d130_8 (by decide) (by rfl)) ?_
  refine Eq.trans (li_aload_n d130_9 (by rfl)) ?_
  refine lt_nl_x (F := fun oz => lt_run d Y130 10 [some (.inr (.inr (some a0))), some (.inl x1), some (.inl x2), some (.inr (.inr oz))] [.inr (.inr oz)] m1) ?_ (fun q1 => ?_)
  · refine Eq.trans (li_ifnull_n (t := 22) d130_10 (by rfl)) ?_
    refine Eq.trans (li_iconst d130_22 ic_n1) ?_
    exact li_iret d130_23 rfl
  · refine Eq.trans (li_ifnull_s d130_10) ?_
    refine Eq.trans (li_aload_n d130_13 (by rfl)) ?_
    refine Eq.trans (li_iload_n d130_14 (by rfl)) ?_
    refine Eq.trans (li_ginv d130_15 ca_11_302 kl_64 (by rfl)) ?_
    refine lt_gd_c (fun g1 => ?_)
    refine Eq.trans (li_ivI d130_15 ca_11_302 kd_64 kl_64 (by rfl) (by rfl) g1 (Nat.le_of_ble_eq_true rfl) (Nat.le_of_ble_eq_true rfl)) ?_
    refine lt_cI_c (fun v2 m2 => ?_)
    refine Eq.trans (li_iconst d130_18 ic_n1) ?_
    refine Eq.trans (li_icmp_ne (t := 24) d130_19 (by rfl)) ?_
    refine lt_ite (fun c1 => ?_) (fun c1 => ?_)
    · refine Eq.trans (li_aload_n d130_24 (by rfl)) ?_
      refine Eq.trans (li_aload_n d130_25 (by rfl)) ?_
      refine Eq.trans (li_iload_n d130_26 (by rfl)) ?_
      refine Eq.trans (li_ivI d130_27 ca_11_305 kd_131 kl_131 (by rfl) (by rfl) g1 (Nat.le_of_ble_eq_true rfl) (Nat.le_of_ble_eq_true rfl)) ?_
      refine lt_cI_c (fun v3 m3 => ?_)
      refine Eq.trans (li_ivV d130_30 ca_11_157 kd_75 kl_75 (by rfl) (by rfl) h0 (Nat.le_of_ble_eq_true rfl) (Nat.le_of_ble_eq_true rfl)) ?_
      refine lt_cV_c (fun m4 => ?_)
      refine Eq.trans (li_aload_n d130_33 (by rfl)) ?_
      refine Eq.trans (li_iload_n d130_34 (by rfl)) ?_
      refine Eq.trans (li_ivI d130_35 ca_11_302 kd_64 kl_64 (by rfl) (by rfl) g1 (Nat.le_of_ble_eq_true rfl) (Nat.le_of_ble_eq_true rfl)) ?_
      refine lt_cI_c (fun v4 m5 => ?_)
      exact li_iret d130_38 rfl
    · refine Eq.trans (li_iconst d130_22 ic_n1) ?_
      exact li_iret d130_23 rfl
/-! TransitSeals$Movement.stampedAt(I)I -/
theorem d131_0 : decode Y131.2.1 0 = .ok (.iload_n 1, 1) := by decide +kernel
theorem d131_1 : decode Y131.2.1 1 = .ok (.ifCond .lt 22, 3) := by decide +kernel
theorem d131_4 : decode Y131.2.1 4 = .ok (.iload_n 1, 1) := by decide +kernel
theorem d131_5 : decode Y131.2.1 5 = .ok (.aload_n 0, 1) := by decide +kernel
theorem d131_6 : decode Y131.2.1 6 = .ok (.getfield 35, 3) := by decide +kernel
theorem d131_9 : decode Y131.2.1 9 = .ok (.if_icmp .ge 14, 3) := by decide +kernel
theorem d131_12 : decode Y131.2.1 12 = .ok (.aload_n 0, 1) := by decide +kernel
theorem d131_13 : decode Y131.2.1 13 = .ok (.getfield 19, 3) := by decide +kernel
theorem d131_16 : decode Y131.2.1 16 = .ok (.iload_n 1, 1) := by decide +kernel
theorem d131_17 : decode Y131.2.1 17 = .ok (.invokestatic 31, 3) := by decide +kernel
theorem d131_20 : decode Y131.2.1 20 = .ok (.goto 4, 3) := by decide +kernel
theorem d131_23 : decode Y131.2.1 23 = .ok (.iconst (-1), 1) := by decide +kernel
theorem d131_24 : decode Y131.2.1 24 = .ok (.ireturn, 1) := by decide +kernel
theorem E131 (d : Nat) (a0 : Nat) (x1 : Int32) (h0 : ts_sh a0 = (0, 4)) (m : lt_m) : lt_ev (d + 1) 131 [.inr (.inr (some a0)), .inl x1] m = if x1 < 0 then (some (some (.inl (-1 : Int32)), m)) else (if (m.1 a0 9) ≤ x1 then (some (some (.inl (-1 : Int32)), m)) else (lt_cI (lt_ev d 16 [.inr (.inr (some (a0 + 2))), .inl x1] m) (fun v1 m1 => (some (some (.inl v1), m1))))) := by
  refine Eq.trans (lt_enter2 (ls := [some (.inr (.inr (some a0))), some (.inl x1)]) hY131 (Nat.le_of_ble_eq_true rfl) (by rfl)) ?_
  refine Eq.trans (li_iload_n d131_0 (by rfl)) ?_
  refine Eq.trans (li_if_lt (t := 23) d131_1 (by rfl)) ?_
  refine lt_ite (fun c1 => ?_) (fun c1 => ?_)
  · refine Eq.trans (li_iconst d131_23 ic_n1) ?_
    exact li_iret d131_24 rfl
  · refine Eq.trans (li_iload_n d131_4 (by rfl)) ?_
    refine Eq.trans (li_aload_n d131_5 (by rfl)) ?_
    refine Eq.trans (li_geti d131_6 fa_4_35 h0 rfl) ?_
    refine Eq.trans (li_icmp_ge (t := 23) d131_9 (by rfl)) ?_
    refine lt_ite (fun c2 => ?_) (fun c2 => ?_)
    · refine Eq.trans (li_iconst d131_23 ic_n1) ?_
      exact li_iret d131_24 rfl
    · refine Eq.trans (li_aload_n d131_12 (by rfl)) ?_
      refine Eq.trans (li_getr d131_13 fa_4_19 h0 rfl rfl rfl (by decide)) ?_
      refine Eq.trans (li_iload_n d131_16 (by rfl)) ?_
      refine Eq.trans (li_isI d131_17 bi_4_31 ca_4_31 kd_16 (by rfl) (by rfl) (Nat.le_of_ble_eq_true rfl) (Nat.le_of_ble_eq_true rfl)) ?_
      refine lt_cI_c (fun v1 m1 => ?_)
      refine Eq.trans (li_goto (t := 24) d131_20 (by rfl)) ?_
      exact li_iret d131_24 rfl
/-! TransitSeals.left(I)I -/
theorem d132_0 : decode Y132.2.1 0 = .ok (.aload_n 0, 1) := by decide +kernel
theorem d132_1 : decode Y132.2.1 1 = .ok (.getfield 47, 3) := by decide +kernel
theorem d132_4 : decode Y132.2.1 4 = .ok (.iload_n 1, 1) := by decide +kernel
theorem d132_5 : decode Y132.2.1 5 = .ok (.invokevirtual 240, 3) := by decide +kernel
theorem d132_8 : decode Y132.2.1 8 = .ok (.astore_n 2, 1) := by decide +kernel
theorem d132_9 : decode Y132.2.1 9 = .ok (.aload_n 2, 1) := by decide +kernel
theorem d132_10 : decode Y132.2.1 10 = .ok (.ifnonnull 5, 3) := by decide +kernel
theorem d132_13 : decode Y132.2.1 13 = .ok (.iconst (-1), 1) := by decide +kernel
theorem d132_14 : decode Y132.2.1 14 = .ok (.ireturn, 1) := by decide +kernel
theorem d132_15 : decode Y132.2.1 15 = .ok (.aload_n 0, 1) := by decide +kernel
theorem d132_16 : decode Y132.2.1 16 = .ok (.aload_n 2, 1) := by decide +kernel
theorem d132_17 : decode Y132.2.1 17 = .ok (.getfield 296, 3) := by decide +kernel
theorem d132_20 : decode Y132.2.1 20 = .ok (.aload_n 0, 1) := by decide +kernel
theorem d132_21 : decode Y132.2.1 21 = .ok (.getfield 47, 3) := by decide +kernel
theorem d132_24 : decode Y132.2.1 24 = .ok (.getfield 223, 3) := by decide +kernel
theorem d132_27 : decode Y132.2.1 27 = .ok (.isub, 1) := by decide +kernel
theorem d132_28 : decode Y132.2.1 28 = .ok (.aload_n 2, 1) := by decide +kernel
theorem d132_29 : decode Y132.2.1 29 = .ok (.invokevirtual 247, 3) := by decide +kernel
theorem d132_32 : decode Y132.2.1 32 = .ok (.invokevirtual 144, 3) := by decide +kernel
theorem d132_35 : decode Y132.2.1 35 = .ok (.aload_n 0, 1) := by decide +kernel
theorem d132_36 : decode Y132.2.1 36 = .ok (.aload_n 2, 1) := by decide +kernel
theorem d132_37 : decode Y132.2.1 37 = .ok (.invokevirtual 308, 3) := by decide +kernel
theorem d132_40 : decode Y132.2.1 40 = .ok (.ireturn, 1) := by decide +kernel
theorem E132 (d : Nat) (a0 : Nat) (x1 : Int32) (h0 : ts_sh a0 = (0, 11)) (m : lt_m) : lt_ev (d + 1) 132 [.inr (.inr (some a0)), .inl x1] m = lt_cR (lt_ev d 114 [.inr (.inr (some (a0 + 13))), .inl x1] m) (fun v1 m1 => (lt_nl v1 (some (some (.inl (-1 : Int32)), m1)) (fun q1 => (lt_gd (ts_sh q1 = (0, 4)) (lt_cI (lt_ev d 115 [.inr (.inr (some q1))] m1) (fun v2 m2 => (lt_cV (lt_ev d 74 [.inr (.inr (some a0)), .inl ((m1.1 q1 6) - (m1.1 (a0 + 13) 4)), .inl v2] m2) (fun m3 => (lt_cI (lt_ev d 133 [.inr (.inr (some a0)), .inr (.inr (some q1))] m3) (fun v3 m4 => (some (some (.inl v3), m4)))))))))))) := by
  refine Eq.trans (lt_enter2 (ls := [some (.inr (.inr (some a0))), some (.inl x1), none]) hY132 (Nat.le_of_ble_eq_true rfl) (by rfl)) ?_
  refine Eq.trans (li_aload_n d132_0 (by rfl)) ?_
  refine Eq.trans (li_getr d132_1 fa_11_47 h0 rfl rfl rfl (by decide)) ?_
  refine Eq.trans (li_iload_n d132_4 (by rfl)) ?_
  refine Eq.trans (li_ivR d132_5 ca_11_240 kd_114 kl_114 (by rfl) (by rfl) (sf_of h0 5 (by decide) (by decide)) (Nat.le_of_ble_eq_true rfl) (Nat.le_of_ble_eq_true rfl)) ?_
  refine lt_cR_c (fun v1 m1 => ?_)
  refine Eq.trans (li_astore_n (ls' := [some (.inr (.inr (some a0))), some (.inl x1), some (.inr (.inr v1))]) d132_8 (by decide) (by rfl)) ?_
  refine Eq.trans (li_aload_n d132_9 (by rfl)) ?_
  refine lt_nl_x (F := fun oz => lt_run d Y132 10 [some (.inr (.inr (some a0))), some (.inl x1), some (.inr (.inr oz))] [.inr (.inr oz)] m1) ?_ (fun q1 => ?_)
  · refine Eq.trans (li_ifnonnull_n d132_10) ?_
    refine Eq.trans (li_iconst d132_13 ic_n1) ?_
    exact li_iret d132_14 rfl
  · refine Eq.trans (li_ifnonnull_s (t := 15) d132_10 (by rfl)) ?_
    refine Eq.trans (li_aload_n d132_15 (by rfl)) ?_
    refine Eq.trans (li_aload_n d132_16 (by rfl)) ?_
    refine Eq.trans (li_gget d132_17 fa_11_296) ?_
    refine lt_gd_c (fun g1 => ?_)
    refine Eq.trans (li_geti d132_17 fa_11_296 g1 rfl) ?_
    refine Eq.trans (li_aload_n d132_20 (by rfl)) ?_
    refine Eq.trans (li_getr d132_21 fa_11_47 h0 rfl rfl rfl (by decide)) ?_
    refine Eq.trans (li_geti d132_24 fa_11_223 (sf_of h0 5 (by decide) (by decide)) rfl) ?_
    refine Eq.trans (li_isub d132_27) ?_
    refine Eq.trans (li_aload_n d132_28 (by rfl)) ?_
    refine Eq.trans (li_ivI d132_29 ca_11_247 kd_115 kl_115 (by rfl) (by rfl) g1 (Nat.le_of_ble_eq_true rfl) (Nat.le_of_ble_eq_true rfl)) ?_
    refine lt_cI_c (fun v2 m2 => ?_)
    refine Eq.trans (li_ivV d132_32 ca_11_144 kd_74 kl_74 (by rfl) (by rfl) h0 (Nat.le_of_ble_eq_true rfl) (Nat.le_of_ble_eq_true rfl)) ?_
    refine lt_cV_c (fun m3 => ?_)
    refine Eq.trans (li_aload_n d132_35 (by rfl)) ?_
    refine Eq.trans (li_aload_n d132_36 (by rfl)) ?_
    refine Eq.trans (li_ivI d132_37 ca_11_308 kd_133 kl_133 (by rfl) (by rfl) h0 (Nat.le_of_ble_eq_true rfl) (Nat.le_of_ble_eq_true rfl)) ?_
    refine lt_cI_c (fun v3 m4 => ?_)
    exact li_iret d132_40 rfl
/-! TransitSeals.hoursToGo(LTransitSeals$Movement;)I -/
theorem d133_0 : decode Y133.2.1 0 = .ok (.iconst 0, 1) := by decide +kernel
theorem d133_1 : decode Y133.2.1 1 = .ok (.istore_n 2, 1) := by decide +kernel
theorem d133_2 : decode Y133.2.1 2 = .ok (.aload_n 1, 1) := by decide +kernel
theorem d133_3 : decode Y133.2.1 3 = .ok (.getfield 256, 3) := by decide +kernel
theorem d133_6 : decode Y133.2.1 6 = .ok (.istore_n 3, 1) := by decide +kernel
theorem d133_7 : decode Y133.2.1 7 = .ok (.iload_n 3, 1) := by decide +kernel
theorem d133_8 : decode Y133.2.1 8 = .ok (.aload_n 1, 1) := by decide +kernel
theorem d133_9 : decode Y133.2.1 9 = .ok (.getfield 253, 3) := by decide +kernel
theorem d133_12 : decode Y133.2.1 12 = .ok (.if_icmp .ge 31, 3) := by decide +kernel
theorem d133_15 : decode Y133.2.1 15 = .ok (.iload_n 2, 1) := by decide +kernel
theorem d133_16 : decode Y133.2.1 16 = .ok (.aload_n 0, 1) := by decide +kernel
theorem d133_17 : decode Y133.2.1 17 = .ok (.getfield 61, 3) := by decide +kernel
theorem d133_20 : decode Y133.2.1 20 = .ok (.aload_n 1, 1) := by decide +kernel
theorem d133_21 : decode Y133.2.1 21 = .ok (.iload_n 3, 1) := by decide +kernel
theorem d133_22 : decode Y133.2.1 22 = .ok (.iconst 1, 1) := by decide +kernel
theorem d133_23 : decode Y133.2.1 23 = .ok (.isub, 1) := by decide +kernel
theorem d133_24 : decode Y133.2.1 24 = .ok (.invokevirtual 302, 3) := by decide +kernel
theorem d133_27 : decode Y133.2.1 27 = .ok (.aload_n 1, 1) := by decide +kernel
theorem d133_28 : decode Y133.2.1 28 = .ok (.iload_n 3, 1) := by decide +kernel
theorem d133_29 : decode Y133.2.1 29 = .ok (.invokevirtual 302, 3) := by decide +kernel
theorem d133_32 : decode Y133.2.1 32 = .ok (.invokevirtual 109, 3) := by decide +kernel
theorem d133_35 : decode Y133.2.1 35 = .ok (.iadd, 1) := by decide +kernel
theorem d133_36 : decode Y133.2.1 36 = .ok (.istore_n 2, 1) := by decide +kernel
theorem d133_37 : decode Y133.2.1 37 = .ok (.iinc 3 1, 3) := by decide +kernel
theorem d133_40 : decode Y133.2.1 40 = .ok (.goto (-33), 3) := by decide +kernel
theorem d133_43 : decode Y133.2.1 43 = .ok (.iload_n 2, 1) := by decide +kernel
theorem d133_44 : decode Y133.2.1 44 = .ok (.ireturn, 1) := by decide +kernel
noncomputable def L133_7 (d : Nat) (a0 : Nat) (a1 : Nat) (x2 : Int32) (x3 : Int32) (m : lt_m) : Option lt_r := lt_run d Y133 7 [some (.inr (.inr (some a0))), some (.inr (.inr (some a1))), some (.inl x2), some (.inl x3)] [] m
theorem E133 (d : Nat) (a0 : Nat) (a1 : Nat) (h0 : ts_sh a0 = (0, 11)) (h1 : ts_sh a1 = (0, 4)) (m : lt_m) : lt_ev (d + 1) 133 [.inr (.inr (some a0)), .inr (.inr (some a1))] m = L133_7 d a0 a1 (0 : Int32) (m.1 a1 9) m := by
  refine Eq.trans (lt_enter2 (ls := [some (.inr (.inr (some a0))), some (.inr (.inr (some a1))), none, none]) hY133 (Nat.le_of_ble_eq_true rfl) (by rfl)) ?_
  refine Eq.trans (li_iconst d133_0 ic_0) ?_
  refine Eq.trans (li_istore_n (ls' := [some (.inr (.inr (some a0))), some (.inr (.inr (some a1))), some (.inl (0 : Int32)), none]) d133_1 (by decide) (by rfl)) ?_
  refine Eq.trans (li_aload_n d133_2 (by rfl)) ?_
  refine Eq.trans (li_geti d133_3 fa_11_256 h1 rfl) ?_
  refine Eq.trans (li_istore_n (ls' := [some (.inr (.inr (some a0))), some (.inr (.inr (some a1))), some (.inl (0 : Int32)), some (.inl (m.1 a1 9))]) d133_6 (by decide) (by rfl)) ?_
  rfl
theorem E133_7 (d : Nat) (a0 : Nat) (a1 : Nat) (x2 : Int32) (x3 : Int32) (h0 : ts_sh a0 = (0, 11)) (h1 : ts_sh a1 = (0, 4)) (m : lt_m) : L133_7 d a0 a1 x2 x3 m = if (m.1 a1 8) ≤ x3 then (some (some (.inl x2), m)) else (lt_cI (lt_ev d 64 [.inr (.inr (some a1)), .inl (x3 - (1 : Int32))] m) (fun v1 m1 => (lt_cI (lt_ev d 64 [.inr (.inr (some a1)), .inl x3] m1) (fun v2 m2 => (lt_gd (ts_sh (m.2.2.1) = (0, 5)) (lt_cI (lt_ev d 13 [.inr (.inr (some (m.2.2.1))), .inl v1, .inl v2] m2) (fun v3 m3 => (L133_7 d a0 a1 (x2 + v3) (x3 + (1 : Int32)) m3)))))))) := by
  show lt_run d Y133 7 [some (.inr (.inr (some a0))), some (.inr (.inr (some a1))), some (.inl x2), some (.inl x3)] [] m = _
  refine Eq.trans (li_iload_n d133_7 (by rfl)) ?_
  refine Eq.trans (li_aload_n d133_8 (by rfl)) ?_
  refine Eq.trans (li_geti d133_9 fa_11_253 h1 rfl) ?_
  refine Eq.trans (li_icmp_ge (t := 43) d133_12 (by rfl)) ?_
  refine lt_ite (fun c1 => ?_) (fun c1 => ?_)
  · refine Eq.trans (li_iload_n d133_43 (by rfl)) ?_
    exact li_iret d133_44 rfl
  · refine Eq.trans (li_iload_n d133_15 (by rfl)) ?_
    refine Eq.trans (li_aload_n d133_16 (by rfl)) ?_
    refine Eq.trans (li_getnet d133_17 fa_11_61 h0) ?_
    refine Eq.trans (li_aload_n d133_20 (by rfl)) ?_
    refine Eq.trans (li_iload_n d133_21 (by rfl)) ?_
    refine Eq.trans (li_iconst d133_22 ic_1) ?_
    refine Eq.trans (li_isub d133_23) ?_
    refine Eq.trans (li_ivI d133_24 ca_11_302 kd_64 kl_64 (by rfl) (by rfl) h1 (Nat.le_of_ble_eq_true rfl) (Nat.le_of_ble_eq_true rfl)) ?_
    refine lt_cI_c (fun v1 m1 => ?_)
    refine Eq.trans (li_aload_n d133_27 (by rfl)) ?_
    refine Eq.trans (li_iload_n d133_28 (by rfl)) ?_
    refine Eq.trans (li_ivI d133_29 ca_11_302 kd_64 kl_64 (by rfl) (by rfl) h1 (Nat.le_of_ble_eq_true rfl) (Nat.le_of_ble_eq_true rfl)) ?_
    refine lt_cI_c (fun v2 m2 => ?_)
    refine Eq.trans (li_ginv d133_32 ca_11_109 kl_13 (by rfl)) ?_
    refine lt_gd_c (fun g1 => ?_)
    refine Eq.trans (li_ivI d133_32 ca_11_109 kd_13 kl_13 (by rfl) (by rfl) g1 (Nat.le_of_ble_eq_true rfl) (Nat.le_of_ble_eq_true rfl)) ?_
    refine lt_cI_c (fun v3 m3 => ?_)
    refine Eq.trans (li_iadd d133_35) ?_
    refine Eq.trans (li_istore_n (ls' := [some (.inr (.inr (some a0))), some (.inr (.inr (some a1))), some (.inl (x2 + v3)), some (.inl x3)]) d133_36 (by decide) (by rfl)) ?_
    refine Eq.trans (li_iinc (ls' := [some (.inr (.inr (some a0))), some (.inr (.inr (some a1))), some (.inl (x2 + v3)), some (.inl (x3 + (1 : Int32)))]) d133_37 (by rfl) (by decide) ic_1 (by rfl)) ?_
    refine Eq.trans (li_goto (t := 7) d133_40 (by rfl)) ?_
    rfl
/-! TransitSeals.borders(I)I -/
theorem d134_0 : decode Y134.2.1 0 = .ok (.aload_n 0, 1) := by decide +kernel
theorem d134_1 : decode Y134.2.1 1 = .ok (.getfield 47, 3) := by decide +kernel
theorem d134_4 : decode Y134.2.1 4 = .ok (.iload_n 1, 1) := by decide +kernel
theorem d134_5 : decode Y134.2.1 5 = .ok (.invokevirtual 240, 3) := by decide +kernel
theorem d134_8 : decode Y134.2.1 8 = .ok (.astore_n 2, 1) := by decide +kernel
theorem d134_9 : decode Y134.2.1 9 = .ok (.aload_n 2, 1) := by decide +kernel
theorem d134_10 : decode Y134.2.1 10 = .ok (.ifnonnull 5, 3) := by decide +kernel
theorem d134_13 : decode Y134.2.1 13 = .ok (.iconst (-1), 1) := by decide +kernel
theorem d134_14 : decode Y134.2.1 14 = .ok (.ireturn, 1) := by decide +kernel
theorem d134_15 : decode Y134.2.1 15 = .ok (.iconst 0, 1) := by decide +kernel
theorem d134_16 : decode Y134.2.1 16 = .ok (.istore_n 3, 1) := by decide +kernel
theorem d134_17 : decode Y134.2.1 17 = .ok (.iconst 0, 1) := by decide +kernel
theorem d134_18 : decode Y134.2.1 18 = .ok (.istore 4, 2) := by decide +kernel
theorem d134_20 : decode Y134.2.1 20 = .ok (.iconst 0, 1) := by decide +kernel
theorem d134_21 : decode Y134.2.1 21 = .ok (.istore 5, 2) := by decide +kernel
theorem d134_23 : decode Y134.2.1 23 = .ok (.iload 5, 2) := by decide +kernel
theorem d134_25 : decode Y134.2.1 25 = .ok (.aload_n 2, 1) := by decide +kernel
theorem d134_26 : decode Y134.2.1 26 = .ok (.getfield 253, 3) := by decide +kernel
theorem d134_29 : decode Y134.2.1 29 = .ok (.if_icmp .ge 61, 3) := by decide +kernel
theorem d134_32 : decode Y134.2.1 32 = .ok (.aload_n 0, 1) := by decide +kernel
theorem d134_33 : decode Y134.2.1 33 = .ok (.getfield 61, 3) := by decide +kernel
theorem d134_36 : decode Y134.2.1 36 = .ok (.aload_n 2, 1) := by decide +kernel
theorem d134_37 : decode Y134.2.1 37 = .ok (.iload 5, 2) := by decide +kernel
theorem d134_39 : decode Y134.2.1 39 = .ok (.invokevirtual 302, 3) := by decide +kernel
theorem d134_42 : decode Y134.2.1 42 = .ok (.invokevirtual 113, 3) := by decide +kernel
theorem d134_45 : decode Y134.2.1 45 = .ok (.istore 6, 2) := by decide +kernel
theorem d134_47 : decode Y134.2.1 47 = .ok (.iload 5, 2) := by decide +kernel
theorem d134_49 : decode Y134.2.1 49 = .ok (.ifCond .le 26, 3) := by decide +kernel
theorem d134_52 : decode Y134.2.1 52 = .ok (.iload 6, 2) := by decide +kernel
theorem d134_54 : decode Y134.2.1 54 = .ok (.aload_n 0, 1) := by decide +kernel
theorem d134_55 : decode Y134.2.1 55 = .ok (.getfield 61, 3) := by decide +kernel
theorem d134_58 : decode Y134.2.1 58 = .ok (.aload_n 2, 1) := by decide +kernel
theorem d134_59 : decode Y134.2.1 59 = .ok (.iload 5, 2) := by decide +kernel
theorem d134_61 : decode Y134.2.1 61 = .ok (.iconst 1, 1) := by decide +kernel
theorem d134_62 : decode Y134.2.1 62 = .ok (.isub, 1) := by decide +kernel
theorem d134_63 : decode Y134.2.1 63 = .ok (.invokevirtual 302, 3) := by decide +kernel
theorem d134_66 : decode Y134.2.1 66 = .ok (.invokevirtual 113, 3) := by decide +kernel
theorem d134_69 : decode Y134.2.1 69 = .ok (.if_icmp .eq 6, 3) := by decide +kernel
theorem d134_72 : decode Y134.2.1 72 = .ok (.iinc 3 1, 3) := by decide +kernel
theorem d134_75 : decode Y134.2.1 75 = .ok (.iload 4, 2) := by decide +kernel
theorem d134_77 : decode Y134.2.1 77 = .ok (.iconst 1, 1) := by decide +kernel
theorem d134_78 : decode Y134.2.1 78 = .ok (.iload 6, 2) := by decide +kernel
theorem d134_80 : decode Y134.2.1 80 = .ok (.ishl, 1) := by decide +kernel
theorem d134_81 : decode Y134.2.1 81 = .ok (.ior, 1) := by decide +kernel
theorem d134_82 : decode Y134.2.1 82 = .ok (.istore 4, 2) := by decide +kernel
theorem d134_84 : decode Y134.2.1 84 = .ok (.iinc 5 1, 3) := by decide +kernel
theorem d134_87 : decode Y134.2.1 87 = .ok (.goto (-64), 3) := by decide +kernel
theorem d134_90 : decode Y134.2.1 90 = .ok (.aload_n 0, 1) := by decide +kernel
theorem d134_91 : decode Y134.2.1 91 = .ok (.iload 4, 2) := by decide +kernel
theorem d134_93 : decode Y134.2.1 93 = .ok (.invokevirtual 157, 3) := by decide +kernel
theorem d134_96 : decode Y134.2.1 96 = .ok (.iload_n 3, 1) := by decide +kernel
theorem d134_97 : decode Y134.2.1 97 = .ok (.ireturn, 1) := by decide +kernel
noncomputable def L134_23 (d : Nat) (a0 : Nat) (x1 : Int32) (b2 : Nat) (x3 : Int32) (x4 : Int32) (x5 : Int32) (o6 : Option ts_V) (m : lt_m) : Option lt_r := lt_run d Y134 23 [some (.inr (.inr (some a0))), some (.inl x1), some (.inr (.inr (some b2))), some (.inl x3), some (.inl x4), some (.inl x5), o6] [] m
theorem E134 (d : Nat) (a0 : Nat) (x1 : Int32) (h0 : ts_sh a0 = (0, 11)) (m : lt_m) : lt_ev (d + 1) 134 [.inr (.inr (some a0)), .inl x1] m = lt_cR (lt_ev d 114 [.inr (.inr (some (a0 + 13))), .inl x1] m) (fun v1 m1 => (lt_nl v1 (some (some (.inl (-1 : Int32)), m1)) (fun q1 => (L134_23 d a0 x1 q1 (0 : Int32) (0 : Int32) (0 : Int32) none m1)))) := by
  refine Eq.trans (lt_enter2 (ls := [some (.inr (.inr (some a0))), some (.inl x1), none, none, none, none, none]) hY134 (Nat.le_of_ble_eq_true rfl) (by rfl)) ?_
  refine Eq.trans (li_aload_n d134_0 (by rfl)) ?_
  refine Eq.trans (li_getr d134_1 fa_11_47 h0 rfl rfl rfl (by decide)) ?_
  refine Eq.trans (li_iload_n d134_4 (by rfl)) ?_
  refine Eq.trans (li_ivR d134_5 ca_11_240 kd_114 kl_114 (by rfl) (by rfl) (sf_of h0 5 (by decide) (by decide)) (Nat.le_of_ble_eq_true rfl) (Nat.le_of_ble_eq_true rfl)) ?_
  refine lt_cR_c (fun v1 m1 => ?_)
  refine Eq.trans (li_astore_n (ls' := [some (.inr (.inr (some a0))), some (.inl x1), some (.inr (.inr v1)), none, none, none, none]) d134_8 (by decide) (by rfl)) ?_
  refine Eq.trans (li_aload_n d134_9 (by rfl)) ?_
  refine lt_nl_x (F := fun oz => lt_run d Y134 10 [some (.inr (.inr (some a0))), some (.inl x1), some (.inr (.inr oz)), none, none, none, none] [.inr (.inr oz)] m1) ?_ (fun q1 => ?_)
  · refine Eq.trans (li_ifnonnull_n d134_10) ?_
    refine Eq.trans (li_iconst d134_13 ic_n1) ?_
    exact li_iret d134_14 rfl
  · refine Eq.trans (li_ifnonnull_s (t := 15) d134_10 (by rfl)) ?_
    refine Eq.trans (li_iconst d134_15 ic_0) ?_
    refine Eq.trans (li_istore_n (ls' := [some (.inr (.inr (some a0))), some (.inl x1), some (.inr (.inr (some q1))), some (.inl (0 : Int32)), none, none, none]) d134_16 (by decide) (by rfl)) ?_
    refine Eq.trans (li_iconst d134_17 ic_0) ?_
    refine Eq.trans (li_istore (ls' := [some (.inr (.inr (some a0))), some (.inl x1), some (.inr (.inr (some q1))), some (.inl (0 : Int32)), some (.inl (0 : Int32)), none, none]) d134_18 (by decide) (by rfl)) ?_
    refine Eq.trans (li_iconst d134_20 ic_0) ?_
    refine Eq.trans (li_istore (ls' := [some (.inr (.inr (some a0))), some (.inl x1), some (.inr (.inr (some q1))), some (.inl (0 : Int32)), some (.inl (0 : Int32)), some (.inl (0 : Int32)), none]) d134_21 (by decide) (by rfl)) ?_
    rfl
theorem E134_23 (d : Nat) (a0 : Nat) (x1 : Int32) (b2 : Nat) (x3 : Int32) (x4 : Int32) (x5 : Int32) (o6 : Option ts_V) (h0 : ts_sh a0 = (0, 11)) (m : lt_m) : L134_23 d a0 x1 b2 x3 x4 x5 o6 m = lt_gd (ts_sh b2 = (0, 4)) (if (m.1 b2 8) ≤ x5 then (lt_cV (lt_ev d 75 [.inr (.inr (some a0)), .inl x4] m) (fun m1 => (some (some (.inl x3), m1)))) else (lt_cI (lt_ev d 64 [.inr (.inr (some b2)), .inl x5] m) (fun v1 m2 => (lt_gd (ts_sh (m.2.2.1) = (0, 5)) (lt_cI (lt_ev d 21 [.inr (.inr (some (m.2.2.1))), .inl v1] m2) (fun v2 m3 => (if x5 ≤ 0 then (L134_23 d a0 x1 b2 x3 (x4 ||| ((1 : Int32) <<< (v2 &&& 31))) (x5 + (1 : Int32)) (some (.inl v2)) m3) else (lt_cI (lt_ev d 64 [.inr (.inr (some b2)), .inl (x5 - (1 : Int32))] m3) (fun v3 m4 => (lt_gd (ts_sh (m3.2.2.1) = (0, 5)) (lt_cI (lt_ev d 21 [.inr (.inr (some (m3.2.2.1))), .inl v3] m4) (fun v4 m5 => (if v2 = v4 then (L134_23 d a0 x1 b2 x3 (x4 ||| ((1 : Int32) <<< (v2 &&& 31))) (x5 + (1 : Int32)) (some (.inl v2)) m5) else (L134_23 d a0 x1 b2 (x3 + (1 : Int32)) (x4 ||| ((1 : Int32) <<< (v2 &&& 31))) (x5 + (1 : Int32)) (some (.inl v2)) m5)))))))))))))) := by
  show lt_run d Y134 23 [some (.inr (.inr (some a0))), some (.inl x1), some (.inr (.inr (some b2))), some (.inl x3), some (.inl x4), some (.inl x5), o6] [] m = _
  refine Eq.trans (li_iload d134_23 (by rfl)) ?_
  refine Eq.trans (li_aload_n d134_25 (by rfl)) ?_
  refine Eq.trans (li_gget d134_26 fa_11_253) ?_
  refine lt_gd_c (fun g1 => ?_)
  refine Eq.trans (li_geti d134_26 fa_11_253 g1 rfl) ?_
  refine Eq.trans (li_icmp_ge (t := 90) d134_29 (by rfl)) ?_
  refine lt_ite (fun c1 => ?_) (fun c1 => ?_)
  · refine Eq.trans (li_aload_n d134_90 (by rfl)) ?_
    refine Eq.trans (li_iload d134_91 (by rfl)) ?_
    refine Eq.trans (li_ivV d134_93 ca_11_157 kd_75 kl_75 (by rfl) (by rfl) h0 (Nat.le_of_ble_eq_true rfl) (Nat.le_of_ble_eq_true rfl)) ?_
    refine lt_cV_c (fun m1 => ?_)
    refine Eq.trans (li_iload_n d134_96 (by rfl)) ?_
    exact li_iret d134_97 rfl
  · refine Eq.trans (li_aload_n d134_32 (by rfl)) ?_
    refine Eq.trans (li_getnet d134_33 fa_11_61 h0) ?_
    refine Eq.trans (li_aload_n d134_36 (by rfl)) ?_
    refine Eq.trans (li_iload d134_37 (by rfl)) ?_
    refine Eq.trans (li_ivI d134_39 ca_11_302 kd_64 kl_64 (by rfl) (by rfl) g1 (Nat.le_of_ble_eq_true rfl) (Nat.le_of_ble_eq_true rfl)) ?_
    refine lt_cI_c (fun v1 m2 => ?_)
    refine Eq.trans (li_ginv d134_42 ca_11_113 kl_21 (by rfl)) ?_
    refine lt_gd_c (fun g2 => ?_)
    refine Eq.trans (li_ivI d134_42 ca_11_113 kd_21 kl_21 (by rfl) (by rfl) g2 (Nat.le_of_ble_eq_true rfl) (Nat.le_of_ble_eq_true rfl)) ?_
    refine lt_cI_c (fun v2 m3 => ?_)
    refine Eq.trans (li_istore (ls' := [some (.inr (.inr (some a0))), some (.inl x1), some (.inr (.inr (some b2))), some (.inl x3), some (.inl x4), some (.inl x5), some (.inl v2)]) d134_45 (by decide) (by rfl)) ?_
    refine Eq.trans (li_iload d134_47 (by rfl)) ?_
    refine Eq.trans (li_if_le (t := 75) d134_49 (by rfl)) ?_
    refine lt_ite (fun c2 => ?_) (fun c2 => ?_)
    · refine Eq.trans (li_iload d134_75 (by rfl)) ?_
      refine Eq.trans (li_iconst d134_77 ic_1) ?_
      refine Eq.trans (li_iload d134_78 (by rfl)) ?_
      refine Eq.trans (li_ishl d134_80) ?_
      refine Eq.trans (li_ior d134_81) ?_
      refine Eq.trans (li_istore (ls' := [some (.inr (.inr (some a0))), some (.inl x1), some (.inr (.inr (some b2))), some (.inl x3), some (.inl (x4 ||| ((1 : Int32) <<< (v2 &&& 31)))), some (.inl x5), some (.inl v2)]) d134_82 (by decide) (by rfl)) ?_
      refine Eq.trans (li_iinc (ls' := [some (.inr (.inr (some a0))), some (.inl x1), some (.inr (.inr (some b2))), some (.inl x3), some (.inl (x4 ||| ((1 : Int32) <<< (v2 &&& 31)))), some (.inl (x5 + (1 : Int32))), some (.inl v2)]) d134_84 (by rfl) (by decide) ic_1 (by rfl)) ?_
      refine Eq.trans (li_goto (t := 23) d134_87 (by rfl)) ?_
      rfl
    · refine Eq.trans (li_iload d134_52 (by rfl)) ?_
      refine Eq.trans (li_aload_n d134_54 (by rfl)) ?_
      refine Eq.trans (li_getnet d134_55 fa_11_61 h0) ?_
      refine Eq.trans (li_aload_n d134_58 (by rfl)) ?_
      refine Eq.trans (li_iload d134_59 (by rfl)) ?_
      refine Eq.trans (li_iconst d134_61 ic_1) ?_
      refine Eq.trans (li_isub d134_62) ?_
      refine Eq.trans (li_ivI d134_63 ca_11_302 kd_64 kl_64 (by rfl) (by rfl) g1 (Nat.le_of_ble_eq_true rfl) (Nat.le_of_ble_eq_true rfl)) ?_
      refine lt_cI_c (fun v3 m4 => ?_)
      refine Eq.trans (li_ginv d134_66 ca_11_113 kl_21 (by rfl)) ?_
      refine lt_gd_c (fun g3 => ?_)
      refine Eq.trans (li_ivI d134_66 ca_11_113 kd_21 kl_21 (by rfl) (by rfl) g3 (Nat.le_of_ble_eq_true rfl) (Nat.le_of_ble_eq_true rfl)) ?_
      refine lt_cI_c (fun v4 m5 => ?_)
      refine Eq.trans (li_icmp_eq (t := 75) d134_69 (by rfl)) ?_
      refine lt_ite (fun c3 => ?_) (fun c3 => ?_)
      · refine Eq.trans (li_iload d134_75 (by rfl)) ?_
        refine Eq.trans (li_iconst d134_77 ic_1) ?_
        refine Eq.trans (li_iload d134_78 (by rfl)) ?_
        refine Eq.trans (li_ishl d134_80) ?_
        refine Eq.trans (li_ior d134_81) ?_
        refine Eq.trans (li_istore (ls' := [some (.inr (.inr (some a0))), some (.inl x1), some (.inr (.inr (some b2))), some (.inl x3), some (.inl (x4 ||| ((1 : Int32) <<< (v2 &&& 31)))), some (.inl x5), some (.inl v2)]) d134_82 (by decide) (by rfl)) ?_
        refine Eq.trans (li_iinc (ls' := [some (.inr (.inr (some a0))), some (.inl x1), some (.inr (.inr (some b2))), some (.inl x3), some (.inl (x4 ||| ((1 : Int32) <<< (v2 &&& 31)))), some (.inl (x5 + (1 : Int32))), some (.inl v2)]) d134_84 (by rfl) (by decide) ic_1 (by rfl)) ?_
        refine Eq.trans (li_goto (t := 23) d134_87 (by rfl)) ?_
        rfl
      · refine Eq.trans (li_iinc (ls' := [some (.inr (.inr (some a0))), some (.inl x1), some (.inr (.inr (some b2))), some (.inl (x3 + (1 : Int32))), some (.inl x4), some (.inl x5), some (.inl v2)]) d134_72 (by rfl) (by decide) ic_1 (by rfl)) ?_
        refine Eq.trans (li_iload d134_75 (by rfl)) ?_
        refine Eq.trans (li_iconst d134_77 ic_1) ?_
        refine Eq.trans (li_iload d134_78 (by rfl)) ?_
        refine Eq.trans (li_ishl d134_80) ?_
        refine Eq.trans (li_ior d134_81) ?_
        refine Eq.trans (li_istore (ls' := [some (.inr (.inr (some a0))), some (.inl x1), some (.inr (.inr (some b2))), some (.inl (x3 + (1 : Int32))), some (.inl (x4 ||| ((1 : Int32) <<< (v2 &&& 31)))), some (.inl x5), some (.inl v2)]) d134_82 (by decide) (by rfl)) ?_
        refine Eq.trans (li_iinc (ls' := [some (.inr (.inr (some a0))), some (.inl x1), some (.inr (.inr (some b2))), some (.inl (x3 + (1 : Int32))), some (.inl (x4 ||| ((1 : Int32) <<< (v2 &&& 31)))), some (.inl (x5 + (1 : Int32))), some (.inl v2)]) d134_84 (by rfl) (by decide) ic_1 (by rfl)) ?_
        refine Eq.trans (li_goto (t := 23) d134_87 (by rfl)) ?_
        rfl
/-! TransitSeals.asked(I)I -/
theorem d135_0 : decode Y135.2.1 0 = .ok (.aload_n 0, 1) := by decide +kernel
theorem d135_1 : decode Y135.2.1 1 = .ok (.getfield 47, 3) := by decide +kernel
theorem d135_4 : decode Y135.2.1 4 = .ok (.iload_n 1, 1) := by decide +kernel
theorem d135_5 : decode Y135.2.1 5 = .ok (.invokevirtual 240, 3) := by decide +kernel
theorem d135_8 : decode Y135.2.1 8 = .ok (.astore_n 2, 1) := by decide +kernel
theorem d135_9 : decode Y135.2.1 9 = .ok (.aload_n 2, 1) := by decide +kernel
theorem d135_10 : decode Y135.2.1 10 = .ok (.ifnonnull 5, 3) := by decide +kernel
theorem d135_13 : decode Y135.2.1 13 = .ok (.iconst (-1), 1) := by decide +kernel
theorem d135_14 : decode Y135.2.1 14 = .ok (.ireturn, 1) := by decide +kernel
theorem d135_15 : decode Y135.2.1 15 = .ok (.aload_n 2, 1) := by decide +kernel
theorem d135_16 : decode Y135.2.1 16 = .ok (.getfield 269, 3) := by decide +kernel
theorem d135_19 : decode Y135.2.1 19 = .ok (.iconst 3, 1) := by decide +kernel
theorem d135_20 : decode Y135.2.1 20 = .ok (.if_icmp .eq 6, 3) := by decide +kernel
theorem d135_23 : decode Y135.2.1 23 = .ok (.bipush (-2), 2) := by decide +kernel
theorem d135_25 : decode Y135.2.1 25 = .ok (.ireturn, 1) := by decide +kernel
theorem d135_26 : decode Y135.2.1 26 = .ok (.aload_n 2, 1) := by decide +kernel
theorem d135_27 : decode Y135.2.1 27 = .ok (.aload_n 0, 1) := by decide +kernel
theorem d135_28 : decode Y135.2.1 28 = .ok (.getfield 47, 3) := by decide +kernel
theorem d135_31 : decode Y135.2.1 31 = .ok (.getfield 223, 3) := by decide +kernel
theorem d135_34 : decode Y135.2.1 34 = .ok (.invokevirtual 281, 3) := by decide +kernel
theorem d135_37 : decode Y135.2.1 37 = .ok (.istore_n 3, 1) := by decide +kernel
theorem d135_38 : decode Y135.2.1 38 = .ok (.aload_n 0, 1) := by decide +kernel
theorem d135_39 : decode Y135.2.1 39 = .ok (.iload_n 3, 1) := by decide +kernel
theorem d135_40 : decode Y135.2.1 40 = .ok (.aload_n 2, 1) := by decide +kernel
theorem d135_41 : decode Y135.2.1 41 = .ok (.getfield 296, 3) := by decide +kernel
theorem d135_44 : decode Y135.2.1 44 = .ok (.bipush 24, 2) := by decide +kernel
theorem d135_46 : decode Y135.2.1 46 = .ok (.iload_n 3, 1) := by decide +kernel
theorem d135_47 : decode Y135.2.1 47 = .ok (.iconst 1, 1) := by decide +kernel
theorem d135_48 : decode Y135.2.1 48 = .ok (.iadd, 1) := by decide +kernel
theorem d135_49 : decode Y135.2.1 49 = .ok (.imul, 1) := by decide +kernel
theorem d135_50 : decode Y135.2.1 50 = .ok (.iadd, 1) := by decide +kernel
theorem d135_51 : decode Y135.2.1 51 = .ok (.aload_n 0, 1) := by decide +kernel
theorem d135_52 : decode Y135.2.1 52 = .ok (.getfield 47, 3) := by decide +kernel
theorem d135_55 : decode Y135.2.1 55 = .ok (.getfield 223, 3) := by decide +kernel
theorem d135_58 : decode Y135.2.1 58 = .ok (.isub, 1) := by decide +kernel
theorem d135_59 : decode Y135.2.1 59 = .ok (.invokevirtual 144, 3) := by decide +kernel
theorem d135_62 : decode Y135.2.1 62 = .ok (.iload_n 3, 1) := by decide +kernel
theorem d135_63 : decode Y135.2.1 63 = .ok (.ifCond .ne 5, 3) := by decide +kernel
theorem d135_66 : decode Y135.2.1 66 = .ok (.iconst 0, 1) := by decide +kernel
theorem d135_67 : decode Y135.2.1 67 = .ok (.ireturn, 1) := by decide +kernel
theorem d135_68 : decode Y135.2.1 68 = .ok (.iload_n 3, 1) := by decide +kernel
theorem d135_69 : decode Y135.2.1 69 = .ok (.iconst 1, 1) := by decide +kernel
theorem d135_70 : decode Y135.2.1 70 = .ok (.if_icmp .ne 12, 3) := by decide +kernel
theorem d135_73 : decode Y135.2.1 73 = .ok (.iconst 1, 1) := by decide +kernel
theorem d135_74 : decode Y135.2.1 74 = .ok (.aload_n 2, 1) := by decide +kernel
theorem d135_75 : decode Y135.2.1 75 = .ok (.invokevirtual 299, 3) := by decide +kernel
theorem d135_78 : decode Y135.2.1 78 = .ok (.ishl, 1) := by decide +kernel
theorem d135_79 : decode Y135.2.1 79 = .ok (.goto 13, 3) := by decide +kernel
theorem d135_82 : decode Y135.2.1 82 = .ok (.aload_n 2, 1) := by decide +kernel
theorem d135_83 : decode Y135.2.1 83 = .ok (.aload_n 2, 1) := by decide +kernel
theorem d135_84 : decode Y135.2.1 84 = .ok (.getfield 256, 3) := by decide +kernel
theorem d135_87 : decode Y135.2.1 87 = .ok (.iconst 1, 1) := by decide +kernel
theorem d135_88 : decode Y135.2.1 88 = .ok (.isub, 1) := by decide +kernel
theorem d135_89 : decode Y135.2.1 89 = .ok (.invokevirtual 312, 3) := by decide +kernel
theorem d135_92 : decode Y135.2.1 92 = .ok (.ireturn, 1) := by decide +kernel
theorem E135 (d : Nat) (a0 : Nat) (x1 : Int32) (h0 : ts_sh a0 = (0, 11)) (m : lt_m) : lt_ev (d + 1) 135 [.inr (.inr (some a0)), .inl x1] m = lt_cR (lt_ev d 114 [.inr (.inr (some (a0 + 13))), .inl x1] m) (fun v1 m1 => (lt_nl v1 (some (some (.inl (-1 : Int32)), m1)) (fun q1 => (lt_gd (ts_sh q1 = (0, 4)) (if (m1.1 q1 7) = (3 : Int32) then (lt_cI (lt_ev d 122 [.inr (.inr (some q1)), .inl (m1.1 (a0 + 13) 4)] m1) (fun v2 m2 => (lt_cV (lt_ev d 74 [.inr (.inr (some a0)), .inl v2, .inl (((m2.1 q1 6) + ((24 : Int32) * (v2 + (1 : Int32)))) - (m2.1 (a0 + 13) 4))] m2) (fun m3 => (if ¬ v2 = 0 then (if ¬ v2 = (1 : Int32) then (lt_cI (lt_ev d 136 [.inr (.inr (some q1)), .inl ((m3.1 q1 9) - (1 : Int32))] m3) (fun v3 m4 => (some (some (.inl v3), m4)))) else (lt_cI (lt_ev d 63 [.inr (.inr (some q1))] m3) (fun v4 m5 => (some (some (.inl ((1 : Int32) <<< (v4 &&& 31))), m5))))) else (some (some (.inl (0 : Int32)), m3))))))) else (some (some (.inl (-2 : Int32)), m1))))))) := by
  refine Eq.trans (lt_enter2 (ls := [some (.inr (.inr (some a0))), some (.inl x1), none, none]) hY135 (Nat.le_of_ble_eq_true rfl) (by rfl)) ?_
  refine Eq.trans (li_aload_n d135_0 (by rfl)) ?_
  refine Eq.trans (li_getr d135_1 fa_11_47 h0 rfl rfl rfl (by decide)) ?_
  refine Eq.trans (li_iload_n d135_4 (by rfl)) ?_
  refine Eq.trans (li_ivR d135_5 ca_11_240 kd_114 kl_114 (by rfl) (by rfl) (sf_of h0 5 (by decide) (by decide)) (Nat.le_of_ble_eq_true rfl) (Nat.le_of_ble_eq_true rfl)) ?_
  refine lt_cR_c (fun v1 m1 => ?_)
  refine Eq.trans (li_astore_n (ls' := [some (.inr (.inr (some a0))), some (.inl x1), some (.inr (.inr v1)), none]) d135_8 (by decide) (by rfl)) ?_
  refine Eq.trans (li_aload_n d135_9 (by rfl)) ?_
  refine lt_nl_x (F := fun oz => lt_run d Y135 10 [some (.inr (.inr (some a0))), some (.inl x1), some (.inr (.inr oz)), none] [.inr (.inr oz)] m1) ?_ (fun q1 => ?_)
  · refine Eq.trans (li_ifnonnull_n d135_10) ?_
    refine Eq.trans (li_iconst d135_13 ic_n1) ?_
    exact li_iret d135_14 rfl
  · refine Eq.trans (li_ifnonnull_s (t := 15) d135_10 (by rfl)) ?_
    refine Eq.trans (li_aload_n d135_15 (by rfl)) ?_
    refine Eq.trans (li_gget d135_16 fa_11_269) ?_
    refine lt_gd_c (fun g1 => ?_)
    refine Eq.trans (li_geti d135_16 fa_11_269 g1 rfl) ?_
    refine Eq.trans (li_iconst d135_19 ic_3) ?_
    refine Eq.trans (li_icmp_eq (t := 26) d135_20 (by rfl)) ?_
    refine lt_ite (fun c1 => ?_) (fun c1 => ?_)
    · refine Eq.trans (li_aload_n d135_26 (by rfl)) ?_
      refine Eq.trans (li_aload_n d135_27 (by rfl)) ?_
      refine Eq.trans (li_getr d135_28 fa_11_47 h0 rfl rfl rfl (by decide)) ?_
      refine Eq.trans (li_geti d135_31 fa_11_223 (sf_of h0 5 (by decide) (by decide)) rfl) ?_
      refine Eq.trans (li_ivI d135_34 ca_11_281 kd_122 kl_122 (by rfl) (by rfl) g1 (Nat.le_of_ble_eq_true rfl) (Nat.le_of_ble_eq_true rfl)) ?_
      refine lt_cI_c (fun v2 m2 => ?_)
      refine Eq.trans (li_istore_n (ls' := [some (.inr (.inr (some a0))), some (.inl x1), some (.inr (.inr (some q1))), some (.inl v2)]) d135_37 (by decide) (by rfl)) ?_
      refine Eq.trans (li_aload_n d135_38 (by rfl)) ?_
      refine Eq.trans (li_iload_n d135_39 (by rfl)) ?_
      refine Eq.trans (li_aload_n d135_40 (by rfl)) ?_
      refine Eq.trans (li_geti d135_41 fa_11_296 g1 rfl) ?_
      refine Eq.trans (li_bipush d135_44 bi_24) ?_
      refine Eq.trans (li_iload_n d135_46 (by rfl)) ?_
      refine Eq.trans (li_iconst d135_47 ic_1) ?_
      refine Eq.trans (li_iadd d135_48) ?_
      refine Eq.trans (li_imul d135_49) ?_
      refine Eq.trans (li_iadd d135_50) ?_
      refine Eq.trans (li_aload_n d135_51 (by rfl)) ?_
      refine Eq.trans (li_getr d135_52 fa_11_47 h0 rfl rfl rfl (by decide)) ?_
      refine Eq.trans (li_geti d135_55 fa_11_223 (sf_of h0 5 (by decide) (by decide)) rfl) ?_
      refine Eq.trans (li_isub d135_58) ?_
      refine Eq.trans (li_ivV d135_59 ca_11_144 kd_74 kl_74 (by rfl) (by rfl) h0 (Nat.le_of_ble_eq_true rfl) (Nat.le_of_ble_eq_true rfl)) ?_
      refine lt_cV_c (fun m3 => ?_)
      refine Eq.trans (li_iload_n d135_62 (by rfl)) ?_
      refine Eq.trans (li_if_ne (t := 68) d135_63 (by rfl)) ?_
      refine lt_ite (fun c2 => ?_) (fun c2 => ?_)
      · refine Eq.trans (li_iload_n d135_68 (by rfl)) ?_
        refine Eq.trans (li_iconst d135_69 ic_1) ?_
        refine Eq.trans (li_icmp_ne (t := 82) d135_70 (by rfl)) ?_
        refine lt_ite (fun c3 => ?_) (fun c3 => ?_)
        · refine Eq.trans (li_aload_n d135_82 (by rfl)) ?_
          refine Eq.trans (li_aload_n d135_83 (by rfl)) ?_
          refine Eq.trans (li_geti d135_84 fa_11_256 g1 rfl) ?_
          refine Eq.trans (li_iconst d135_87 ic_1) ?_
          refine Eq.trans (li_isub d135_88) ?_
          refine Eq.trans (li_ivI d135_89 ca_11_312 kd_136 kl_136 (by rfl) (by rfl) g1 (Nat.le_of_ble_eq_true rfl) (Nat.le_of_ble_eq_true rfl)) ?_
          refine lt_cI_c (fun v3 m4 => ?_)
          exact li_iret d135_92 rfl
        · refine Eq.trans (li_iconst d135_73 ic_1) ?_
          refine Eq.trans (li_aload_n d135_74 (by rfl)) ?_
          refine Eq.trans (li_ivI d135_75 ca_11_299 kd_63 kl_63 (by rfl) (by rfl) g1 (Nat.le_of_ble_eq_true rfl) (Nat.le_of_ble_eq_true rfl)) ?_
          refine lt_cI_c (fun v4 m5 => ?_)
          refine Eq.trans (li_ishl d135_78) ?_
          refine Eq.trans (li_goto (t := 92) d135_79 (by rfl)) ?_
          exact li_iret d135_92 rfl
      · refine Eq.trans (li_iconst d135_66 ic_0) ?_
        exact li_iret d135_67 rfl
    · refine Eq.trans (li_bipush d135_23 bi_n2) ?_
      exact li_iret d135_25 rfl
/-! TransitSeals$Movement.officesFrom(I)I -/
theorem d136_0 : decode Y136.2.1 0 = .ok (.iconst 0, 1) := by decide +kernel
theorem d136_1 : decode Y136.2.1 1 = .ok (.istore_n 2, 1) := by decide +kernel
theorem d136_2 : decode Y136.2.1 2 = .ok (.iconst 0, 1) := by decide +kernel
theorem d136_3 : decode Y136.2.1 3 = .ok (.iload_n 1, 1) := by decide +kernel
theorem d136_4 : decode Y136.2.1 4 = .ok (.invokestatic 42, 3) := by decide +kernel
theorem d136_7 : decode Y136.2.1 7 = .ok (.istore_n 3, 1) := by decide +kernel
theorem d136_8 : decode Y136.2.1 8 = .ok (.iload_n 3, 1) := by decide +kernel
theorem d136_9 : decode Y136.2.1 9 = .ok (.aload_n 0, 1) := by decide +kernel
theorem d136_10 : decode Y136.2.1 10 = .ok (.getfield 28, 3) := by decide +kernel
theorem d136_13 : decode Y136.2.1 13 = .ok (.if_icmp .ge 19, 3) := by decide +kernel
theorem d136_16 : decode Y136.2.1 16 = .ok (.iload_n 2, 1) := by decide +kernel
theorem d136_17 : decode Y136.2.1 17 = .ok (.iconst 1, 1) := by decide +kernel
theorem d136_18 : decode Y136.2.1 18 = .ok (.aload_n 0, 1) := by decide +kernel
theorem d136_19 : decode Y136.2.1 19 = .ok (.iload_n 3, 1) := by decide +kernel
theorem d136_20 : decode Y136.2.1 20 = .ok (.invokevirtual 38, 3) := by decide +kernel
theorem d136_23 : decode Y136.2.1 23 = .ok (.ishl, 1) := by decide +kernel
theorem d136_24 : decode Y136.2.1 24 = .ok (.ior, 1) := by decide +kernel
theorem d136_25 : decode Y136.2.1 25 = .ok (.istore_n 2, 1) := by decide +kernel
theorem d136_26 : decode Y136.2.1 26 = .ok (.iinc 3 1, 3) := by decide +kernel
theorem d136_29 : decode Y136.2.1 29 = .ok (.goto (-21), 3) := by decide +kernel
theorem d136_32 : decode Y136.2.1 32 = .ok (.iload_n 2, 1) := by decide +kernel
theorem d136_33 : decode Y136.2.1 33 = .ok (.ireturn, 1) := by decide +kernel
noncomputable def L136_8 (d : Nat) (a0 : Nat) (x1 : Int32) (x2 : Int32) (x3 : Int32) (m : lt_m) : Option lt_r := lt_run d Y136 8 [some (.inr (.inr (some a0))), some (.inl x1), some (.inl x2), some (.inl x3)] [] m
theorem E136 (d : Nat) (a0 : Nat) (x1 : Int32) (h0 : ts_sh a0 = (0, 4)) (m : lt_m) : lt_ev (d + 1) 136 [.inr (.inr (some a0)), .inl x1] m = L136_8 d a0 x1 (0 : Int32) (lm_max (0 : Int32) x1) m := by
  refine Eq.trans (lt_enter2 (ls := [some (.inr (.inr (some a0))), some (.inl x1), none, none]) hY136 (Nat.le_of_ble_eq_true rfl) (by rfl)) ?_
  refine Eq.trans (li_iconst d136_0 ic_0) ?_
  refine Eq.trans (li_istore_n (ls' := [some (.inr (.inr (some a0))), some (.inl x1), some (.inl (0 : Int32)), none]) d136_1 (by decide) (by rfl)) ?_
  refine Eq.trans (li_iconst d136_2 ic_0) ?_
  refine Eq.trans (li_iload_n d136_3 (by rfl)) ?_
  refine Eq.trans (li_max d136_4 bi_4_42 (Nat.le_of_ble_eq_true rfl)) ?_
  refine Eq.trans (li_istore_n (ls' := [some (.inr (.inr (some a0))), some (.inl x1), some (.inl (0 : Int32)), some (.inl (lm_max (0 : Int32) x1))]) d136_7 (by decide) (by rfl)) ?_
  rfl
theorem E136_8 (d : Nat) (a0 : Nat) (x1 : Int32) (x2 : Int32) (x3 : Int32) (h0 : ts_sh a0 = (0, 4)) (m : lt_m) : L136_8 d a0 x1 x2 x3 m = if (m.1 a0 8) ≤ x3 then (some (some (.inl x2), m)) else (lt_cI (lt_ev d 64 [.inr (.inr (some a0)), .inl x3] m) (fun v1 m1 => (L136_8 d a0 x1 (x2 ||| ((1 : Int32) <<< (v1 &&& 31))) (x3 + (1 : Int32)) m1))) := by
  show lt_run d Y136 8 [some (.inr (.inr (some a0))), some (.inl x1), some (.inl x2), some (.inl x3)] [] m = _
  refine Eq.trans (li_iload_n d136_8 (by rfl)) ?_
  refine Eq.trans (li_aload_n d136_9 (by rfl)) ?_
  refine Eq.trans (li_geti d136_10 fa_4_28 h0 rfl) ?_
  refine Eq.trans (li_icmp_ge (t := 32) d136_13 (by rfl)) ?_
  refine lt_ite (fun c1 => ?_) (fun c1 => ?_)
  · refine Eq.trans (li_iload_n d136_32 (by rfl)) ?_
    exact li_iret d136_33 rfl
  · refine Eq.trans (li_iload_n d136_16 (by rfl)) ?_
    refine Eq.trans (li_iconst d136_17 ic_1) ?_
    refine Eq.trans (li_aload_n d136_18 (by rfl)) ?_
    refine Eq.trans (li_iload_n d136_19 (by rfl)) ?_
    refine Eq.trans (li_ivI d136_20 ca_4_38 kd_64 kl_64 (by rfl) (by rfl) h0 (Nat.le_of_ble_eq_true rfl) (Nat.le_of_ble_eq_true rfl)) ?_
    refine lt_cI_c (fun v1 m1 => ?_)
    refine Eq.trans (li_ishl d136_23) ?_
    refine Eq.trans (li_ior d136_24) ?_
    refine Eq.trans (li_istore_n (ls' := [some (.inr (.inr (some a0))), some (.inl x1), some (.inl (x2 ||| ((1 : Int32) <<< (v1 &&& 31)))), some (.inl x3)]) d136_25 (by decide) (by rfl)) ?_
    refine Eq.trans (li_iinc (ls' := [some (.inr (.inr (some a0))), some (.inl x1), some (.inl (x2 ||| ((1 : Int32) <<< (v1 &&& 31)))), some (.inl (x3 + (1 : Int32)))]) d136_26 (by rfl) (by decide) ic_1 (by rfl)) ?_
    refine Eq.trans (li_goto (t := 8) d136_29 (by rfl)) ?_
    rfl

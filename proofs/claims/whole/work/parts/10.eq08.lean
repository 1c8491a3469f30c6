/-! ===== equations of methods ===== -/
/-! TransitSealsModel.book(II)I -/
theorem d266_0 : decode Y266.2.1 0 = .ok (.aload_n 0, 1) := by decide +kernel
theorem d266_1 : decode Y266.2.1 1 = .ok (.iconst 0, 1) := by decide +kernel
theorem d266_2 : decode Y266.2.1 2 = .ok (.putfield 67, 3) := by decide +kernel
theorem d266_5 : decode Y266.2.1 5 = .ok (.iload_n 1, 1) := by decide +kernel
theorem d266_6 : decode Y266.2.1 6 = .ok (.i2l, 1) := by decide +kernel
theorem d266_7 : decode Y266.2.1 7 = .ok (.lconst 0, 1) := by decide +kernel
theorem d266_8 : decode Y266.2.1 8 = .ok (.aload_n 0, 1) := by decide +kernel
theorem d266_9 : decode Y266.2.1 9 = .ok (.getfield 7, 3) := by decide +kernel
theorem d266_12 : decode Y266.2.1 12 = .ok (.iconst 3, 1) := by decide +kernel
theorem d266_13 : decode Y266.2.1 13 = .ok (.iaload, 1) := by decide +kernel
theorem d266_14 : decode Y266.2.1 14 = .ok (.iconst 1, 1) := by decide +kernel
theorem d266_15 : decode Y266.2.1 15 = .ok (.isub, 1) := by decide +kernel
theorem d266_16 : decode Y266.2.1 16 = .ok (.i2l, 1) := by decide +kernel
theorem d266_17 : decode Y266.2.1 17 = .ok (.invokestatic 76, 3) := by decide +kernel
theorem d266_20 : decode Y266.2.1 20 = .ok (.ifCond .eq 41, 3) := by decide +kernel
theorem d266_23 : decode Y266.2.1 23 = .ok (.iload_n 2, 1) := by decide +kernel
theorem d266_24 : decode Y266.2.1 24 = .ok (.i2l, 1) := by decide +kernel
theorem d266_25 : decode Y266.2.1 25 = .ok (.lconst 0, 1) := by decide +kernel
theorem d266_26 : decode Y266.2.1 26 = .ok (.ldc2_w 177, 3) := by decide +kernel
theorem d266_29 : decode Y266.2.1 29 = .ok (.invokestatic 76, 3) := by decide +kernel
theorem d266_32 : decode Y266.2.1 32 = .ok (.ifCond .eq 29, 3) := by decide +kernel
theorem d266_35 : decode Y266.2.1 35 = .ok (.aload_n 0, 1) := by decide +kernel
theorem d266_36 : decode Y266.2.1 36 = .ok (.getfield 7, 3) := by decide +kernel
theorem d266_39 : decode Y266.2.1 39 = .ok (.sipush 536, 3) := by decide +kernel
theorem d266_42 : decode Y266.2.1 42 = .ok (.iconst 3, 1) := by decide +kernel
theorem d266_43 : decode Y266.2.1 43 = .ok (.aload_n 0, 1) := by decide +kernel
theorem d266_44 : decode Y266.2.1 44 = .ok (.getfield 7, 3) := by decide +kernel
theorem d266_47 : decode Y266.2.1 47 = .ok (.iconst 3, 1) := by decide +kernel
theorem d266_48 : decode Y266.2.1 48 = .ok (.iaload, 1) := by decide +kernel
theorem d266_49 : decode Y266.2.1 49 = .ok (.iconst 1, 1) := by decide +kernel
theorem d266_50 : decode Y266.2.1 50 = .ok (.isub, 1) := by decide +kernel
theorem d266_51 : decode Y266.2.1 51 = .ok (.iload_n 1, 1) := by decide +kernel
theorem d266_52 : decode Y266.2.1 52 = .ok (.isub, 1) := by decide +kernel
theorem d266_53 : decode Y266.2.1 53 = .ok (.imul, 1) := by decide +kernel
theorem d266_54 : decode Y266.2.1 54 = .ok (.iadd, 1) := by decide +kernel
theorem d266_55 : decode Y266.2.1 55 = .ok (.iload_n 2, 1) := by decide +kernel
theorem d266_56 : decode Y266.2.1 56 = .ok (.iadd, 1) := by decide +kernel
theorem d266_57 : decode Y266.2.1 57 = .ok (.iaload, 1) := by decide +kernel
theorem d266_58 : decode Y266.2.1 58 = .ok (.goto 4, 3) := by decide +kernel
theorem d266_61 : decode Y266.2.1 61 = .ok (.iconst (-1), 1) := by decide +kernel
theorem d266_62 : decode Y266.2.1 62 = .ok (.ireturn, 1) := by decide +kernel
theorem E266 (d : Nat) (a0 : Nat) (x1 : Int32) (x2 : Int32) (h0 : ts_sh a0 = (0, 12)) (m : lt_m) : lt_ev (d + 1) 266 [.inr (.inr (some a0)), .inl x1, .inl x2] m = lt_gd (0 ≤ (3 : Int32) ∧ ((3 : Int32)).toNatClampNeg < 626) (lt_cI (lt_ev d 181 [.inr (.inl ((x1).toInt64)), .inr (.inl (0 : Int64)), .inr (.inl (((((lm_i m a0 15 (0 : Int32)).1 (a0 + 1) ((3 : Int32)).toNatClampNeg) - (1 : Int32))).toInt64))] (lm_i m a0 15 (0 : Int32))) (fun v1 m1 => (if v1 = 0 then (some (some (.inl (-1 : Int32)), m1)) else (lt_cI (lt_ev d 181 [.inr (.inl ((x2).toInt64)), .inr (.inl (0 : Int64)), .inr (.inl (2 : Int64))] m1) (fun v2 m2 => (if v2 = 0 then (some (some (.inl (-1 : Int32)), m2)) else (lt_gd (0 ≤ (3 : Int32) ∧ ((3 : Int32)).toNatClampNeg < 626) (lt_gd (0 ≤ (((536 : Int32) + ((3 : Int32) * (((m2.1 (a0 + 1) ((3 : Int32)).toNatClampNeg) - (1 : Int32)) - x1))) + x2) ∧ ((((536 : Int32) + ((3 : Int32) * (((m2.1 (a0 + 1) ((3 : Int32)).toNatClampNeg) - (1 : Int32)) - x1))) + x2)).toNatClampNeg < 626) (some (some (.inl (m2.1 (a0 + 1) ((((536 : Int32) + ((3 : Int32) * (((m2.1 (a0 + 1) ((3 : Int32)).toNatClampNeg) - (1 : Int32)) - x1))) + x2)).toNatClampNeg)), m2)))))))))) := by
  refine Eq.trans (lt_enter2 (ls := [some (.inr (.inr (some a0))), some (.inl x1), some (.inl x2)]) hY266 (Nat.le_of_ble_eq_true rfl) (by rfl)) ?_
  refine Eq.trans (li_aload_n d266_0 (by rfl)) ?_
  refine Eq.trans (li_iconst d266_1 ic_0) ?_
  refine Eq.trans (li_puti d266_2 fa_12_67 h0 rfl rfl) ?_
  refine Eq.trans (li_iload_n d266_5 (by rfl)) ?_
  refine Eq.trans (li_i2l d266_6) ?_
  refine Eq.trans (li_lconst (v := 0) d266_7 (by decide)) ?_
  refine Eq.trans (li_aload_n d266_8 (by rfl)) ?_
  refine Eq.trans (li_getr d266_9 fa_12_7 h0 rfl rfl rfl (by decide)) ?_
  refine Eq.trans (li_iconst d266_12 ic_3) ?_
  refine Eq.trans (li_iald d266_13 (sf_of h0 0 (by decide) (by decide))) ?_
  refine lt_gd_c (fun g1 => ?_)
  refine Eq.trans (li_iconst d266_14 ic_1) ?_
  refine Eq.trans (li_isub d266_15) ?_
  refine Eq.trans (li_i2l d266_16) ?_
  refine Eq.trans (li_isI d266_17 bi_12_76 ca_12_76 kd_181 (by rfl) (by rfl) (Nat.le_of_ble_eq_true rfl) (Nat.le_of_ble_eq_true rfl)) ?_
  refine lt_cI_c (fun v1 m1 => ?_)
  refine Eq.trans (li_if_eq (t := 61) d266_20 (by rfl)) ?_
  refine lt_ite (fun c1 => ?_) (fun c1 => ?_)
  · refine Eq.trans (li_iconst d266_61 ic_n1) ?_
    exact li_iret d266_62 rfl
  · refine Eq.trans (li_iload_n d266_23 (by rfl)) ?_
    refine Eq.trans (li_i2l d266_24) ?_
    refine Eq.trans (li_lconst (v := 0) d266_25 (by decide)) ?_
    refine Eq.trans (li_ldc2_w d266_26 cJ_12_177) ?_
    refine Eq.trans (li_isI d266_29 bi_12_76 ca_12_76 kd_181 (by rfl) (by rfl) (Nat.le_of_ble_eq_true rfl) (Nat.le_of_ble_eq_true rfl)) ?_
    refine lt_cI_c (fun v2 m2 => ?_)
    refine Eq.trans (li_if_eq (t := 61) d266_32 (by rfl)) ?_
    refine lt_ite (fun c2 => ?_) (fun c2 => ?_)
    · refine Eq.trans (li_iconst d266_61 ic_n1) ?_
      exact li_iret d266_62 rfl
    · refine Eq.trans (li_aload_n d266_35 (by rfl)) ?_
      refine Eq.trans (li_getr d266_36 fa_12_7 h0 rfl rfl rfl (by decide)) ?_
      refine Eq.trans (li_sipush d266_39 si_536) ?_
      refine Eq.trans (li_iconst d266_42 ic_3) ?_
      refine Eq.trans (li_aload_n d266_43 (by rfl)) ?_
      refine Eq.trans (li_getr d266_44 fa_12_7 h0 rfl rfl rfl (by decide)) ?_
      refine Eq.trans (li_iconst d266_47 ic_3) ?_
      refine Eq.trans (li_iald d266_48 (sf_of h0 0 (by decide) (by decide))) ?_
      refine lt_gd_c (fun g2 => ?_)
      refine Eq.trans (li_iconst d266_49 ic_1) ?_
      refine Eq.trans (li_isub d266_50) ?_
      refine Eq.trans (li_iload_n d266_51 (by rfl)) ?_
      refine Eq.trans (li_isub d266_52) ?_
      refine Eq.trans (li_imul d266_53) ?_
      refine Eq.trans (li_iadd d266_54) ?_
      refine Eq.trans (li_iload_n d266_55 (by rfl)) ?_
      refine Eq.trans (li_iadd d266_56) ?_
      refine Eq.trans (li_iald d266_57 (sf_of h0 0 (by decide) (by decide))) ?_
      refine lt_gd_c (fun g3 => ?_)
      refine Eq.trans (li_goto (t := 62) d266_58 (by rfl)) ?_
      exact li_iret d266_62 rfl
/-! TransitSealsModel.written(I)I -/
theorem d267_0 : decode Y267.2.1 0 = .ok (.aload_n 0, 1) := by decide +kernel
theorem d267_1 : decode Y267.2.1 1 = .ok (.iconst 0, 1) := by decide +kernel
theorem d267_2 : decode Y267.2.1 2 = .ok (.putfield 67, 3) := by decide +kernel
theorem d267_5 : decode Y267.2.1 5 = .ok (.aload_n 0, 1) := by decide +kernel
theorem d267_6 : decode Y267.2.1 6 = .ok (.iconst 0, 1) := by decide +kernel
theorem d267_7 : decode Y267.2.1 7 = .ok (.putfield 318, 3) := by decide +kernel
theorem d267_10 : decode Y267.2.1 10 = .ok (.iconst 0, 1) := by decide +kernel
theorem d267_11 : decode Y267.2.1 11 = .ok (.istore_n 2, 1) := by decide +kernel
theorem d267_12 : decode Y267.2.1 12 = .ok (.iload_n 2, 1) := by decide +kernel
theorem d267_13 : decode Y267.2.1 13 = .ok (.aload_n 0, 1) := by decide +kernel
theorem d267_14 : decode Y267.2.1 14 = .ok (.getfield 28, 3) := by decide +kernel
theorem d267_17 : decode Y267.2.1 17 = .ok (.if_icmp .ge 22, 3) := by decide +kernel
theorem d267_20 : decode Y267.2.1 20 = .ok (.aload_n 0, 1) := by decide +kernel
theorem d267_21 : decode Y267.2.1 21 = .ok (.bipush 48, 2) := by decide +kernel
theorem d267_23 : decode Y267.2.1 23 = .ok (.aload_n 0, 1) := by decide +kernel
theorem d267_24 : decode Y267.2.1 24 = .ok (.getfield 19, 3) := by decide +kernel
theorem d267_27 : decode Y267.2.1 27 = .ok (.iload_n 2, 1) := by decide +kernel
theorem d267_28 : decode Y267.2.1 28 = .ok (.iaload, 1) := by decide +kernel
theorem d267_29 : decode Y267.2.1 29 = .ok (.iadd, 1) := by decide +kernel
theorem d267_30 : decode Y267.2.1 30 = .ok (.invokevirtual 321, 3) := by decide +kernel
theorem d267_33 : decode Y267.2.1 33 = .ok (.iinc 2 1, 3) := by decide +kernel
theorem d267_36 : decode Y267.2.1 36 = .ok (.goto (-24), 3) := by decide +kernel
theorem d267_39 : decode Y267.2.1 39 = .ok (.aload_n 0, 1) := by decide +kernel
theorem d267_40 : decode Y267.2.1 40 = .ok (.bipush 124, 2) := by decide +kernel
theorem d267_42 : decode Y267.2.1 42 = .ok (.invokevirtual 321, 3) := by decide +kernel
theorem d267_45 : decode Y267.2.1 45 = .ok (.iconst 1, 1) := by decide +kernel
theorem d267_46 : decode Y267.2.1 46 = .ok (.istore_n 2, 1) := by decide +kernel
theorem d267_47 : decode Y267.2.1 47 = .ok (.iconst 0, 1) := by decide +kernel
theorem d267_48 : decode Y267.2.1 48 = .ok (.istore_n 3, 1) := by decide +kernel
theorem d267_49 : decode Y267.2.1 49 = .ok (.iload_n 3, 1) := by decide +kernel
theorem d267_50 : decode Y267.2.1 50 = .ok (.sipush 144, 3) := by decide +kernel
theorem d267_53 : decode Y267.2.1 53 = .ok (.if_icmp .ge 82, 3) := by decide +kernel
theorem d267_56 : decode Y267.2.1 56 = .ok (.aload_n 0, 1) := by decide +kernel
theorem d267_57 : decode Y267.2.1 57 = .ok (.getfield 22, 3) := by decide +kernel
theorem d267_60 : decode Y267.2.1 60 = .ok (.iload_n 3, 1) := by decide +kernel
theorem d267_61 : decode Y267.2.1 61 = .ok (.iaload, 1) := by decide +kernel
theorem d267_62 : decode Y267.2.1 62 = .ok (.ifCond .eq 67, 3) := by decide +kernel
theorem d267_65 : decode Y267.2.1 65 = .ok (.iload_n 3, 1) := by decide +kernel
theorem d267_66 : decode Y267.2.1 66 = .ok (.bipush 12, 2) := by decide +kernel
theorem d267_68 : decode Y267.2.1 68 = .ok (.idiv, 1) := by decide +kernel
theorem d267_69 : decode Y267.2.1 69 = .ok (.iload_n 3, 1) := by decide +kernel
theorem d267_70 : decode Y267.2.1 70 = .ok (.bipush 12, 2) := by decide +kernel
theorem d267_72 : decode Y267.2.1 72 = .ok (.irem, 1) := by decide +kernel
theorem d267_73 : decode Y267.2.1 73 = .ok (.if_icmp .le 6, 3) := by decide +kernel
theorem d267_76 : decode Y267.2.1 76 = .ok (.goto 53, 3) := by decide +kernel
theorem d267_79 : decode Y267.2.1 79 = .ok (.iload_n 2, 1) := by decide +kernel
theorem d267_80 : decode Y267.2.1 80 = .ok (.ifCond .ne 9, 3) := by decide +kernel
theorem d267_83 : decode Y267.2.1 83 = .ok (.aload_n 0, 1) := by decide +kernel
theorem d267_84 : decode Y267.2.1 84 = .ok (.bipush 44, 2) := by decide +kernel
theorem d267_86 : decode Y267.2.1 86 = .ok (.invokevirtual 321, 3) := by decide +kernel
theorem d267_89 : decode Y267.2.1 89 = .ok (.iconst 0, 1) := by decide +kernel
theorem d267_90 : decode Y267.2.1 90 = .ok (.istore_n 2, 1) := by decide +kernel
theorem d267_91 : decode Y267.2.1 91 = .ok (.aload_n 0, 1) := by decide +kernel
theorem d267_92 : decode Y267.2.1 92 = .ok (.iload_n 3, 1) := by decide +kernel
theorem d267_93 : decode Y267.2.1 93 = .ok (.bipush 12, 2) := by decide +kernel
theorem d267_95 : decode Y267.2.1 95 = .ok (.idiv, 1) := by decide +kernel
theorem d267_96 : decode Y267.2.1 96 = .ok (.invokevirtual 324, 3) := by decide +kernel
theorem d267_99 : decode Y267.2.1 99 = .ok (.aload_n 0, 1) := by decide +kernel
theorem d267_100 : decode Y267.2.1 100 = .ok (.bipush 45, 2) := by decide +kernel
theorem d267_102 : decode Y267.2.1 102 = .ok (.invokevirtual 321, 3) := by decide +kernel
theorem d267_105 : decode Y267.2.1 105 = .ok (.aload_n 0, 1) := by decide +kernel
theorem d267_106 : decode Y267.2.1 106 = .ok (.iload_n 3, 1) := by decide +kernel
theorem d267_107 : decode Y267.2.1 107 = .ok (.bipush 12, 2) := by decide +kernel
theorem d267_109 : decode Y267.2.1 109 = .ok (.irem, 1) := by decide +kernel
theorem d267_110 : decode Y267.2.1 110 = .ok (.invokevirtual 324, 3) := by decide +kernel
theorem d267_113 : decode Y267.2.1 113 = .ok (.aload_n 0, 1) := by decide +kernel
theorem d267_114 : decode Y267.2.1 114 = .ok (.bipush 58, 2) := by decide +kernel
theorem d267_116 : decode Y267.2.1 116 = .ok (.invokevirtual 321, 3) := by decide +kernel
theorem d267_119 : decode Y267.2.1 119 = .ok (.aload_n 0, 1) := by decide +kernel
theorem d267_120 : decode Y267.2.1 120 = .ok (.aload_n 0, 1) := by decide +kernel
theorem d267_121 : decode Y267.2.1 121 = .ok (.getfield 22, 3) := by decide +kernel
theorem d267_124 : decode Y267.2.1 124 = .ok (.iload_n 3, 1) := by decide +kernel
theorem d267_125 : decode Y267.2.1 125 = .ok (.iaload, 1) := by decide +kernel
theorem d267_126 : decode Y267.2.1 126 = .ok (.invokevirtual 324, 3) := by decide +kernel
theorem d267_129 : decode Y267.2.1 129 = .ok (.iinc 3 1, 3) := by decide +kernel
theorem d267_132 : decode Y267.2.1 132 = .ok (.goto (-83), 3) := by decide +kernel
theorem d267_135 : decode Y267.2.1 135 = .ok (.iconst 0, 1) := by decide +kernel
theorem d267_136 : decode Y267.2.1 136 = .ok (.istore_n 3, 1) := by decide +kernel
theorem d267_137 : decode Y267.2.1 137 = .ok (.iload_n 3, 1) := by decide +kernel
theorem d267_138 : decode Y267.2.1 138 = .ok (.aload_n 0, 1) := by decide +kernel
theorem d267_139 : decode Y267.2.1 139 = .ok (.getfield 80, 3) := by decide +kernel
theorem d267_142 : decode Y267.2.1 142 = .ok (.if_icmp .ge 34, 3) := by decide +kernel
theorem d267_145 : decode Y267.2.1 145 = .ok (.aload_n 0, 1) := by decide +kernel
theorem d267_146 : decode Y267.2.1 146 = .ok (.iload_n 3, 1) := by decide +kernel
theorem d267_147 : decode Y267.2.1 147 = .ok (.ifCond .ne 8, 3) := by decide +kernel
theorem d267_150 : decode Y267.2.1 150 = .ok (.bipush 124, 2) := by decide +kernel
theorem d267_152 : decode Y267.2.1 152 = .ok (.goto 5, 3) := by decide +kernel
theorem d267_155 : decode Y267.2.1 155 = .ok (.bipush 44, 2) := by decide +kernel
theorem d267_157 : decode Y267.2.1 157 = .ok (.invokevirtual 321, 3) := by decide +kernel
theorem d267_160 : decode Y267.2.1 160 = .ok (.aload_n 0, 1) := by decide +kernel
theorem d267_161 : decode Y267.2.1 161 = .ok (.aload_n 0, 1) := by decide +kernel
theorem d267_162 : decode Y267.2.1 162 = .ok (.getfield 25, 3) := by decide +kernel
theorem d267_165 : decode Y267.2.1 165 = .ok (.iload_n 3, 1) := by decide +kernel
theorem d267_166 : decode Y267.2.1 166 = .ok (.iaload, 1) := by decide +kernel
theorem d267_167 : decode Y267.2.1 167 = .ok (.invokevirtual 324, 3) := by decide +kernel
theorem d267_170 : decode Y267.2.1 170 = .ok (.iinc 3 1, 3) := by decide +kernel
theorem d267_173 : decode Y267.2.1 173 = .ok (.goto (-36), 3) := by decide +kernel
theorem d267_176 : decode Y267.2.1 176 = .ok (.iload_n 1, 1) := by decide +kernel
theorem d267_177 : decode Y267.2.1 177 = .ok (.iconst (-1), 1) := by decide +kernel
theorem d267_178 : decode Y267.2.1 178 = .ok (.if_icmp .ne 10, 3) := by decide +kernel
theorem d267_181 : decode Y267.2.1 181 = .ok (.aload_n 0, 1) := by decide +kernel
theorem d267_182 : decode Y267.2.1 182 = .ok (.getfield 318, 3) := by decide +kernel
theorem d267_185 : decode Y267.2.1 185 = .ok (.goto 29, 3) := by decide +kernel
theorem d267_188 : decode Y267.2.1 188 = .ok (.iload_n 1, 1) := by decide +kernel
theorem d267_189 : decode Y267.2.1 189 = .ok (.i2l, 1) := by decide +kernel
theorem d267_190 : decode Y267.2.1 190 = .ok (.lconst 0, 1) := by decide +kernel
theorem d267_191 : decode Y267.2.1 191 = .ok (.aload_n 0, 1) := by decide +kernel
theorem d267_192 : decode Y267.2.1 192 = .ok (.getfield 318, 3) := by decide +kernel
theorem d267_195 : decode Y267.2.1 195 = .ok (.iconst 1, 1) := by decide +kernel
theorem d267_196 : decode Y267.2.1 196 = .ok (.isub, 1) := by decide +kernel
theorem d267_197 : decode Y267.2.1 197 = .ok (.i2l, 1) := by decide +kernel
theorem d267_198 : decode Y267.2.1 198 = .ok (.invokestatic 76, 3) := by decide +kernel
theorem d267_201 : decode Y267.2.1 201 = .ok (.ifCond .eq 12, 3) := by decide +kernel
theorem d267_204 : decode Y267.2.1 204 = .ok (.aload_n 0, 1) := by decide +kernel
theorem d267_205 : decode Y267.2.1 205 = .ok (.getfield 64, 3) := by decide +kernel
theorem d267_208 : decode Y267.2.1 208 = .ok (.iload_n 1, 1) := by decide +kernel
theorem d267_209 : decode Y267.2.1 209 = .ok (.baload, 1) := by decide +kernel
theorem d267_210 : decode Y267.2.1 210 = .ok (.goto 4, 3) := by decide +kernel
theorem d267_213 : decode Y267.2.1 213 = .ok (.iconst (-1), 1) := by decide +kernel
theorem d267_214 : decode Y267.2.1 214 = .ok (.ireturn, 1) := by decide +kernel
noncomputable def L267_12 (d : Nat) (a0 : Nat) (x1 : Int32) (x2 : Int32) (m : lt_m) : Option lt_r := lt_run d Y267 12 [some (.inr (.inr (some a0))), some (.inl x1), some (.inl x2), none] [] m
noncomputable def L267_49 (d : Nat) (a0 : Nat) (x1 : Int32) (x2 : Int32) (x3 : Int32) (m : lt_m) : Option lt_r := lt_run d Y267 49 [some (.inr (.inr (some a0))), some (.inl x1), some (.inl x2), some (.inl x3)] [] m
noncomputable def L267_89 (d : Nat) (a0 : Nat) (x1 : Int32) (x2 : Int32) (x3 : Int32) (m : lt_m) : Option lt_r := lt_run d Y267 89 [some (.inr (.inr (some a0))), some (.inl x1), some (.inl x2), some (.inl x3)] [] m
noncomputable def L267_137 (d : Nat) (a0 : Nat) (x1 : Int32) (x2 : Int32) (x3 : Int32) (m : lt_m) : Option lt_r := lt_run d Y267 137 [some (.inr (.inr (some a0))), some (.inl x1), some (.inl x2), some (.inl x3)] [] m
theorem E267 (d : Nat) (a0 : Nat) (x1 : Int32) (h0 : ts_sh a0 = (0, 12)) (m : lt_m) : lt_ev (d + 1) 267 [.inr (.inr (some a0)), .inl x1] m = L267_12 d a0 x1 (0 : Int32) (lm_i (lm_i m a0 15 (0 : Int32)) a0 38 (0 : Int32)) := by
  refine Eq.trans (lt_enter2 (ls := [some (.inr (.inr (some a0))), some (.inl x1), none, none]) hY267 (Nat.le_of_ble_eq_true rfl) (by rfl)) ?_
  refine Eq.trans (li_aload_n d267_0 (by rfl)) ?_
  refine Eq.trans (li_iconst d267_1 ic_0) ?_
  refine Eq.trans (li_puti d267_2 fa_12_67 h0 rfl rfl) ?_
  refine Eq.trans (li_aload_n d267_5 (by rfl)) ?_
  refine Eq.trans (li_iconst d267_6 ic_0) ?_
  refine Eq.trans (li_puti d267_7 fa_12_318 h0 rfl rfl) ?_
  refine Eq.trans (li_iconst d267_10 ic_0) ?_
  refine Eq.trans (li_istore_n (ls' := [some (.inr (.inr (some a0))), some (.inl x1), some (.inl (0 : Int32)), none]) d267_11 (by decide) (by rfl)) ?_
  rfl
theorem E267_12 (d : Nat) (a0 : Nat) (x1 : Int32) (x2 : Int32) (h0 : ts_sh a0 = (0, 12)) (m : lt_m) : L267_12 d a0 x1 x2 m = if (m.1 a0 8) ≤ x2 then (lt_cV (lt_ev d 268 [.inr (.inr (some a0)), .inl (124 : Int32)] m) (fun m1 => (L267_49 d a0 x1 (1 : Int32) (0 : Int32) m1))) else (lt_gd (0 ≤ x2 ∧ (x2).toNatClampNeg < 12) (lt_cV (lt_ev d 268 [.inr (.inr (some a0)), .inl ((48 : Int32) + (m.1 (a0 + 4) (x2).toNatClampNeg))] m) (fun m2 => (L267_12 d a0 x1 (x2 + (1 : Int32)) m2)))) := by
  show lt_run d Y267 12 [some (.inr (.inr (some a0))), some (.inl x1), some (.inl x2), none] [] m = _
  refine Eq.trans (li_iload_n d267_12 (by rfl)) ?_
  refine Eq.trans (li_aload_n d267_13 (by rfl)) ?_
  refine Eq.trans (li_geti d267_14 fa_12_28 h0 rfl) ?_
  refine Eq.trans (li_icmp_ge (t := 39) d267_17 (by rfl)) ?_
  refine lt_ite (fun c1 => ?_) (fun c1 => ?_)
  · refine Eq.trans (li_aload_n d267_39 (by rfl)) ?_
    refine Eq.trans (li_bipush d267_40 bi_124) ?_
    refine Eq.trans (li_ivV d267_42 ca_12_321 kd_268 kl_268 (by rfl) (by rfl) h0 (Nat.le_of_ble_eq_true rfl) (Nat.le_of_ble_eq_true rfl)) ?_
    refine lt_cV_c (fun m1 => ?_)
    refine Eq.trans (li_iconst d267_45 ic_1) ?_
    refine Eq.trans (li_istore_n (ls' := [some (.inr (.inr (some a0))), some (.inl x1), some (.inl (1 : Int32)), none]) d267_46 (by decide) (by rfl)) ?_
    refine Eq.trans (li_iconst d267_47 ic_0) ?_
    refine Eq.trans (li_istore_n (ls' := [some (.inr (.inr (some a0))), some (.inl x1), some (.inl (1 : Int32)), some (.inl (0 : Int32))]) d267_48 (by decide) (by rfl)) ?_
    rfl
  · refine Eq.trans (li_aload_n d267_20 (by rfl)) ?_
    refine Eq.trans (li_bipush d267_21 bi_48) ?_
    refine Eq.trans (li_aload_n d267_23 (by rfl)) ?_
    refine Eq.trans (li_getr d267_24 fa_12_19 h0 rfl rfl rfl (by decide)) ?_
    refine Eq.trans (li_iload_n d267_27 (by rfl)) ?_
    refine Eq.trans (li_iald d267_28 (sf_of h0 5 (by decide) (by decide))) ?_
    refine lt_gd_c (fun g1 => ?_)
    refine Eq.trans (li_iadd d267_29) ?_
    refine Eq.trans (li_ivV d267_30 ca_12_321 kd_268 kl_268 (by rfl) (by rfl) h0 (Nat.le_of_ble_eq_true rfl) (Nat.le_of_ble_eq_true rfl)) ?_
    refine lt_cV_c (fun m2 => ?_)
    refine Eq.trans (li_iinc (ls' := [some (.inr (.inr (some a0))), some (.inl x1), some (.inl (x2 + (1 : Int32))), none]) d267_33 (by rfl) (by decide) ic_1 (by rfl)) ?_
    refine Eq.trans (li_goto (t := 12) d267_36 (by rfl)) ?_
    rfl
theorem E267_49 (d : Nat) (a0 : Nat) (x1 : Int32) (x2 : Int32) (x3 : Int32) (h0 : ts_sh a0 = (0, 12)) (m : lt_m) : L267_49 d a0 x1 x2 x3 m = if (144 : Int32) ≤ x3 then (L267_137 d a0 x1 x2 (0 : Int32) m) else (lt_gd (0 ≤ x3 ∧ (x3).toNatClampNeg < 144) (if (m.1 (a0 + 5) (x3).toNatClampNeg) = 0 then (L267_49 d a0 x1 x2 (x3 + (1 : Int32)) m) else (if (x3 / (12 : Int32)) ≤ (x3 - x3 / (12 : Int32) * (12 : Int32)) then (if ¬ x2 = 0 then (L267_89 d a0 x1 x2 x3 m) else (lt_cV (lt_ev d 268 [.inr (.inr (some a0)), .inl (44 : Int32)] m) (fun m1 => (L267_89 d a0 x1 x2 x3 m1)))) else (L267_49 d a0 x1 x2 (x3 + (1 : Int32)) m)))) := by
  show lt_run d Y267 49 [some (.inr (.inr (some a0))), some (.inl x1), some (.inl x2), some (.inl x3)] [] m = _
  refine Eq.trans (li_iload_n d267_49 (by rfl)) ?_
  refine Eq.trans (li_sipush d267_50 si_144) ?_
  refine Eq.trans (li_icmp_ge (t := 135) d267_53 (by rfl)) ?_
  refine lt_ite (fun c1 => ?_) (fun c1 => ?_)
  · refine Eq.trans (li_iconst d267_135 ic_0) ?_
    refine Eq.trans (li_istore_n (ls' := [some (.inr (.inr (some a0))), some (.inl x1), some (.inl x2), some (.inl (0 : Int32))]) d267_136 (by decide) (by rfl)) ?_
    rfl
  · refine Eq.trans (li_aload_n d267_56 (by rfl)) ?_
    refine Eq.trans (li_getr d267_57 fa_12_22 h0 rfl rfl rfl (by decide)) ?_
    refine Eq.trans (li_iload_n d267_60 (by rfl)) ?_
    refine Eq.trans (li_iald d267_61 (sf_of h0 6 (by decide) (by decide))) ?_
    refine lt_gd_c (fun g1 => ?_)
    refine Eq.trans (li_if_eq (t := 129) d267_62 (by rfl)) ?_
    refine lt_ite (fun c2 => ?_) (fun c2 => ?_)
    · refine Eq.trans (li_iinc (ls' := [some (.inr (.inr (some a0))), some (.inl x1), some (.inl x2), some (.inl (x3 + (1 : Int32)))]) d267_129 (by rfl) (by decide) ic_1 (by rfl)) ?_
      refine Eq.trans (li_goto (t := 49) d267_132 (by rfl)) ?_
      rfl
    · refine Eq.trans (li_iload_n d267_65 (by rfl)) ?_
      refine Eq.trans (li_bipush d267_66 bi_12) ?_
      refine Eq.trans (li_idiv d267_68) ?_
      refine Eq.trans (lt_gd_t (by decide)) ?_
      refine Eq.trans (li_iload_n d267_69 (by rfl)) ?_
      refine Eq.trans (li_bipush d267_70 bi_12) ?_
      refine Eq.trans (li_irem d267_72) ?_
      refine Eq.trans (lt_gd_t (by decide)) ?_
      refine Eq.trans (li_icmp_le (t := 79) d267_73 (by rfl)) ?_
      refine lt_ite (fun c3 => ?_) (fun c3 => ?_)
      · refine Eq.trans (li_iload_n d267_79 (by rfl)) ?_
        refine Eq.trans (li_if_ne (t := 89) d267_80 (by rfl)) ?_
        refine lt_ite (fun c4 => ?_) (fun c4 => ?_)
        · rfl
        · refine Eq.trans (li_aload_n d267_83 (by rfl)) ?_
          refine Eq.trans (li_bipush d267_84 bi_44) ?_
          refine Eq.trans (li_ivV d267_86 ca_12_321 kd_268 kl_268 (by rfl) (by rfl) h0 (Nat.le_of_ble_eq_true rfl) (Nat.le_of_ble_eq_true rfl)) ?_
          refine lt_cV_c (fun m1 => ?_)
          rfl
      · refine Eq.trans (li_goto (t := 129) d267_76 (by rfl)) ?_
        refine Eq.trans (li_iinc (ls' := [some (.inr (.inr (some a0))), some (.inl x1), some (.inl x2), some (.inl (x3 + (1 : Int32)))]) d267_129 (by rfl) (by decide) ic_1 (by rfl)) ?_
        refine Eq.trans (li_goto (t := 49) d267_132 (by rfl)) ?_
        rfl
theorem E267_89 (d : Nat) (a0 : Nat) (x1 : Int32) (x2 : Int32) (x3 : Int32) (h0 : ts_sh a0 = (0, 12)) (m : lt_m) : L267_89 d a0 x1 x2 x3 m = lt_cV (lt_ev d 269 [.inr (.inr (some a0)), .inl (x3 / (12 : Int32))] m) (fun m1 => (lt_cV (lt_ev d 268 [.inr (.inr (some a0)), .inl (45 : Int32)] m1) (fun m2 => (lt_cV (lt_ev d 269 [.inr (.inr (some a0)), .inl (x3 - x3 / (12 : Int32) * (12 : Int32))] m2) (fun m3 => (lt_cV (lt_ev d 268 [.inr (.inr (some a0)), .inl (58 : Int32)] m3) (fun m4 => (lt_gd (0 ≤ x3 ∧ (x3).toNatClampNeg < 144) (lt_cV (lt_ev d 269 [.inr (.inr (some a0)), .inl (m4.1 (a0 + 5) (x3).toNatClampNeg)] m4) (fun m5 => (L267_49 d a0 x1 (0 : Int32) (x3 + (1 : Int32)) m5))))))))))) := by
  show lt_run d Y267 89 [some (.inr (.inr (some a0))), some (.inl x1), some (.inl x2), some (.inl x3)] [] m = _
  refine Eq.trans (li_iconst d267_89 ic_0) ?_
  refine Eq.trans (li_istore_n (ls' := [some (.inr (.inr (some a0))), some (.inl x1), some (.inl (0 : Int32)), some (.inl x3)]) d267_90 (by decide) (by rfl)) ?_
  refine Eq.trans (li_aload_n d267_91 (by rfl)) ?_
  refine Eq.trans (li_iload_n d267_92 (by rfl)) ?_
  refine Eq.trans (li_bipush d267_93 bi_12) ?_
  refine Eq.trans (li_idiv d267_95) ?_
  refine Eq.trans (lt_gd_t (by decide)) ?_
  refine Eq.trans (li_ivV d267_96 ca_12_324 kd_269 kl_269 (by rfl) (by rfl) h0 (Nat.le_of_ble_eq_true rfl) (Nat.le_of_ble_eq_true rfl)) ?_
  refine lt_cV_c (fun m1 => ?_)
  refine Eq.trans (li_aload_n d267_99 (by rfl)) ?_
  refine Eq.trans (li_bipush d267_100 bi_45) ?_
  refine Eq.trans (li_ivV d267_102 ca_12_321 kd_268 kl_268 (by rfl) (by rfl) h0 (Nat.le_of_ble_eq_true rfl) (Nat.le_of_ble_eq_true rfl)) ?_
  refine lt_cV_c (fun m2 => ?_)
  refine Eq.trans (li_aload_n d267_105 (by rfl)) ?_
  refine Eq.trans (li_iload_n d267_106 (by rfl)) ?_
  refine Eq.trans (li_bipush d267_107 bi_12) ?_
  refine Eq.trans (li_irem d267_109) ?_
  refine Eq.trans (lt_gd_t (by decide)) ?_
  refine Eq.trans (li_ivV d267_110 ca_12_324 kd_269 kl_269 (by rfl) (by rfl) h0 (Nat.le_of_ble_eq_true rfl) (Nat.le_of_ble_eq_true rfl)) ?_
  refine lt_cV_c (fun m3 => ?_)
  refine Eq.trans (li_aload_n d267_113 (by rfl)) ?_
  refine Eq.trans (li_bipush d267_114 bi_58) ?_
  refine Eq.trans (li_ivV d267_116 ca_12_321 kd_268 kl_268 (by rfl) (by rfl) h0 (Nat.le_of_ble_eq_true rfl) (Nat.le_of_ble_eq_true rfl)) ?_
  refine lt_cV_c (fun m4 => ?_)
  refine Eq.trans (li_aload_n d267_119 (by rfl)) ?_
  refine Eq.trans (li_aload_n d267_120 (by rfl)) ?_
  refine Eq.trans (li_getr d267_121 fa_12_22 h0 rfl rfl rfl (by decide)) ?_
  refine Eq.trans (li_iload_n d267_124 (by rfl)) ?_
  refine Eq.trans (li_iald d267_125 (sf_of h0 6 (by decide) (by decide))) ?_
  refine lt_gd_c (fun g1 => ?_)
  refine Eq.trans (li_ivV d267_126 ca_12_324 kd_269 kl_269 (by rfl) (by rfl) h0 (Nat.le_of_ble_eq_true rfl) (Nat.le_of_ble_eq_true rfl)) ?_
  refine lt_cV_c (fun m5 => ?_)
  refine Eq.trans (li_iinc (ls' := [some (.inr (.inr (some a0))), some (.inl x1), some (.inl (0 : Int32)), some (.inl (x3 + (1 : Int32)))]) d267_129 (by rfl) (by decide) ic_1 (by rfl)) ?_
  refine Eq.trans (li_goto (t := 49) d267_132 (by rfl)) ?_
  rfl
theorem E267_137 (d : Nat) (a0 : Nat) (x1 : Int32) (x2 : Int32) (x3 : Int32) (h0 : ts_sh a0 = (0, 12)) (m : lt_m) : L267_137 d a0 x1 x2 x3 m = if (m.1 a0 10) ≤ x3 then (if ¬ x1 = (-1 : Int32) then (lt_cI (lt_ev d 181 [.inr (.inl ((x1).toInt64)), .inr (.inl (0 : Int64)), .inr (.inl ((((m.1 a0 38) - (1 : Int32))).toInt64))] m) (fun v1 m1 => (if v1 = 0 then (some (some (.inl (-1 : Int32)), m1)) else (lt_gd (0 ≤ x1 ∧ (x1).toNatClampNeg < 512) (some (some (.inl (m1.1 (a0 + 17) (x1).toNatClampNeg)), m1)))))) else (some (some (.inl (m.1 a0 38)), m))) else (if ¬ x3 = 0 then (lt_cV (lt_ev d 268 [.inr (.inr (some a0)), .inl (44 : Int32)] m) (fun m2 => (lt_gd (0 ≤ x3 ∧ (x3).toNatClampNeg < 6) (lt_cV (lt_ev d 269 [.inr (.inr (some a0)), .inl (m2.1 (a0 + 6) (x3).toNatClampNeg)] m2) (fun m3 => (L267_137 d a0 x1 x2 (x3 + (1 : Int32)) m3)))))) else (lt_cV (lt_ev d 268 [.inr (.inr (some a0)), .inl (124 : Int32)] m) (fun m4 => (lt_gd (0 ≤ x3 ∧ (x3).toNatClampNeg < 6) (lt_cV (lt_ev d 269 [.inr (.inr (some a0)), .inl (m4.1 (a0 + 6) (x3).toNatClampNeg)] m4) (fun m5 => (L267_137 d a0 x1 x2 (x3 + (1 : Int32)) m5))))))) := by
  show lt_run d Y267 137 [some (.inr (.inr (some a0))), some (.inl x1), some (.inl x2), some (.inl x3)] [] m = _
  refine Eq.trans (li_iload_n d267_137 (by rfl)) ?_
  refine Eq.trans (li_aload_n d267_138 (by rfl)) ?_
  refine Eq.trans (li_geti d267_139 fa_12_80 h0 rfl) ?_
  refine Eq.trans (li_icmp_ge (t := 176) d267_142 (by rfl)) ?_
  refine lt_ite (fun c1 => ?_) (fun c1 => ?_)
  · refine Eq.trans (li_iload_n d267_176 (by rfl)) ?_
    refine Eq.trans (li_iconst d267_177 ic_n1) ?_
    refine Eq.trans (li_icmp_ne (t := 188) d267_178 (by rfl)) ?_
    refine lt_ite (fun c2 => ?_) (fun c2 => ?_)
    · refine Eq.trans (li_iload_n d267_188 (by rfl)) ?_
      refine Eq.trans (li_i2l d267_189) ?_
      refine Eq.trans (li_lconst (v := 0) d267_190 (by decide)) ?_
      refine Eq.trans (li_aload_n d267_191 (by rfl)) ?_
      refine Eq.trans (li_geti d267_192 fa_12_318 h0 rfl) ?_
      refine Eq.trans (li_iconst d267_195 ic_1) ?_
      refine Eq.trans (li_isub d267_196) ?_
      refine Eq.trans (li_i2l d267_197) ?_
      refine Eq.trans (li_isI d267_198 bi_12_76 ca_12_76 kd_181 (by rfl) (by rfl) (Nat.le_of_ble_eq_true rfl) (Nat.le_of_ble_eq_true rfl)) ?_
      refine lt_cI_c (fun v1 m1 => ?_)
      refine Eq.trans (li_if_eq (t := 213) d267_201 (by rfl)) ?_
      refine lt_ite (fun c3 => ?_) (fun c3 => ?_)
      · refine Eq.trans (li_iconst d267_213 ic_n1) ?_
        exact li_iret d267_214 rfl
      · refine Eq.trans (li_aload_n d267_204 (by rfl)) ?_
        refine Eq.trans (li_getr d267_205 fa_12_64 h0 rfl rfl rfl (by decide)) ?_
        refine Eq.trans (li_iload_n d267_208 (by rfl)) ?_
        refine Eq.trans (li_bald d267_209 (sf_of h0 37 (by decide) (by decide))) ?_
        refine lt_gd_c (fun g1 => ?_)
        refine Eq.trans (li_goto (t := 214) d267_210 (by rfl)) ?_
        exact li_iret d267_214 rfl
    · refine Eq.trans (li_aload_n d267_181 (by rfl)) ?_
      refine Eq.trans (li_geti d267_182 fa_12_318 h0 rfl) ?_
      refine Eq.trans (li_goto (t := 214) d267_185 (by rfl)) ?_
      exact li_iret d267_214 rfl
  · refine Eq.trans (li_aload_n d267_145 (by rfl)) ?_
    refine Eq.trans (li_iload_n d267_146 (by rfl)) ?_
    refine Eq.trans (li_if_ne (t := 155) d267_147 (by rfl)) ?_
    refine lt_ite (fun c4 => ?_) (fun c4 => ?_)
    · refine Eq.trans (li_bipush d267_155 bi_44) ?_
      refine Eq.trans (li_ivV d267_157 ca_12_321 kd_268 kl_268 (by rfl) (by rfl) h0 (Nat.le_of_ble_eq_true rfl) (Nat.le_of_ble_eq_true rfl)) ?_
      refine lt_cV_c (fun m2 => ?_)
      refine Eq.trans (li_aload_n d267_160 (by rfl)) ?_
      refine Eq.trans (li_aload_n d267_161 (by rfl)) ?_
      refine Eq.trans (li_getr d267_162 fa_12_25 h0 rfl rfl rfl (by decide)) ?_
      refine Eq.trans (li_iload_n d267_165 (by rfl)) ?_
      refine Eq.trans (li_iald d267_166 (sf_of h0 7 (by decide) (by decide))) ?_
      refine lt_gd_c (fun g2 => ?_)
      refine Eq.trans (li_ivV d267_167 ca_12_324 kd_269 kl_269 (by rfl) (by rfl) h0 (Nat.le_of_ble_eq_true rfl) (Nat.le_of_ble_eq_true rfl)) ?_
      refine lt_cV_c (fun m3 => ?_)
      refine Eq.trans (li_iinc (ls' := [some (.inr (.inr (some a0))), some (.inl x1), some (.inl x2), some (.inl (x3 + (1 : Int32)))]) d267_170 (by rfl) (by decide) ic_1 (by rfl)) ?_
      refine Eq.trans (li_goto (t := 137) d267_173 (by rfl)) ?_
      rfl
    · refine Eq.trans (li_bipush d267_150 bi_124) ?_
      refine Eq.trans (li_goto (t := 157) d267_152 (by rfl)) ?_
      refine Eq.trans (li_ivV d267_157 ca_12_321 kd_268 kl_268 (by rfl) (by rfl) h0 (Nat.le_of_ble_eq_true rfl) (Nat.le_of_ble_eq_true rfl)) ?_
      refine lt_cV_c (fun m4 => ?_)
      refine Eq.trans (li_aload_n d267_160 (by rfl)) ?_
      refine Eq.trans (li_aload_n d267_161 (by rfl)) ?_
      refine Eq.trans (li_getr d267_162 fa_12_25 h0 rfl rfl rfl (by decide)) ?_
      refine Eq.trans (li_iload_n d267_165 (by rfl)) ?_
      refine Eq.trans (li_iald d267_166 (sf_of h0 7 (by decide) (by decide))) ?_
      refine lt_gd_c (fun g3 => ?_)
      refine Eq.trans (li_ivV d267_167 ca_12_324 kd_269 kl_269 (by rfl) (by rfl) h0 (Nat.le_of_ble_eq_true rfl) (Nat.le_of_ble_eq_true rfl)) ?_
      refine lt_cV_c (fun m5 => ?_)
      refine Eq.trans (li_iinc (ls' := [some (.inr (.inr (some a0))), some (.inl x1), some (.inl x2), some (.inl (x3 + (1 : Int32)))]) d267_170 (by rfl) (by decide) ic_1 (by rfl)) ?_
      refine Eq.trans (li_goto (t := 137) d267_173 (by rfl)) ?_
      rfl
/-! TransitSealsModel.writes(I)V -/
theorem d268_0 : decode Y268.2.1 0 = .ok (.aload_n 0, 1) := by decide +kernel
theorem d268_1 : decode Y268.2.1 1 = .ok (.getfield 64, 3) := by decide +kernel
theorem d268_4 : decode Y268.2.1 4 = .ok (.aload_n 0, 1) := by decide +kernel
theorem d268_5 : decode Y268.2.1 5 = .ok (.getfield 318, 3) := by decide +kernel
theorem d268_8 : decode Y268.2.1 8 = .ok (.iload_n 1, 1) := by decide +kernel
theorem d268_9 : decode Y268.2.1 9 = .ok (.i2b, 1) := by decide +kernel
theorem d268_10 : decode Y268.2.1 10 = .ok (.bastore, 1) := by decide +kernel
theorem d268_11 : decode Y268.2.1 11 = .ok (.aload_n 0, 1) := by decide +kernel
theorem d268_12 : decode Y268.2.1 12 = .ok (.dup, 1) := by decide +kernel
theorem d268_13 : decode Y268.2.1 13 = .ok (.getfield 318, 3) := by decide +kernel
theorem d268_16 : decode Y268.2.1 16 = .ok (.iconst 1, 1) := by decide +kernel
theorem d268_17 : decode Y268.2.1 17 = .ok (.iadd, 1) := by decide +kernel
theorem d268_18 : decode Y268.2.1 18 = .ok (.putfield 318, 3) := by decide +kernel
theorem d268_21 : decode Y268.2.1 21 = .ok (.return_, 1) := by decide +kernel
theorem E268 (d : Nat) (a0 : Nat) (x1 : Int32) (h0 : ts_sh a0 = (0, 12)) (m : lt_m) : lt_ev (d + 1) 268 [.inr (.inr (some a0)), .inl x1] m = lt_gd (0 ≤ (m.1 a0 38) ∧ ((m.1 a0 38)).toNatClampNeg < 512) (some (none, (lm_i (lm_i m (a0 + 17) ((m.1 a0 38)).toNatClampNeg (vp_nar .byte ((x1).toInt8.toInt32))) a0 38 (((lm_i m (a0 + 17) ((m.1 a0 38)).toNatClampNeg (vp_nar .byte ((x1).toInt8.toInt32))).1 a0 38) + (1 : Int32))))) := by
  refine Eq.trans (lt_enter2 (ls := [some (.inr (.inr (some a0))), some (.inl x1)]) hY268 (Nat.le_of_ble_eq_true rfl) (by rfl)) ?_
  refine Eq.trans (li_aload_n d268_0 (by rfl)) ?_
  refine Eq.trans (li_getr d268_1 fa_12_64 h0 rfl rfl rfl (by decide)) ?_
  refine Eq.trans (li_aload_n d268_4 (by rfl)) ?_
  refine Eq.trans (li_geti d268_5 fa_12_318 h0 rfl) ?_
  refine Eq.trans (li_iload_n d268_8 (by rfl)) ?_
  refine Eq.trans (li_i2b d268_9) ?_
  refine Eq.trans (li_bast d268_10 (sf_of h0 37 (by decide) (by decide))) ?_
  refine lt_gd_c (fun g1 => ?_)
  refine Eq.trans (li_aload_n d268_11 (by rfl)) ?_
  refine Eq.trans (li_dup d268_12 rfl) ?_
  refine Eq.trans (li_geti d268_13 fa_12_318 h0 rfl) ?_
  refine Eq.trans (li_iconst d268_16 ic_1) ?_
  refine Eq.trans (li_iadd d268_17) ?_
  refine Eq.trans (li_puti d268_18 fa_12_318 h0 rfl rfl) ?_
  exact li_vret d268_21 rfl
/-! TransitSealsModel.writesNumber(I)V -/
theorem d269_0 : decode Y269.2.1 0 = .ok (.iload_n 1, 1) := by decide +kernel
theorem d269_1 : decode Y269.2.1 1 = .ok (.bipush 99, 2) := by decide +kernel
theorem d269_3 : decode Y269.2.1 3 = .ok (.if_icmp .le 14, 3) := by decide +kernel
theorem d269_6 : decode Y269.2.1 6 = .ok (.aload_n 0, 1) := by decide +kernel
theorem d269_7 : decode Y269.2.1 7 = .ok (.bipush 48, 2) := by decide +kernel
theorem d269_9 : decode Y269.2.1 9 = .ok (.iload_n 1, 1) := by decide +kernel
theorem d269_10 : decode Y269.2.1 10 = .ok (.bipush 100, 2) := by decide +kernel
theorem d269_12 : decode Y269.2.1 12 = .ok (.idiv, 1) := by decide +kernel
theorem d269_13 : decode Y269.2.1 13 = .ok (.iadd, 1) := by decide +kernel
theorem d269_14 : decode Y269.2.1 14 = .ok (.invokevirtual 321, 3) := by decide +kernel
theorem d269_17 : decode Y269.2.1 17 = .ok (.iload_n 1, 1) := by decide +kernel
theorem d269_18 : decode Y269.2.1 18 = .ok (.bipush 9, 2) := by decide +kernel
theorem d269_20 : decode Y269.2.1 20 = .ok (.if_icmp .le 17, 3) := by decide +kernel
theorem d269_23 : decode Y269.2.1 23 = .ok (.aload_n 0, 1) := by decide +kernel
theorem d269_24 : decode Y269.2.1 24 = .ok (.bipush 48, 2) := by decide +kernel
theorem d269_26 : decode Y269.2.1 26 = .ok (.iload_n 1, 1) := by decide +kernel
theorem d269_27 : decode Y269.2.1 27 = .ok (.bipush 10, 2) := by decide +kernel
theorem d269_29 : decode Y269.2.1 29 = .ok (.idiv, 1) := by decide +kernel
theorem d269_30 : decode Y269.2.1 30 = .ok (.bipush 10, 2) := by decide +kernel
theorem d269_32 : decode Y269.2.1 32 = .ok (.irem, 1) := by decide +kernel
theorem d269_33 : decode Y269.2.1 33 = .ok (.iadd, 1) := by decide +kernel
theorem d269_34 : decode Y269.2.1 34 = .ok (.invokevirtual 321, 3) := by decide +kernel
theorem d269_37 : decode Y269.2.1 37 = .ok (.aload_n 0, 1) := by decide +kernel
theorem d269_38 : decode Y269.2.1 38 = .ok (.bipush 48, 2) := by decide +kernel
theorem d269_40 : decode Y269.2.1 40 = .ok (.iload_n 1, 1) := by decide +kernel
theorem d269_41 : decode Y269.2.1 41 = .ok (.bipush 10, 2) := by decide +kernel
theorem d269_43 : decode Y269.2.1 43 = .ok (.irem, 1) := by decide +kernel
theorem d269_44 : decode Y269.2.1 44 = .ok (.iadd, 1) := by decide +kernel
theorem d269_45 : decode Y269.2.1 45 = .ok (.invokevirtual 321, 3) := by decide +kernel
theorem d269_48 : decode Y269.2.1 48 = .ok (.return_, 1) := by decide +kernel
noncomputable def L269_17 (d : Nat) (a0 : Nat) (x1 : Int32) (m : lt_m) : Option lt_r := lt_run d Y269 17 [some (.inr (.inr (some a0))), some (.inl x1)] [] m
theorem E269 (d : Nat) (a0 : Nat) (x1 : Int32) (h0 : ts_sh a0 = (0, 12)) (m : lt_m) : lt_ev (d + 1) 269 [.inr (.inr (some a0)), .inl x1] m = if x1 ≤ (99 : Int32) then (L269_17 d a0 x1 m) else (lt_cV (lt_ev d 268 [.inr (.inr (some a0)), .inl ((48 : Int32) + (x1 / (100 : Int32)))] m) (fun m1 => (L269_17 d a0 x1 m1))) := by
  refine Eq.trans (lt_enter2 (ls := [some (.inr (.inr (some a0))), some (.inl x1)]) hY269 (Nat.le_of_ble_eq_true rfl) (by rfl)) ?_
  refine Eq.trans (li_iload_n d269_0 (by rfl)) ?_
  refine Eq.trans (li_bipush d269_1 bi_99) ?_
  refine Eq.trans (li_icmp_le (t := 17) d269_3 (by rfl)) ?_
  refine lt_ite (fun c1 => ?_) (fun c1 => ?_)
  · rfl
  · refine Eq.trans (li_aload_n d269_6 (by rfl)) ?_
    refine Eq.trans (li_bipush d269_7 bi_48) ?_
    refine Eq.trans (li_iload_n d269_9 (by rfl)) ?_
    refine Eq.trans (li_bipush d269_10 bi_100) ?_
    refine Eq.trans (li_idiv d269_12) ?_
    refine Eq.trans (lt_gd_t (by decide)) ?_
    refine Eq.trans (li_iadd d269_13) ?_
    refine Eq.trans (li_ivV d269_14 ca_12_321 kd_268 kl_268 (by rfl) (by rfl) h0 (Nat.le_of_ble_eq_true rfl) (Nat.le_of_ble_eq_true rfl)) ?_
    refine lt_cV_c (fun m1 => ?_)
    rfl
theorem E269_17 (d : Nat) (a0 : Nat) (x1 : Int32) (h0 : ts_sh a0 = (0, 12)) (m : lt_m) : L269_17 d a0 x1 m = if x1 ≤ (9 : Int32) then (lt_cV (lt_ev d 268 [.inr (.inr (some a0)), .inl ((48 : Int32) + (x1 - x1 / (10 : Int32) * (10 : Int32)))] m) (fun m1 => (some (none, m1)))) else (lt_cV (lt_ev d 268 [.inr (.inr (some a0)), .inl ((48 : Int32) + ((x1 / (10 : Int32)) - (x1 / (10 : Int32)) / (10 : Int32) * (10 : Int32)))] m) (fun m2 => (lt_cV (lt_ev d 268 [.inr (.inr (some a0)), .inl ((48 : Int32) + (x1 - x1 / (10 : Int32) * (10 : Int32)))] m2) (fun m3 => (some (none, m3)))))) := by
  show lt_run d Y269 17 [some (.inr (.inr (some a0))), some (.inl x1)] [] m = _
  refine Eq.trans (li_iload_n d269_17 (by rfl)) ?_
  refine Eq.trans (li_bipush d269_18 bi_9) ?_
  refine Eq.trans (li_icmp_le (t := 37) d269_20 (by rfl)) ?_
  refine lt_ite (fun c1 => ?_) (fun c1 => ?_)
  · refine Eq.trans (li_aload_n d269_37 (by rfl)) ?_
    refine Eq.trans (li_bipush d269_38 bi_48) ?_
    refine Eq.trans (li_iload_n d269_40 (by rfl)) ?_
    refine Eq.trans (li_bipush d269_41 bi_10) ?_
    refine Eq.trans (li_irem d269_43) ?_
    refine Eq.trans (lt_gd_t (by decide)) ?_
    refine Eq.trans (li_iadd d269_44) ?_
    refine Eq.trans (li_ivV d269_45 ca_12_321 kd_268 kl_268 (by rfl) (by rfl) h0 (Nat.le_of_ble_eq_true rfl) (Nat.le_of_ble_eq_true rfl)) ?_
    refine lt_cV_c (fun m1 => ?_)
    exact li_vret d269_48 rfl
  · refine Eq.trans (li_aload_n d269_23 (by rfl)) ?_
    refine Eq.trans (li_bipush d269_24 bi_48) ?_
    refine Eq.trans (li_iload_n d269_26 (by rfl)) ?_
    refine Eq.trans (li_bipush d269_27 bi_10) ?_
    refine Eq.trans (li_idiv d269_29) ?_
    refine Eq.trans (lt_gd_t (by decide)) ?_
    refine Eq.trans (li_bipush d269_30 bi_10) ?_
    refine Eq.trans (li_irem d269_32) ?_
    refine Eq.trans (lt_gd_t (by decide)) ?_
    refine Eq.trans (li_iadd d269_33) ?_
    refine Eq.trans (li_ivV d269_34 ca_12_321 kd_268 kl_268 (by rfl) (by rfl) h0 (Nat.le_of_ble_eq_true rfl) (Nat.le_of_ble_eq_true rfl)) ?_
    refine lt_cV_c (fun m2 => ?_)
    refine Eq.trans (li_aload_n d269_37 (by rfl)) ?_
    refine Eq.trans (li_bipush d269_38 bi_48) ?_
    refine Eq.trans (li_iload_n d269_40 (by rfl)) ?_
    refine Eq.trans (li_bipush d269_41 bi_10) ?_
    refine Eq.trans (li_irem d269_43) ?_
    refine Eq.trans (lt_gd_t (by decide)) ?_
    refine Eq.trans (li_iadd d269_44) ?_
    refine Eq.trans (li_ivV d269_45 ca_12_321 kd_268 kl_268 (by rfl) (by rfl) h0 (Nat.le_of_ble_eq_true rfl) (Nat.le_of_ble_eq_true rfl)) ?_
    refine lt_cV_c (fun m3 => ?_)
    exact li_vret d269_48 rfl
/-! TransitSealsModel.undo()I -/
theorem d270_0 : decode Y270.2.1 0 = .ok (.aload_n 0, 1) := by decide +kernel
theorem d270_1 : decode Y270.2.1 1 = .ok (.iconst 0, 1) := by decide +kernel
theorem d270_2 : decode Y270.2.1 2 = .ok (.putfield 67, 3) := by decide +kernel
theorem d270_5 : decode Y270.2.1 5 = .ok (.aload_n 0, 1) := by decide +kernel
theorem d270_6 : decode Y270.2.1 6 = .ok (.getfield 91, 3) := by decide +kernel
theorem d270_9 : decode Y270.2.1 9 = .ok (.ifCond .ne 6, 3) := by decide +kernel
theorem d270_12 : decode Y270.2.1 12 = .ok (.bipush (-2), 2) := by decide +kernel
theorem d270_14 : decode Y270.2.1 14 = .ok (.ireturn, 1) := by decide +kernel
theorem d270_15 : decode Y270.2.1 15 = .ok (.aload_n 0, 1) := by decide +kernel
theorem d270_16 : decode Y270.2.1 16 = .ok (.dup, 1) := by decide +kernel
theorem d270_17 : decode Y270.2.1 17 = .ok (.getfield 91, 3) := by decide +kernel
theorem d270_20 : decode Y270.2.1 20 = .ok (.iconst 1, 1) := by decide +kernel
theorem d270_21 : decode Y270.2.1 21 = .ok (.isub, 1) := by decide +kernel
theorem d270_22 : decode Y270.2.1 22 = .ok (.putfield 91, 3) := by decide +kernel
theorem d270_25 : decode Y270.2.1 25 = .ok (.iconst 0, 1) := by decide +kernel
theorem d270_26 : decode Y270.2.1 26 = .ok (.istore_n 1, 1) := by decide +kernel
theorem d270_27 : decode Y270.2.1 27 = .ok (.iload_n 1, 1) := by decide +kernel
theorem d270_28 : decode Y270.2.1 28 = .ok (.sipush 626, 3) := by decide +kernel
theorem d270_31 : decode Y270.2.1 31 = .ok (.if_icmp .ge 30, 3) := by decide +kernel
theorem d270_34 : decode Y270.2.1 34 = .ok (.aload_n 0, 1) := by decide +kernel
theorem d270_35 : decode Y270.2.1 35 = .ok (.getfield 7, 3) := by decide +kernel
theorem d270_38 : decode Y270.2.1 38 = .ok (.iload_n 1, 1) := by decide +kernel
theorem d270_39 : decode Y270.2.1 39 = .ok (.aload_n 0, 1) := by decide +kernel
theorem d270_40 : decode Y270.2.1 40 = .ok (.getfield 16, 3) := by decide +kernel
theorem d270_43 : decode Y270.2.1 43 = .ok (.sipush 626, 3) := by decide +kernel
theorem d270_46 : decode Y270.2.1 46 = .ok (.aload_n 0, 1) := by decide +kernel
theorem d270_47 : decode Y270.2.1 47 = .ok (.getfield 91, 3) := by decide +kernel
theorem d270_50 : decode Y270.2.1 50 = .ok (.imul, 1) := by decide +kernel
theorem d270_51 : decode Y270.2.1 51 = .ok (.iload_n 1, 1) := by decide +kernel
theorem d270_52 : decode Y270.2.1 52 = .ok (.iadd, 1) := by decide +kernel
theorem d270_53 : decode Y270.2.1 53 = .ok (.iaload, 1) := by decide +kernel
theorem d270_54 : decode Y270.2.1 54 = .ok (.iastore, 1) := by decide +kernel
theorem d270_55 : decode Y270.2.1 55 = .ok (.iinc 1 1, 3) := by decide +kernel
theorem d270_58 : decode Y270.2.1 58 = .ok (.goto (-31), 3) := by decide +kernel
theorem d270_61 : decode Y270.2.1 61 = .ok (.aload_n 0, 1) := by decide +kernel
theorem d270_62 : decode Y270.2.1 62 = .ok (.getfield 91, 3) := by decide +kernel
theorem d270_65 : decode Y270.2.1 65 = .ok (.ireturn, 1) := by decide +kernel
noncomputable def L270_27 (d : Nat) (a0 : Nat) (x1 : Int32) (m : lt_m) : Option lt_r := lt_run d Y270 27 [some (.inr (.inr (some a0))), some (.inl x1)] [] m
theorem E270 (d : Nat) (a0 : Nat) (h0 : ts_sh a0 = (0, 12)) (m : lt_m) : lt_ev (d + 1) 270 [.inr (.inr (some a0))] m = if ¬ ((lm_i m a0 15 (0 : Int32)).1 a0 4) = 0 then (L270_27 d a0 (0 : Int32) (lm_i (lm_i m a0 15 (0 : Int32)) a0 4 (((lm_i m a0 15 (0 : Int32)).1 a0 4) - (1 : Int32)))) else (some (some (.inl (-2 : Int32)), (lm_i m a0 15 (0 : Int32)))) := by
  refine Eq.trans (lt_enter2 (ls := [some (.inr (.inr (some a0))), none]) hY270 (Nat.le_of_ble_eq_true rfl) (by rfl)) ?_
  refine Eq.trans (li_aload_n d270_0 (by rfl)) ?_
  refine Eq.trans (li_iconst d270_1 ic_0) ?_
  refine Eq.trans (li_puti d270_2 fa_12_67 h0 rfl rfl) ?_
  refine Eq.trans (li_aload_n d270_5 (by rfl)) ?_
  refine Eq.trans (li_geti d270_6 fa_12_91 h0 rfl) ?_
  refine Eq.trans (li_if_ne (t := 15) d270_9 (by rfl)) ?_
  refine lt_ite (fun c1 => ?_) (fun c1 => ?_)
  · refine Eq.trans (li_aload_n d270_15 (by rfl)) ?_
    refine Eq.trans (li_dup d270_16 rfl) ?_
    refine Eq.trans (li_geti d270_17 fa_12_91 h0 rfl) ?_
    refine Eq.trans (li_iconst d270_20 ic_1) ?_
    refine Eq.trans (li_isub d270_21) ?_
    refine Eq.trans (li_puti d270_22 fa_12_91 h0 rfl rfl) ?_
    refine Eq.trans (li_iconst d270_25 ic_0) ?_
    refine Eq.trans (li_istore_n (ls' := [some (.inr (.inr (some a0))), some (.inl (0 : Int32))]) d270_26 (by decide) (by rfl)) ?_
    rfl
  · refine Eq.trans (li_bipush d270_12 bi_n2) ?_
    exact li_iret d270_14 rfl
theorem E270_27 (d : Nat) (a0 : Nat) (x1 : Int32) (h0 : ts_sh a0 = (0, 12)) (m : lt_m) : L270_27 d a0 x1 m = if (626 : Int32) ≤ x1 then (some (some (.inl (m.1 a0 4)), m)) else (lt_gd (0 ≤ (((626 : Int32) * (m.1 a0 4)) + x1) ∧ ((((626 : Int32) * (m.1 a0 4)) + x1)).toNatClampNeg < 5008) (lt_gd (0 ≤ x1 ∧ (x1).toNatClampNeg < 626) (L270_27 d a0 (x1 + (1 : Int32)) (lm_i m (a0 + 1) (x1).toNatClampNeg (m.1 (a0 + 3) ((((626 : Int32) * (m.1 a0 4)) + x1)).toNatClampNeg))))) := by
  show lt_run d Y270 27 [some (.inr (.inr (some a0))), some (.inl x1)] [] m = _
  refine Eq.trans (li_iload_n d270_27 (by rfl)) ?_
  refine Eq.trans (li_sipush d270_28 si_626) ?_
  refine Eq.trans (li_icmp_ge (t := 61) d270_31 (by rfl)) ?_
  refine lt_ite (fun c1 => ?_) (fun c1 => ?_)
  · refine Eq.trans (li_aload_n d270_61 (by rfl)) ?_
    refine Eq.trans (li_geti d270_62 fa_12_91 h0 rfl) ?_
    exact li_iret d270_65 rfl
  · refine Eq.trans (li_aload_n d270_34 (by rfl)) ?_
    refine Eq.trans (li_getr d270_35 fa_12_7 h0 rfl rfl rfl (by decide)) ?_
    refine Eq.trans (li_iload_n d270_38 (by rfl)) ?_
    refine Eq.trans (li_aload_n d270_39 (by rfl)) ?_
    refine Eq.trans (li_getr d270_40 fa_12_16 h0 rfl rfl rfl (by decide)) ?_
    refine Eq.trans (li_sipush d270_43 si_626) ?_
    refine Eq.trans (li_aload_n d270_46 (by rfl)) ?_
    refine Eq.trans (li_geti d270_47 fa_12_91 h0 rfl) ?_
    refine Eq.trans (li_imul d270_50) ?_
    refine Eq.trans (li_iload_n d270_51 (by rfl)) ?_
    refine Eq.trans (li_iadd d270_52) ?_
    refine Eq.trans (li_iald d270_53 (sf_of h0 3 (by decide) (by decide))) ?_
    refine lt_gd_c (fun g1 => ?_)
    refine Eq.trans (li_iast d270_54 (sf_of h0 0 (by decide) (by decide))) ?_
    refine lt_gd_c (fun g2 => ?_)
    refine Eq.trans (li_iinc (ls' := [some (.inr (.inr (some a0))), some (.inl (x1 + (1 : Int32)))]) d270_55 (by rfl) (by decide) ic_1 (by rfl)) ?_
    refine Eq.trans (li_goto (t := 27) d270_58 (by rfl)) ?_
    rfl
/-! TransitSealsModel.keeps()I -/
theorem d271_0 : decode Y271.2.1 0 = .ok (.aload_n 0, 1) := by decide +kernel
theorem d271_1 : decode Y271.2.1 1 = .ok (.iconst 0, 1) := by decide +kernel
theorem d271_2 : decode Y271.2.1 2 = .ok (.putfield 67, 3) := by decide +kernel
theorem d271_5 : decode Y271.2.1 5 = .ok (.iconst 0, 1) := by decide +kernel
theorem d271_6 : decode Y271.2.1 6 = .ok (.istore_n 1, 1) := by decide +kernel
theorem d271_7 : decode Y271.2.1 7 = .ok (.iload_n 1, 1) := by decide +kernel
theorem d271_8 : decode Y271.2.1 8 = .ok (.sipush 626, 3) := by decide +kernel
theorem d271_11 : decode Y271.2.1 11 = .ok (.if_icmp .ge 21, 3) := by decide +kernel
theorem d271_14 : decode Y271.2.1 14 = .ok (.aload_n 0, 1) := by decide +kernel
theorem d271_15 : decode Y271.2.1 15 = .ok (.getfield 13, 3) := by decide +kernel
theorem d271_18 : decode Y271.2.1 18 = .ok (.iload_n 1, 1) := by decide +kernel
theorem d271_19 : decode Y271.2.1 19 = .ok (.aload_n 0, 1) := by decide +kernel
theorem d271_20 : decode Y271.2.1 20 = .ok (.getfield 7, 3) := by decide +kernel
theorem d271_23 : decode Y271.2.1 23 = .ok (.iload_n 1, 1) := by decide +kernel
theorem d271_24 : decode Y271.2.1 24 = .ok (.iaload, 1) := by decide +kernel
theorem d271_25 : decode Y271.2.1 25 = .ok (.iastore, 1) := by decide +kernel
theorem d271_26 : decode Y271.2.1 26 = .ok (.iinc 1 1, 3) := by decide +kernel
theorem d271_29 : decode Y271.2.1 29 = .ok (.goto (-22), 3) := by decide +kernel
theorem d271_32 : decode Y271.2.1 32 = .ok (.aload_n 0, 1) := by decide +kernel
theorem d271_33 : decode Y271.2.1 33 = .ok (.iconst 1, 1) := by decide +kernel
theorem d271_34 : decode Y271.2.1 34 = .ok (.putfield 157, 3) := by decide +kernel
theorem d271_37 : decode Y271.2.1 37 = .ok (.aload_n 0, 1) := by decide +kernel
theorem d271_38 : decode Y271.2.1 38 = .ok (.getfield 7, 3) := by decide +kernel
theorem d271_41 : decode Y271.2.1 41 = .ok (.iconst 0, 1) := by decide +kernel
theorem d271_42 : decode Y271.2.1 42 = .ok (.iaload, 1) := by decide +kernel
theorem d271_43 : decode Y271.2.1 43 = .ok (.ireturn, 1) := by decide +kernel
noncomputable def L271_7 (d : Nat) (a0 : Nat) (x1 : Int32) (m : lt_m) : Option lt_r := lt_run d Y271 7 [some (.inr (.inr (some a0))), some (.inl x1)] [] m
theorem E271 (d : Nat) (a0 : Nat) (h0 : ts_sh a0 = (0, 12)) (m : lt_m) : lt_ev (d + 1) 271 [.inr (.inr (some a0))] m = L271_7 d a0 (0 : Int32) (lm_i m a0 15 (0 : Int32)) := by
  refine Eq.trans (lt_enter2 (ls := [some (.inr (.inr (some a0))), none]) hY271 (Nat.le_of_ble_eq_true rfl) (by rfl)) ?_
  refine Eq.trans (li_aload_n d271_0 (by rfl)) ?_
  refine Eq.trans (li_iconst d271_1 ic_0) ?_
  refine Eq.trans (li_puti d271_2 fa_12_67 h0 rfl rfl) ?_
  refine Eq.trans (li_iconst d271_5 ic_0) ?_
  refine Eq.trans (li_istore_n (ls' := [some (.inr (.inr (some a0))), some (.inl (0 : Int32))]) d271_6 (by decide) (by rfl)) ?_
  rfl
theorem E271_7 (d : Nat) (a0 : Nat) (x1 : Int32) (h0 : ts_sh a0 = (0, 12)) (m : lt_m) : L271_7 d a0 x1 m = if (626 : Int32) ≤ x1 then (lt_gd (0 ≤ (0 : Int32) ∧ ((0 : Int32)).toNatClampNeg < 626) (some (some (.inl ((lm_i m a0 2 (1 : Int32)).1 (a0 + 1) ((0 : Int32)).toNatClampNeg)), (lm_i m a0 2 (1 : Int32))))) else (lt_gd (0 ≤ x1 ∧ (x1).toNatClampNeg < 626) (lt_gd (0 ≤ x1 ∧ (x1).toNatClampNeg < 626) (L271_7 d a0 (x1 + (1 : Int32)) (lm_i m (a0 + 2) (x1).toNatClampNeg (m.1 (a0 + 1) (x1).toNatClampNeg))))) := by
  show lt_run d Y271 7 [some (.inr (.inr (some a0))), some (.inl x1)] [] m = _
  refine Eq.trans (li_iload_n d271_7 (by rfl)) ?_
  refine Eq.trans (li_sipush d271_8 si_626) ?_
  refine Eq.trans (li_icmp_ge (t := 32) d271_11 (by rfl)) ?_
  refine lt_ite (fun c1 => ?_) (fun c1 => ?_)
  · refine Eq.trans (li_aload_n d271_32 (by rfl)) ?_
    refine Eq.trans (li_iconst d271_33 ic_1) ?_
    refine Eq.trans (li_putz d271_34 fa_12_157 h0 rfl rfl) ?_
    refine Eq.trans (lt_gd_t (by decide)) ?_
    refine Eq.trans (li_aload_n d271_37 (by rfl)) ?_
    refine Eq.trans (li_getr d271_38 fa_12_7 h0 rfl rfl rfl (by decide)) ?_
    refine Eq.trans (li_iconst d271_41 ic_0) ?_
    refine Eq.trans (li_iald d271_42 (sf_of h0 0 (by decide) (by decide))) ?_
    refine lt_gd_c (fun g1 => ?_)
    exact li_iret d271_43 rfl
  · refine Eq.trans (li_aload_n d271_14 (by rfl)) ?_
    refine Eq.trans (li_getr d271_15 fa_12_13 h0 rfl rfl rfl (by decide)) ?_
    refine Eq.trans (li_iload_n d271_18 (by rfl)) ?_
    refine Eq.trans (li_aload_n d271_19 (by rfl)) ?_
    refine Eq.trans (li_getr d271_20 fa_12_7 h0 rfl rfl rfl (by decide)) ?_
    refine Eq.trans (li_iload_n d271_23 (by rfl)) ?_
    refine Eq.trans (li_iald d271_24 (sf_of h0 0 (by decide) (by decide))) ?_
    refine lt_gd_c (fun g2 => ?_)
    refine Eq.trans (li_iast d271_25 (sf_of h0 1 (by decide) (by decide))) ?_
    refine lt_gd_c (fun g3 => ?_)
    refine Eq.trans (li_iinc (ls' := [some (.inr (.inr (some a0))), some (.inl (x1 + (1 : Int32)))]) d271_26 (by rfl) (by decide) ic_1 (by rfl)) ?_
    refine Eq.trans (li_goto (t := 7) d271_29 (by rfl)) ?_
    rfl
/-! TransitSealsModel.back()I -/
theorem d272_0 : decode Y272.2.1 0 = .ok (.aload_n 0, 1) := by decide +kernel
theorem d272_1 : decode Y272.2.1 1 = .ok (.iconst 0, 1) := by decide +kernel
theorem d272_2 : decode Y272.2.1 2 = .ok (.putfield 67, 3) := by decide +kernel
theorem d272_5 : decode Y272.2.1 5 = .ok (.aload_n 0, 1) := by decide +kernel
theorem d272_6 : decode Y272.2.1 6 = .ok (.getfield 157, 3) := by decide +kernel
theorem d272_9 : decode Y272.2.1 9 = .ok (.ifCond .ne 6, 3) := by decide +kernel
theorem d272_12 : decode Y272.2.1 12 = .ok (.bipush (-2), 2) := by decide +kernel
theorem d272_14 : decode Y272.2.1 14 = .ok (.ireturn, 1) := by decide +kernel
theorem d272_15 : decode Y272.2.1 15 = .ok (.aload_n 0, 1) := by decide +kernel
theorem d272_16 : decode Y272.2.1 16 = .ok (.invokevirtual 243, 3) := by decide +kernel
theorem d272_19 : decode Y272.2.1 19 = .ok (.iconst 0, 1) := by decide +kernel
theorem d272_20 : decode Y272.2.1 20 = .ok (.istore_n 1, 1) := by decide +kernel
theorem d272_21 : decode Y272.2.1 21 = .ok (.iload_n 1, 1) := by decide +kernel
theorem d272_22 : decode Y272.2.1 22 = .ok (.sipush 626, 3) := by decide +kernel
theorem d272_25 : decode Y272.2.1 25 = .ok (.if_icmp .ge 21, 3) := by decide +kernel
theorem d272_28 : decode Y272.2.1 28 = .ok (.aload_n 0, 1) := by decide +kernel
theorem d272_29 : decode Y272.2.1 29 = .ok (.getfield 7, 3) := by decide +kernel
theorem d272_32 : decode Y272.2.1 32 = .ok (.iload_n 1, 1) := by decide +kernel
theorem d272_33 : decode Y272.2.1 33 = .ok (.aload_n 0, 1) := by decide +kernel
theorem d272_34 : decode Y272.2.1 34 = .ok (.getfield 13, 3) := by decide +kernel
theorem d272_37 : decode Y272.2.1 37 = .ok (.iload_n 1, 1) := by decide +kernel
theorem d272_38 : decode Y272.2.1 38 = .ok (.iaload, 1) := by decide +kernel
theorem d272_39 : decode Y272.2.1 39 = .ok (.iastore, 1) := by decide +kernel
theorem d272_40 : decode Y272.2.1 40 = .ok (.iinc 1 1, 3) := by decide +kernel
theorem d272_43 : decode Y272.2.1 43 = .ok (.goto (-22), 3) := by decide +kernel
theorem d272_46 : decode Y272.2.1 46 = .ok (.aload_n 0, 1) := by decide +kernel
theorem d272_47 : decode Y272.2.1 47 = .ok (.getfield 7, 3) := by decide +kernel
theorem d272_50 : decode Y272.2.1 50 = .ok (.iconst 0, 1) := by decide +kernel
theorem d272_51 : decode Y272.2.1 51 = .ok (.iaload, 1) := by decide +kernel
theorem d272_52 : decode Y272.2.1 52 = .ok (.ireturn, 1) := by decide +kernel
noncomputable def L272_21 (d : Nat) (a0 : Nat) (x1 : Int32) (m : lt_m) : Option lt_r := lt_run d Y272 21 [some (.inr (.inr (some a0))), some (.inl x1)] [] m
theorem E272 (d : Nat) (a0 : Nat) (h0 : ts_sh a0 = (0, 12)) (m : lt_m) : lt_ev (d + 1) 272 [.inr (.inr (some a0))] m = if ¬ ((lm_i m a0 15 (0 : Int32)).1 a0 2) = 0 then (lt_cV (lt_ev d 211 [.inr (.inr (some a0))] (lm_i m a0 15 (0 : Int32))) (fun m1 => (L272_21 d a0 (0 : Int32) m1))) else (some (some (.inl (-2 : Int32)), (lm_i m a0 15 (0 : Int32)))) := by
  refine Eq.trans (lt_enter2 (ls := [some (.inr (.inr (some a0))), none]) hY272 (Nat.le_of_ble_eq_true rfl) (by rfl)) ?_
  refine Eq.trans (li_aload_n d272_0 (by rfl)) ?_
  refine Eq.trans (li_iconst d272_1 ic_0) ?_
  refine Eq.trans (li_puti d272_2 fa_12_67 h0 rfl rfl) ?_
  refine Eq.trans (li_aload_n d272_5 (by rfl)) ?_
  refine Eq.trans (li_geti d272_6 fa_12_157 h0 rfl) ?_
  refine Eq.trans (li_if_ne (t := 15) d272_9 (by rfl)) ?_
  refine lt_ite (fun c1 => ?_) (fun c1 => ?_)
  · refine Eq.trans (li_aload_n d272_15 (by rfl)) ?_
    refine Eq.trans (li_ivV d272_16 ca_12_243 kd_211 kl_211 (by rfl) (by rfl) h0 (Nat.le_of_ble_eq_true rfl) (Nat.le_of_ble_eq_true rfl)) ?_
    refine lt_cV_c (fun m1 => ?_)
    refine Eq.trans (li_iconst d272_19 ic_0) ?_
    refine Eq.trans (li_istore_n (ls' := [some (.inr (.inr (some a0))), some (.inl (0 : Int32))]) d272_20 (by decide) (by rfl)) ?_
    rfl
  · refine Eq.trans (li_bipush d272_12 bi_n2) ?_
    exact li_iret d272_14 rfl
theorem E272_21 (d : Nat) (a0 : Nat) (x1 : Int32) (h0 : ts_sh a0 = (0, 12)) (m : lt_m) : L272_21 d a0 x1 m = if (626 : Int32) ≤ x1 then (lt_gd (0 ≤ (0 : Int32) ∧ ((0 : Int32)).toNatClampNeg < 626) (some (some (.inl (m.1 (a0 + 1) ((0 : Int32)).toNatClampNeg)), m))) else (lt_gd (0 ≤ x1 ∧ (x1).toNatClampNeg < 626) (lt_gd (0 ≤ x1 ∧ (x1).toNatClampNeg < 626) (L272_21 d a0 (x1 + (1 : Int32)) (lm_i m (a0 + 1) (x1).toNatClampNeg (m.1 (a0 + 2) (x1).toNatClampNeg))))) := by
  show lt_run d Y272 21 [some (.inr (.inr (some a0))), some (.inl x1)] [] m = _
  refine Eq.trans (li_iload_n d272_21 (by rfl)) ?_
  refine Eq.trans (li_sipush d272_22 si_626) ?_
  refine Eq.trans (li_icmp_ge (t := 46) d272_25 (by rfl)) ?_
  refine lt_ite (fun c1 => ?_) (fun c1 => ?_)
  · refine Eq.trans (li_aload_n d272_46 (by rfl)) ?_
    refine Eq.trans (li_getr d272_47 fa_12_7 h0 rfl rfl rfl (by decide)) ?_
    refine Eq.trans (li_iconst d272_50 ic_0) ?_
    refine Eq.trans (li_iald d272_51 (sf_of h0 0 (by decide) (by decide))) ?_
    refine lt_gd_c (fun g1 => ?_)
    exact li_iret d272_52 rfl
  · refine Eq.trans (li_aload_n d272_28 (by rfl)) ?_
    refine Eq.trans (li_getr d272_29 fa_12_7 h0 rfl rfl rfl (by decide)) ?_
    refine Eq.trans (li_iload_n d272_32 (by rfl)) ?_
    refine Eq.trans (li_aload_n d272_33 (by rfl)) ?_
    refine Eq.trans (li_getr d272_34 fa_12_13 h0 rfl rfl rfl (by decide)) ?_
    refine Eq.trans (li_iload_n d272_37 (by rfl)) ?_
    refine Eq.trans (li_iald d272_38 (sf_of h0 1 (by decide) (by decide))) ?_
    refine lt_gd_c (fun g2 => ?_)
    refine Eq.trans (li_iast d272_39 (sf_of h0 0 (by decide) (by decide))) ?_
    refine lt_gd_c (fun g3 => ?_)
    refine Eq.trans (li_iinc (ls' := [some (.inr (.inr (some a0))), some (.inl (x1 + (1 : Int32)))]) d272_40 (by rfl) (by decide) ic_1 (by rfl)) ?_
    refine Eq.trans (li_goto (t := 21) d272_43 (by rfl)) ?_
    rfl
/-! TransitSealsModel.count(I)I -/
theorem d273_0 : decode Y273.2.1 0 = .ok (.aload_n 0, 1) := by decide +kernel
theorem d273_1 : decode Y273.2.1 1 = .ok (.iconst 0, 1) := by decide +kernel
theorem d273_2 : decode Y273.2.1 2 = .ok (.putfield 67, 3) := by decide +kernel
theorem d273_5 : decode Y273.2.1 5 = .ok (.iload_n 1, 1) := by decide +kernel
theorem d273_6 : decode Y273.2.1 6 = .ok (.tableswitch 121 0 10 #[58, 65, 70, 75, 80, 87, 94, 99, 106, 111, 116], 58) := by decide +kernel
theorem d273_64 : decode Y273.2.1 64 = .ok (.aload_n 0, 1) := by decide +kernel
theorem d273_65 : decode Y273.2.1 65 = .ok (.getfield 7, 3) := by decide +kernel
theorem d273_68 : decode Y273.2.1 68 = .ok (.iconst 0, 1) := by decide +kernel
theorem d273_69 : decode Y273.2.1 69 = .ok (.iaload, 1) := by decide +kernel
theorem d273_70 : decode Y273.2.1 70 = .ok (.ireturn, 1) := by decide +kernel
theorem d273_71 : decode Y273.2.1 71 = .ok (.aload_n 0, 1) := by decide +kernel
theorem d273_72 : decode Y273.2.1 72 = .ok (.getfield 28, 3) := by decide +kernel
theorem d273_75 : decode Y273.2.1 75 = .ok (.ireturn, 1) := by decide +kernel
theorem d273_76 : decode Y273.2.1 76 = .ok (.aload_n 0, 1) := by decide +kernel
theorem d273_77 : decode Y273.2.1 77 = .ok (.getfield 154, 3) := by decide +kernel
theorem d273_80 : decode Y273.2.1 80 = .ok (.ireturn, 1) := by decide +kernel
theorem d273_81 : decode Y273.2.1 81 = .ok (.aload_n 0, 1) := by decide +kernel
theorem d273_82 : decode Y273.2.1 82 = .ok (.getfield 80, 3) := by decide +kernel
theorem d273_85 : decode Y273.2.1 85 = .ok (.ireturn, 1) := by decide +kernel
theorem d273_86 : decode Y273.2.1 86 = .ok (.aload_n 0, 1) := by decide +kernel
theorem d273_87 : decode Y273.2.1 87 = .ok (.getfield 7, 3) := by decide +kernel
theorem d273_90 : decode Y273.2.1 90 = .ok (.iconst 1, 1) := by decide +kernel
theorem d273_91 : decode Y273.2.1 91 = .ok (.iaload, 1) := by decide +kernel
theorem d273_92 : decode Y273.2.1 92 = .ok (.ireturn, 1) := by decide +kernel
theorem d273_93 : decode Y273.2.1 93 = .ok (.aload_n 0, 1) := by decide +kernel
theorem d273_94 : decode Y273.2.1 94 = .ok (.getfield 7, 3) := by decide +kernel
theorem d273_97 : decode Y273.2.1 97 = .ok (.iconst 2, 1) := by decide +kernel
theorem d273_98 : decode Y273.2.1 98 = .ok (.iaload, 1) := by decide +kernel
theorem d273_99 : decode Y273.2.1 99 = .ok (.ireturn, 1) := by decide +kernel
theorem d273_100 : decode Y273.2.1 100 = .ok (.aload_n 0, 1) := by decide +kernel
theorem d273_101 : decode Y273.2.1 101 = .ok (.getfield 91, 3) := by decide +kernel
theorem d273_104 : decode Y273.2.1 104 = .ok (.ireturn, 1) := by decide +kernel
theorem d273_105 : decode Y273.2.1 105 = .ok (.aload_n 0, 1) := by decide +kernel
theorem d273_106 : decode Y273.2.1 106 = .ok (.getfield 7, 3) := by decide +kernel
theorem d273_109 : decode Y273.2.1 109 = .ok (.iconst 3, 1) := by decide +kernel
theorem d273_110 : decode Y273.2.1 110 = .ok (.iaload, 1) := by decide +kernel
theorem d273_111 : decode Y273.2.1 111 = .ok (.ireturn, 1) := by decide +kernel
theorem d273_112 : decode Y273.2.1 112 = .ok (.aload_n 0, 1) := by decide +kernel
theorem d273_113 : decode Y273.2.1 113 = .ok (.getfield 70, 3) := by decide +kernel
theorem d273_116 : decode Y273.2.1 116 = .ok (.ireturn, 1) := by decide +kernel
theorem d273_117 : decode Y273.2.1 117 = .ok (.aload_n 0, 1) := by decide +kernel
theorem d273_118 : decode Y273.2.1 118 = .ok (.getfield 73, 3) := by decide +kernel
theorem d273_121 : decode Y273.2.1 121 = .ok (.ireturn, 1) := by decide +kernel
theorem d273_122 : decode Y273.2.1 122 = .ok (.aload_n 0, 1) := by decide +kernel
theorem d273_123 : decode Y273.2.1 123 = .ok (.invokevirtual 275, 3) := by decide +kernel
theorem d273_126 : decode Y273.2.1 126 = .ok (.ireturn, 1) := by decide +kernel
theorem d273_127 : decode Y273.2.1 127 = .ok (.iconst (-1), 1) := by decide +kernel
theorem d273_128 : decode Y273.2.1 128 = .ok (.ireturn, 1) := by decide +kernel
theorem E273 (d : Nat) (a0 : Nat) (x1 : Int32) (h0 : ts_sh a0 = (0, 12)) (m : lt_m) : lt_ev (d + 1) 273 [.inr (.inr (some a0)), .inl x1] m = lt_sw x1 [(lt_gd (0 ≤ (0 : Int32) ∧ ((0 : Int32)).toNatClampNeg < 626) (some (some (.inl ((lm_i m a0 15 (0 : Int32)).1 (a0 + 1) ((0 : Int32)).toNatClampNeg)), (lm_i m a0 15 (0 : Int32))))), (some (some (.inl ((lm_i m a0 15 (0 : Int32)).1 a0 8)), (lm_i m a0 15 (0 : Int32)))), (some (some (.inl ((lm_i m a0 15 (0 : Int32)).1 a0 9)), (lm_i m a0 15 (0 : Int32)))), (some (some (.inl ((lm_i m a0 15 (0 : Int32)).1 a0 10)), (lm_i m a0 15 (0 : Int32)))), (lt_gd (0 ≤ (1 : Int32) ∧ ((1 : Int32)).toNatClampNeg < 626) (some (some (.inl ((lm_i m a0 15 (0 : Int32)).1 (a0 + 1) ((1 : Int32)).toNatClampNeg)), (lm_i m a0 15 (0 : Int32))))), (lt_gd (0 ≤ (2 : Int32) ∧ ((2 : Int32)).toNatClampNeg < 626) (some (some (.inl ((lm_i m a0 15 (0 : Int32)).1 (a0 + 1) ((2 : Int32)).toNatClampNeg)), (lm_i m a0 15 (0 : Int32))))), (some (some (.inl ((lm_i m a0 15 (0 : Int32)).1 a0 4)), (lm_i m a0 15 (0 : Int32)))), (lt_gd (0 ≤ (3 : Int32) ∧ ((3 : Int32)).toNatClampNeg < 626) (some (some (.inl ((lm_i m a0 15 (0 : Int32)).1 (a0 + 1) ((3 : Int32)).toNatClampNeg)), (lm_i m a0 15 (0 : Int32))))), (some (some (.inl ((lm_i m a0 15 (0 : Int32)).1 a0 14)), (lm_i m a0 15 (0 : Int32)))), (some (some (.inl ((lm_i m a0 15 (0 : Int32)).1 a0 12)), (lm_i m a0 15 (0 : Int32)))), (lt_cI (lt_ev d 233 [.inr (.inr (some a0))] (lm_i m a0 15 (0 : Int32))) (fun v1 m1 => (some (some (.inl v1), m1))))] (some (some (.inl (-1 : Int32)), (lm_i m a0 15 (0 : Int32)))) := by
  refine Eq.trans (lt_enter2 (ls := [some (.inr (.inr (some a0))), some (.inl x1)]) hY273 (Nat.le_of_ble_eq_true rfl) (by rfl)) ?_
  refine Eq.trans (li_aload_n d273_0 (by rfl)) ?_
  refine Eq.trans (li_iconst d273_1 ic_0) ?_
  refine Eq.trans (li_puti d273_2 fa_12_67 h0 rfl rfl) ?_
  refine Eq.trans (li_iload_n d273_5 (by rfl)) ?_
  refine Eq.trans (li_tsw (n := 10) (td := 127) (ts := [64, 71, 76, 81, 86, 93, 100, 105, 112, 117, 122]) d273_6 (by decide) (by decide) (by rfl)) ?_
  refine lt_sw_c ?_ ?_
  · simp only [List.map_cons, List.map_nil]
    refine lt_l2 ?_ (lt_l2 ?_ (lt_l2 ?_ (lt_l2 ?_ (lt_l2 ?_ (lt_l2 ?_ (lt_l2 ?_ (lt_l2 ?_ (lt_l2 ?_ (lt_l2 ?_ (lt_l2 ?_ (rfl)))))))))))
    · refine Eq.trans (li_aload_n d273_64 (by rfl)) ?_
      refine Eq.trans (li_getr d273_65 fa_12_7 h0 rfl rfl rfl (by decide)) ?_
      refine Eq.trans (li_iconst d273_68 ic_0) ?_
      refine Eq.trans (li_iald d273_69 (sf_of h0 0 (by decide) (by decide))) ?_
      refine lt_gd_c (fun g1 => ?_)
      exact li_iret d273_70 rfl
    · refine Eq.trans (li_aload_n d273_71 (by rfl)) ?_
      refine Eq.trans (li_geti d273_72 fa_12_28 h0 rfl) ?_
      exact li_iret d273_75 rfl
    · refine Eq.trans (li_aload_n d273_76 (by rfl)) ?_
      refine Eq.trans (li_geti d273_77 fa_12_154 h0 rfl) ?_
      exact li_iret d273_80 rfl
    · refine Eq.trans (li_aload_n d273_81 (by rfl)) ?_
      refine Eq.trans (li_geti d273_82 fa_12_80 h0 rfl) ?_
      exact li_iret d273_85 rfl
    · refine Eq.trans (li_aload_n d273_86 (by rfl)) ?_
      refine Eq.trans (li_getr d273_87 fa_12_7 h0 rfl rfl rfl (by decide)) ?_
      refine Eq.trans (li_iconst d273_90 ic_1) ?_
      refine Eq.trans (li_iald d273_91 (sf_of h0 0 (by decide) (by decide))) ?_
      refine lt_gd_c (fun g2 => ?_)
      exact li_iret d273_92 rfl
    · refine Eq.trans (li_aload_n d273_93 (by rfl)) ?_
      refine Eq.trans (li_getr d273_94 fa_12_7 h0 rfl rfl rfl (by decide)) ?_
      refine Eq.trans (li_iconst d273_97 ic_2) ?_
      refine Eq.trans (li_iald d273_98 (sf_of h0 0 (by decide) (by decide))) ?_
      refine lt_gd_c (fun g3 => ?_)
      exact li_iret d273_99 rfl
    · refine Eq.trans (li_aload_n d273_100 (by rfl)) ?_
      refine Eq.trans (li_geti d273_101 fa_12_91 h0 rfl) ?_
      exact li_iret d273_104 rfl
    · refine Eq.trans (li_aload_n d273_105 (by rfl)) ?_
      refine Eq.trans (li_getr d273_106 fa_12_7 h0 rfl rfl rfl (by decide)) ?_
      refine Eq.trans (li_iconst d273_109 ic_3) ?_
      refine Eq.trans (li_iald d273_110 (sf_of h0 0 (by decide) (by decide))) ?_
      refine lt_gd_c (fun g4 => ?_)
      exact li_iret d273_111 rfl
    · refine Eq.trans (li_aload_n d273_112 (by rfl)) ?_
      refine Eq.trans (li_geti d273_113 fa_12_70 h0 rfl) ?_
      exact li_iret d273_116 rfl
    · refine Eq.trans (li_aload_n d273_117 (by rfl)) ?_
      refine Eq.trans (li_geti d273_118 fa_12_73 h0 rfl) ?_
      exact li_iret d273_121 rfl
    · refine Eq.trans (li_aload_n d273_122 (by rfl)) ?_
      refine Eq.trans (li_ivI d273_123 ca_12_275 kd_233 kl_233 (by rfl) (by rfl) h0 (Nat.le_of_ble_eq_true rfl) (Nat.le_of_ble_eq_true rfl)) ?_
      refine lt_cI_c (fun v1 m1 => ?_)
      exact li_iret d273_126 rfl
  · refine Eq.trans (li_iconst d273_127 ic_n1) ?_
    exact li_iret d273_128 rfl
/-! TransitSealsModel.row(I)J -/
theorem d274_0 : decode Y274.2.1 0 = .ok (.aload_n 0, 1) := by decide +kernel
theorem d274_1 : decode Y274.2.1 1 = .ok (.iconst 0, 1) := by decide +kernel
theorem d274_2 : decode Y274.2.1 2 = .ok (.putfield 67, 3) := by decide +kernel
theorem d274_5 : decode Y274.2.1 5 = .ok (.iload_n 1, 1) := by decide +kernel
theorem d274_6 : decode Y274.2.1 6 = .ok (.i2l, 1) := by decide +kernel
theorem d274_7 : decode Y274.2.1 7 = .ok (.lconst 0, 1) := by decide +kernel
theorem d274_8 : decode Y274.2.1 8 = .ok (.aload_n 0, 1) := by decide +kernel
theorem d274_9 : decode Y274.2.1 9 = .ok (.getfield 70, 3) := by decide +kernel
theorem d274_12 : decode Y274.2.1 12 = .ok (.iconst 1, 1) := by decide +kernel
theorem d274_13 : decode Y274.2.1 13 = .ok (.isub, 1) := by decide +kernel
theorem d274_14 : decode Y274.2.1 14 = .ok (.i2l, 1) := by decide +kernel
theorem d274_15 : decode Y274.2.1 15 = .ok (.invokestatic 76, 3) := by decide +kernel
theorem d274_18 : decode Y274.2.1 18 = .ok (.ifCond .eq 12, 3) := by decide +kernel
theorem d274_21 : decode Y274.2.1 21 = .ok (.aload_n 0, 1) := by decide +kernel
theorem d274_22 : decode Y274.2.1 22 = .ok (.getfield 36, 3) := by decide +kernel
theorem d274_25 : decode Y274.2.1 25 = .ok (.iload_n 1, 1) := by decide +kernel
theorem d274_26 : decode Y274.2.1 26 = .ok (.laload, 1) := by decide +kernel
theorem d274_27 : decode Y274.2.1 27 = .ok (.goto 8, 3) := by decide +kernel
theorem d274_30 : decode Y274.2.1 30 = .ok (.aload_n 0, 1) := by decide +kernel
theorem d274_31 : decode Y274.2.1 31 = .ok (.invokevirtual 327, 3) := by decide +kernel
theorem d274_34 : decode Y274.2.1 34 = .ok (.i2l, 1) := by decide +kernel
theorem d274_35 : decode Y274.2.1 35 = .ok (.lreturn, 1) := by decide +kernel
theorem E274 (d : Nat) (a0 : Nat) (x1 : Int32) (h0 : ts_sh a0 = (0, 12)) (m : lt_m) : lt_ev (d + 1) 274 [.inr (.inr (some a0)), .inl x1] m = lt_cI (lt_ev d 181 [.inr (.inl ((x1).toInt64)), .inr (.inl (0 : Int64)), .inr (.inl (((((lm_i m a0 15 (0 : Int32)).1 a0 14) - (1 : Int32))).toInt64))] (lm_i m a0 15 (0 : Int32))) (fun v1 m1 => (if v1 = 0 then (lt_cI (lt_ev d 275 [.inr (.inr (some a0))] m1) (fun v2 m2 => (some (some (.inr (.inl ((v2).toInt64))), m2)))) else (lt_gd (0 ≤ x1 ∧ (x1).toNatClampNeg < 32) (some (some (.inr (.inl (m1.2.1 (a0 + 8) (x1).toNatClampNeg))), m1))))) := by
  refine Eq.trans (lt_enter2 (ls := [some (.inr (.inr (some a0))), some (.inl x1)]) hY274 (Nat.le_of_ble_eq_true rfl) (by rfl)) ?_
  refine Eq.trans (li_aload_n d274_0 (by rfl)) ?_
  refine Eq.trans (li_iconst d274_1 ic_0) ?_
  refine Eq.trans (li_puti d274_2 fa_12_67 h0 rfl rfl) ?_
  refine Eq.trans (li_iload_n d274_5 (by rfl)) ?_
  refine Eq.trans (li_i2l d274_6) ?_
  refine Eq.trans (li_lconst (v := 0) d274_7 (by decide)) ?_
  refine Eq.trans (li_aload_n d274_8 (by rfl)) ?_
  refine Eq.trans (li_geti d274_9 fa_12_70 h0 rfl) ?_
  refine Eq.trans (li_iconst d274_12 ic_1) ?_
  refine Eq.trans (li_isub d274_13) ?_
  refine Eq.trans (li_i2l d274_14) ?_
  refine Eq.trans (li_isI d274_15 bi_12_76 ca_12_76 kd_181 (by rfl) (by rfl) (Nat.le_of_ble_eq_true rfl) (Nat.le_of_ble_eq_true rfl)) ?_
  refine lt_cI_c (fun v1 m1 => ?_)
  refine Eq.trans (li_if_eq (t := 30) d274_18 (by rfl)) ?_
  refine lt_ite (fun c1 => ?_) (fun c1 => ?_)
  · refine Eq.trans (li_aload_n d274_30 (by rfl)) ?_
    refine Eq.trans (li_ivI d274_31 ca_12_327 kd_275 kl_275 (by rfl) (by rfl) h0 (Nat.le_of_ble_eq_true rfl) (Nat.le_of_ble_eq_true rfl)) ?_
    refine lt_cI_c (fun v2 m2 => ?_)
    refine Eq.trans (li_i2l d274_34) ?_
    exact li_lret d274_35 rfl
  · refine Eq.trans (li_aload_n d274_21 (by rfl)) ?_
    refine Eq.trans (li_getr d274_22 fa_12_36 h0 rfl rfl rfl (by decide)) ?_
    refine Eq.trans (li_iload_n d274_25 (by rfl)) ?_
    refine Eq.trans (li_lald d274_26 (sf_of h0 13 (by decide) (by decide))) ?_
    refine lt_gd_c (fun g1 => ?_)
    refine Eq.trans (li_goto (t := 35) d274_27 (by rfl)) ?_
    exact li_lret d274_35 rfl
/-! TransitSealsModel.lost()I -/
theorem d275_0 : decode Y275.2.1 0 = .ok (.aload_n 0, 1) := by decide +kernel
theorem d275_1 : decode Y275.2.1 1 = .ok (.iconst 1, 1) := by decide +kernel
theorem d275_2 : decode Y275.2.1 2 = .ok (.putfield 67, 3) := by decide +kernel
theorem d275_5 : decode Y275.2.1 5 = .ok (.iconst 0, 1) := by decide +kernel
theorem d275_6 : decode Y275.2.1 6 = .ok (.ireturn, 1) := by decide +kernel
theorem E275 (d : Nat) (a0 : Nat) (h0 : ts_sh a0 = (0, 12)) (m : lt_m) : lt_ev (d + 1) 275 [.inr (.inr (some a0))] m = some (some (.inl (0 : Int32)), (lm_i m a0 15 (1 : Int32))) := by
  refine Eq.trans (lt_enter2 (ls := [some (.inr (.inr (some a0)))]) hY275 (Nat.le_of_ble_eq_true rfl) (by rfl)) ?_
  refine Eq.trans (li_aload_n d275_0 (by rfl)) ?_
  refine Eq.trans (li_iconst d275_1 ic_1) ?_
  refine Eq.trans (li_puti d275_2 fa_12_67 h0 rfl rfl) ?_
  refine Eq.trans (li_iconst d275_5 ic_0) ?_
  exact li_iret d275_6 rfl

/-! from 165 -/
def SA : Nat → Bool := fun pc => pc == 198 || (pc == 327 || Nat.ble 1469 pc)
theorem EA (K : lk_K) (d : Nat) (q0 : Option ts_V) (x2 : Int32) (x3 : Int32) (o4 : Option ts_V) (o5 : Option ts_V) (o6 : Option ts_V) (o7 : Option ts_V) (o8 : Option ts_V) (o9 : Option ts_V) (o10 : Option ts_V) (o11 : Option ts_V) (o12 : Option ts_V) (o13 : Option ts_V) (o14 : Option ts_V) (o15 : Option ts_V) (o16 : Option ts_V) (o17 : Option ts_V) (o18 : Option ts_V) (o19 : Option ts_V) (o20 : Option ts_V) (o21 : Option ts_V) (o22 : Option ts_V) (o23 : Option ts_V) (o24 : Option ts_V) (o25 : Option ts_V) (o26 : Option ts_V) (o27 : Option ts_V) (m : lt_m) : lt_rk SA K d YW 165 [q0, some (.inr (.inr (some 0))), some (.inl x2), some (.inl x3), o4, o5, o6, o7, o8, o9, o10, o11, o12, o13, o14, o15, o16, o17, o18, o19, o20, o21, o22, o23, o24, o25, o26, o27] [] m = lt_cI (lt_ev d 29 [.inr (.inr (some 0))] m) (fun v1 m1 => (if ¬ v1 = (6 : Int32) then (some (some (.inl (0 : Int32)), m1)) else (lt_cI (lt_ev d 173 [.inr (.inr (some 0)), .inl (2 : Int32)] m1) (fun v2 m2 => (if ¬ v2 = (7 : Int32) then (some (some (.inl (0 : Int32)), m2)) else (lt_cI (lt_ev d 173 [.inr (.inr (some 0)), .inl (3 : Int32)] m2) (fun v3 m3 => (if v3 = (2 : Int32) then (K 198 [q0, some (.inr (.inr (some 0))), some (.inl x2), some (.inl x3), (ts_nol o4), some (.inl (0 : Int32)), o6, o7, o8, o9, o10, o11, o12, o13, o14, o15, o16, o17, o18, o19, o20, o21, o22, o23, o24, o25, o26, o27] [] m3) else (some (some (.inl (0 : Int32)), m3)))))))))) := by
  refine Eq.trans (lj_aload_n (by rfl) dW_165 (by rfl)) ?_
  refine Eq.trans (lj_ivI (by rfl) dW_166 ca_14_118 kd_29 kl_29 (by rfl) (by rfl) s0_11 (Nat.le_of_ble_eq_true rfl) (Nat.le_of_ble_eq_true rfl)) ?_
  refine lt_cI_c (fun v1 m1 => ?_)
  refine Eq.trans (lj_bipush (by rfl) dW_169 bi_6) ?_
  refine Eq.trans (lj_icmp_ne (t := 193) (by rfl) dW_171 (by rfl)) ?_
  refine lt_ite (fun c1 => ?_) (fun c1 => ?_)
  · refine Eq.trans (lj_iconst (by rfl) dW_193 ic_0) ?_
    exact lj_zret (by rfl) dW_194 rfl (by decide)
  · refine Eq.trans (lj_aload_n (by rfl) dW_174 (by rfl)) ?_
    refine Eq.trans (lj_iconst (by rfl) dW_175 ic_2) ?_
    refine Eq.trans (lj_ivI (by rfl) dW_176 ca_14_27 kd_173 kl_173 (by rfl) (by rfl) s0_11 (Nat.le_of_ble_eq_true rfl) (Nat.le_of_ble_eq_true rfl)) ?_
    refine lt_cI_c (fun v2 m2 => ?_)
    refine Eq.trans (lj_bipush (by rfl) dW_179 bi_7) ?_
    refine Eq.trans (lj_icmp_ne (t := 193) (by rfl) dW_181 (by rfl)) ?_
    refine lt_ite (fun c2 => ?_) (fun c2 => ?_)
    · refine Eq.trans (lj_iconst (by rfl) dW_193 ic_0) ?_
      exact lj_zret (by rfl) dW_194 rfl (by decide)
    · refine Eq.trans (lj_aload_n (by rfl) dW_184 (by rfl)) ?_
      refine Eq.trans (lj_iconst (by rfl) dW_185 ic_3) ?_
      refine Eq.trans (lj_ivI (by rfl) dW_186 ca_14_27 kd_173 kl_173 (by rfl) (by rfl) s0_11 (Nat.le_of_ble_eq_true rfl) (Nat.le_of_ble_eq_true rfl)) ?_
      refine lt_cI_c (fun v3 m3 => ?_)
      refine Eq.trans (lj_iconst (by rfl) dW_189 ic_2) ?_
      refine Eq.trans (lj_icmp_eq (t := 195) (by rfl) dW_190 (by rfl)) ?_
      refine lt_ite (fun c3 => ?_) (fun c3 => ?_)
      · refine Eq.trans (lj_iconst (by rfl) dW_195 ic_0) ?_
        refine Eq.trans (lj_istore (ls' := [q0, some (.inr (.inr (some 0))), some (.inl x2), some (.inl x3), (ts_nol o4), some (.inl (0 : Int32)), o6, o7, o8, o9, o10, o11, o12, o13, o14, o15, o16, o17, o18, o19, o20, o21, o22, o23, o24, o25, o26, o27]) (by rfl) dW_196 (by decide) (by rfl)) ?_
        exact lk_stop rfl
      · refine Eq.trans (lj_iconst (by rfl) dW_193 ic_0) ?_
        exact lj_zret (by rfl) dW_194 rfl (by decide)
/-! from 198 -/
def SB : Nat → Bool := fun pc => pc == 208 || pc == 253 || (pc == 327 || Nat.ble 1469 pc)
theorem EB (K : lk_K) (d : Nat) (q0 : Option ts_V) (x2 : Int32) (x3 : Int32) (o4 : Option ts_V) (x5 : Int32) (o6 : Option ts_V) (o7 : Option ts_V) (o8 : Option ts_V) (o9 : Option ts_V) (o10 : Option ts_V) (o11 : Option ts_V) (o12 : Option ts_V) (o13 : Option ts_V) (o14 : Option ts_V) (o15 : Option ts_V) (o16 : Option ts_V) (o17 : Option ts_V) (o18 : Option ts_V) (o19 : Option ts_V) (o20 : Option ts_V) (o21 : Option ts_V) (o22 : Option ts_V) (o23 : Option ts_V) (o24 : Option ts_V) (o25 : Option ts_V) (o26 : Option ts_V) (o27 : Option ts_V) (m : lt_m) : lt_rk SB K d YW 198 [q0, some (.inr (.inr (some 0))), some (.inl x2), some (.inl x3), o4, some (.inl x5), o6, o7, o8, o9, o10, o11, o12, o13, o14, o15, o16, o17, o18, o19, o20, o21, o22, o23, o24, o25, o26, o27] [] m = if x3 ≤ x5 then (K 253 [q0, some (.inr (.inr (some 0))), some (.inl x2), some (.inl x3), (ts_nol o4), some (.inl (0 : Int32)), o6, o7, o8, o9, o10, o11, o12, o13, o14, o15, o16, o17, o18, o19, o20, o21, o22, o23, o24, o25, o26, o27] [] m) else (K 208 [q0, some (.inr (.inr (some 0))), some (.inl x2), some (.inl x3), o4, some (.inl x5), o6, o7, o8, o9, o10, o11, o12, o13, o14, o15, o16, o17, o18, o19, o20, o21, o22, o23, o24, o25, o26, o27] [.inl (2000 : Int32), .inr (.inr (some 0))] m) := by
  refine Eq.trans (lj_iload (by rfl) dW_198 (by rfl)) ?_
  refine Eq.trans (lj_iload_n (by rfl) dW_200 (by rfl)) ?_
  refine Eq.trans (lj_icmp_ge (t := 250) (by rfl) dW_201 (by rfl)) ?_
  refine lt_ite (fun c1 => ?_) (fun c1 => ?_)
  · refine Eq.trans (lj_iconst (by rfl) dW_250 ic_0) ?_
    refine Eq.trans (lj_istore (ls' := [q0, some (.inr (.inr (some 0))), some (.inl x2), some (.inl x3), (ts_nol o4), some (.inl (0 : Int32)), o6, o7, o8, o9, o10, o11, o12, o13, o14, o15, o16, o17, o18, o19, o20, o21, o22, o23, o24, o25, o26, o27]) (by rfl) dW_251 (by decide) (by rfl)) ?_
    exact lk_stop rfl
  · refine Eq.trans (lj_aload_n (by rfl) dW_204 (by rfl)) ?_
    refine Eq.trans (lj_sipush (by rfl) dW_205 si_2000) ?_
    exact lk_stop rfl
/-! from 216 -/
def SC : Nat → Bool := fun pc => pc == 221 || (pc == 327 || Nat.ble 1469 pc)
theorem EC (K : lk_K) (d : Nat) (q0 : Option ts_V) (x2 : Int32) (x3 : Int32) (o4 : Option ts_V) (x5 : Int32) (o6 : Option ts_V) (o7 : Option ts_V) (o8 : Option ts_V) (o9 : Option ts_V) (o10 : Option ts_V) (o11 : Option ts_V) (o12 : Option ts_V) (o13 : Option ts_V) (o14 : Option ts_V) (o15 : Option ts_V) (o16 : Option ts_V) (o17 : Option ts_V) (o18 : Option ts_V) (o19 : Option ts_V) (o20 : Option ts_V) (o21 : Option ts_V) (o22 : Option ts_V) (o23 : Option ts_V) (o24 : Option ts_V) (o25 : Option ts_V) (o26 : Option ts_V) (o27 : Option ts_V) (y1 : Int32) (y2 : Int32) (m : lt_m) : lt_rk SC K d YW 216 [q0, some (.inr (.inr (some 0))), some (.inl x2), some (.inl x3), o4, some (.inl x5), o6, o7, o8, o9, o10, o11, o12, o13, o14, o15, o16, o17, o18, o19, o20, o21, o22, o23, o24, o25, o26, o27] [.inl y1, .inl y2, .inr (.inr (some 0))] m = K 221 [q0, some (.inr (.inr (some 0))), some (.inl x2), some (.inl x3), o4, some (.inl x5), o6, o7, o8, o9, o10, o11, o12, o13, o14, o15, o16, o17, o18, o19, o20, o21, o22, o23, o24, o25, o26, o27] [.inl (y2 + (y1 &&& (8191 : Int32))), .inr (.inr (some 0))] m := by
  refine Eq.trans (lj_sipush (by rfl) dW_216 si_8191) ?_
  refine Eq.trans (lj_iand (by rfl) dW_219) ?_
  refine Eq.trans (lj_iadd (by rfl) dW_220) ?_
  exact lk_stop rfl
/-! from 229 -/
def SD : Nat → Bool := fun pc => pc == 198 || (pc == 327 || Nat.ble 1469 pc)
theorem ED (K : lk_K) (d : Nat) (q0 : Option ts_V) (x2 : Int32) (x3 : Int32) (o4 : Option ts_V) (x5 : Int32) (o6 : Option ts_V) (o7 : Option ts_V) (o8 : Option ts_V) (o9 : Option ts_V) (o10 : Option ts_V) (o11 : Option ts_V) (o12 : Option ts_V) (o13 : Option ts_V) (o14 : Option ts_V) (o15 : Option ts_V) (o16 : Option ts_V) (o17 : Option ts_V) (o18 : Option ts_V) (o19 : Option ts_V) (o20 : Option ts_V) (o21 : Option ts_V) (o22 : Option ts_V) (o23 : Option ts_V) (o24 : Option ts_V) (o25 : Option ts_V) (o26 : Option ts_V) (o27 : Option ts_V) (y1 : Int32) (y2 : Int32) (m : lt_m) : lt_rk SD K d YW 229 [q0, some (.inr (.inr (some 0))), some (.inl x2), some (.inl x3), o4, some (.inl x5), o6, o7, o8, o9, o10, o11, o12, o13, o14, o15, o16, o17, o18, o19, o20, o21, o22, o23, o24, o25, o26, o27] [.inl y1, .inl y2, .inr (.inr (some 0))] m = lt_cI (lt_ev d 78 [.inr (.inr (some 0)), .inl y2, .inl ((((y1).toUInt32 >>> (((13 : Int32)).toUInt32 &&& Int32.toUInt32 31)).toInt32) &&& (3 : Int32))] m) (fun v1 m1 => (if v1 = x5 then (K 198 [q0, some (.inr (.inr (some 0))), some (.inl x2), some (.inl x3), (ts_nol o4), some (.inl (x5 + (1 : Int32))), o6, o7, o8, o9, o10, o11, o12, o13, o14, o15, o16, o17, o18, o19, o20, o21, o22, o23, o24, o25, o26, o27] [] m1) else (some (some (.inl (0 : Int32)), m1)))) := by
  refine Eq.trans (lj_bipush (by rfl) dW_229 bi_13) ?_
  refine Eq.trans (lj_iushr (by rfl) dW_231) ?_
  refine Eq.trans (lj_iconst (by rfl) dW_232 ic_3) ?_
  refine Eq.trans (lj_iand (by rfl) dW_233) ?_
  refine Eq.trans (lj_ivI (by rfl) dW_234 ca_14_121 kd_78 kl_78 (by rfl) (by rfl) s0_11 (Nat.le_of_ble_eq_true rfl) (Nat.le_of_ble_eq_true rfl)) ?_
  refine lt_cI_c (fun v1 m1 => ?_)
  refine Eq.trans (lj_iload (by rfl) dW_237 (by rfl)) ?_
  refine Eq.trans (lj_icmp_eq (t := 244) (by rfl) dW_239 (by rfl)) ?_
  refine lt_ite (fun c1 => ?_) (fun c1 => ?_)
  · refine Eq.trans (lj_iinc (ls' := [q0, some (.inr (.inr (some 0))), some (.inl x2), some (.inl x3), (ts_nol o4), some (.inl (x5 + (1 : Int32))), o6, o7, o8, o9, o10, o11, o12, o13, o14, o15, o16, o17, o18, o19, o20, o21, o22, o23, o24, o25, o26, o27]) (by rfl) dW_244 (by rfl) (by decide) ic_1 (by rfl)) ?_
    refine Eq.trans (lj_goto (t := 198) (by rfl) dW_247 (by rfl)) ?_
    exact lk_stop rfl
  · refine Eq.trans (lj_iconst (by rfl) dW_242 ic_0) ?_
    exact lj_zret (by rfl) dW_243 rfl (by decide)
/-! from 253 -/
def SF : Nat → Bool := fun pc => pc == 260 || pc == 1467 || (pc == 327 || Nat.ble 1469 pc)
theorem EF (K : lk_K) (d : Nat) (q0 : Option ts_V) (x2 : Int32) (x3 : Int32) (o4 : Option ts_V) (x5 : Int32) (o6 : Option ts_V) (o7 : Option ts_V) (o8 : Option ts_V) (o9 : Option ts_V) (o10 : Option ts_V) (o11 : Option ts_V) (o12 : Option ts_V) (o13 : Option ts_V) (o14 : Option ts_V) (o15 : Option ts_V) (o16 : Option ts_V) (o17 : Option ts_V) (o18 : Option ts_V) (o19 : Option ts_V) (o20 : Option ts_V) (o21 : Option ts_V) (o22 : Option ts_V) (o23 : Option ts_V) (o24 : Option ts_V) (o25 : Option ts_V) (o26 : Option ts_V) (o27 : Option ts_V) (m : lt_m) : lt_rk SF K d YW 253 [q0, some (.inr (.inr (some 0))), some (.inl x2), some (.inl x3), o4, some (.inl x5), o6, o7, o8, o9, o10, o11, o12, o13, o14, o15, o16, o17, o18, o19, o20, o21, o22, o23, o24, o25, o26, o27] [] m = if (26 : Int32) ≤ x5 then (K 1467 [q0, some (.inr (.inr (some 0))), some (.inl x2), some (.inl x3), o4, some (.inl x5), o6, o7, o8, o9, o10, o11, o12, o13, o14, o15, o16, o17, o18, o19, o20, o21, o22, o23, o24, o25, o26, o27] [] m) else (K 260 [q0, some (.inr (.inr (some 0))), some (.inl x2), some (.inl x3), o4, some (.inl x5), o6, o7, o8, o9, o10, o11, o12, o13, o14, o15, o16, o17, o18, o19, o20, o21, o22, o23, o24, o25, o26, o27] [] m) := by
  refine Eq.trans (lj_iload (by rfl) dW_253 (by rfl)) ?_
  refine Eq.trans (lj_bipush (by rfl) dW_255 bi_26) ?_
  refine Eq.trans (lj_icmp_ge (t := 1467) (by rfl) dW_257 (by rfl)) ?_
  refine lt_ite (fun c1 => ?_) (fun c1 => ?_)
  · exact lk_stop rfl
  · exact lk_stop rfl
/-! from 534 -/
def SH : Nat → Bool := fun pc => pc == 543 || (pc == 327 || Nat.ble 1469 pc)
theorem EH (K : lk_K) (d : Nat) (q0 : Option ts_V) (x2 : Int32) (x3 : Int32) (o4 : Option ts_V) (x5 : Int32) (x6 : Int32) (x7 : Int32) (x8 : Int32) (x9 : Int32) (x10 : Int32) (x11 : Int32) (x12 : Int32) (x13 : Int32) (x14 : Int32) (x15 : Int32) (x16 : Int32) (x17 : Int32) (x18 : Int32) (x19 : Int32) (q20 : Option Nat) (o21 : Option ts_V) (o22 : Option ts_V) (o23 : Option ts_V) (o24 : Option ts_V) (o25 : Option ts_V) (o26 : Option ts_V) (o27 : Option ts_V) (m : lt_m) : lt_rk SH K d YW 534 [q0, some (.inr (.inr (some 0))), some (.inl x2), some (.inl x3), o4, some (.inl x5), some (.inl x6), some (.inl x7), some (.inl x8), some (.inl x9), some (.inl x10), some (.inl x11), some (.inl x12), some (.inl x13), some (.inl x14), some (.inl x15), some (.inl x16), some (.inl x17), some (.inl x18), some (.inl x19), some (.inr (.inr q20)), o21, o22, o23, o24, o25, o26, o27] [] m = lt_cI (lt_ev d 147 [.inr (.inr (some 0)), .inl x18, .inl (1 : Int32)] m) (fun v1 m1 => (K 543 [q0, some (.inr (.inr (some 0))), some (.inl x2), some (.inl x3), o4, some (.inl x5), some (.inl x6), some (.inl x7), some (.inl x8), some (.inl x9), some (.inl x10), some (.inl x11), some (.inl x12), some (.inl x13), some (.inl x14), some (.inl x15), some (.inl x16), some (.inl x17), some (.inl x18), some (.inl x19), some (.inr (.inr q20)), some (.inl v1), o22, o23, o24, o25, o26, o27] [] m1)) := by
  refine Eq.trans (lj_aload_n (by rfl) dW_534 (by rfl)) ?_
  refine Eq.trans (lj_iload (by rfl) dW_535 (by rfl)) ?_
  refine Eq.trans (lj_iconst (by rfl) dW_537 ic_1) ?_
  refine Eq.trans (lj_ivI (by rfl) dW_538 ca_14_54 kd_147 kl_147 (by rfl) (by rfl) s0_11 (Nat.le_of_ble_eq_true rfl) (Nat.le_of_ble_eq_true rfl)) ?_
  refine lt_cI_c (fun v1 m1 => ?_)
  refine Eq.trans (lj_istore (ls' := [q0, some (.inr (.inr (some 0))), some (.inl x2), some (.inl x3), o4, some (.inl x5), some (.inl x6), some (.inl x7), some (.inl x8), some (.inl x9), some (.inl x10), some (.inl x11), some (.inl x12), some (.inl x13), some (.inl x14), some (.inl x15), some (.inl x16), some (.inl x17), some (.inl x18), some (.inl x19), some (.inr (.inr q20)), some (.inl v1), o22, o23, o24, o25, o26, o27]) (by rfl) dW_541 (by decide) (by rfl)) ?_
  exact lk_stop rfl
/-! from 552 -/
def SI : Nat → Bool := fun pc => pc == 572 || (pc == 327 || Nat.ble 1469 pc)
theorem EI (K : lk_K) (d : Nat) (q0 : Option ts_V) (x2 : Int32) (x3 : Int32) (o4 : Option ts_V) (x5 : Int32) (x6 : Int32) (x7 : Int32) (x8 : Int32) (x9 : Int32) (x10 : Int32) (x11 : Int32) (x12 : Int32) (x13 : Int32) (x14 : Int32) (x15 : Int32) (x16 : Int32) (x17 : Int32) (x18 : Int32) (x19 : Int32) (q20 : Option Nat) (x21 : Int32) (o22 : Option ts_V) (o23 : Option ts_V) (o24 : Option ts_V) (o25 : Option ts_V) (o26 : Option ts_V) (o27 : Option ts_V) (m : lt_m) : lt_rk SI K d YW 552 [q0, some (.inr (.inr (some 0))), some (.inl x2), some (.inl x3), o4, some (.inl x5), some (.inl x6), some (.inl x7), some (.inl x8), some (.inl x9), some (.inl x10), some (.inl x11), some (.inl x12), some (.inl x13), some (.inl x14), some (.inl x15), some (.inl x16), some (.inl x17), some (.inl x18), some (.inl x19), some (.inr (.inr q20)), some (.inl x21), o22, o23, o24, o25, o26, o27] [] m = lt_cI (lt_ev d 160 [.inr (.inr (some 0))] m) (fun v1 m1 => (lt_cL (lt_ev d 175 [.inr (.inr (some 0)), .inl (0 : Int32)] m1) (fun v2 m2 => (lt_cL (lt_ev d 175 [.inr (.inr (some 0)), .inl (1 : Int32)] m2) (fun v3 m3 => (K 572 [q0, some (.inr (.inr (some 0))), some (.inl x2), some (.inl x3), o4, some (.inl x5), some (.inl x6), some (.inl x7), some (.inl x8), some (.inl x9), some (.inl x10), some (.inl x11), some (.inl x12), some (.inl x13), some (.inl x14), some (.inl x15), some (.inl x16), some (.inl x17), some (.inl x18), some (.inl x19), some (.inr (.inr q20)), some (.inl x21), some (.inl v1), some (.inr (.inl v2)), none, some (.inr (.inl v3)), none, o27] [] m3)))))) := by
  refine Eq.trans (lj_aload_n (by rfl) dW_552 (by rfl)) ?_
  refine Eq.trans (lj_ivI (by rfl) dW_553 ca_14_127 kd_160 kl_160 (by rfl) (by rfl) s0_11 (Nat.le_of_ble_eq_true rfl) (Nat.le_of_ble_eq_true rfl)) ?_
  refine lt_cI_c (fun v1 m1 => ?_)
  refine Eq.trans (lj_istore (ls' := [q0, some (.inr (.inr (some 0))), some (.inl x2), some (.inl x3), o4, some (.inl x5), some (.inl x6), some (.inl x7), some (.inl x8), some (.inl x9), some (.inl x10), some (.inl x11), some (.inl x12), some (.inl x13), some (.inl x14), some (.inl x15), some (.inl x16), some (.inl x17), some (.inl x18), some (.inl x19), some (.inr (.inr q20)), some (.inl x21), some (.inl v1), o23, o24, o25, o26, o27]) (by rfl) dW_556 (by decide) (by rfl)) ?_
  refine Eq.trans (lj_aload_n (by rfl) dW_558 (by rfl)) ?_
  refine Eq.trans (lj_iconst (by rfl) dW_559 ic_0) ?_
  refine Eq.trans (lj_ivL (by rfl) dW_560 ca_14_36 kd_175 kl_175 (by rfl) (by rfl) s0_11 (Nat.le_of_ble_eq_true rfl) (Nat.le_of_ble_eq_true rfl)) ?_
  refine lt_cL_c (fun v2 m2 => ?_)
  refine Eq.trans (lj_lstore (ls' := [q0, some (.inr (.inr (some 0))), some (.inl x2), some (.inl x3), o4, some (.inl x5), some (.inl x6), some (.inl x7), some (.inl x8), some (.inl x9), some (.inl x10), some (.inl x11), some (.inl x12), some (.inl x13), some (.inl x14), some (.inl x15), some (.inl x16), some (.inl x17), some (.inl x18), some (.inl x19), some (.inr (.inr q20)), some (.inl x21), some (.inl v1), some (.inr (.inl v2)), none, o25, o26, o27]) (by rfl) dW_563 (by decide) (by rfl)) ?_
  refine Eq.trans (lj_aload_n (by rfl) dW_565 (by rfl)) ?_
  refine Eq.trans (lj_iconst (by rfl) dW_566 ic_1) ?_
  refine Eq.trans (lj_ivL (by rfl) dW_567 ca_14_36 kd_175 kl_175 (by rfl) (by rfl) s0_11 (Nat.le_of_ble_eq_true rfl) (Nat.le_of_ble_eq_true rfl)) ?_
  refine lt_cL_c (fun v3 m3 => ?_)
  refine Eq.trans (lj_lstore (ls' := [q0, some (.inr (.inr (some 0))), some (.inl x2), some (.inl x3), o4, some (.inl x5), some (.inl x6), some (.inl x7), some (.inl x8), some (.inl x9), some (.inl x10), some (.inl x11), some (.inl x12), some (.inl x13), some (.inl x14), some (.inl x15), some (.inl x16), some (.inl x17), some (.inl x18), some (.inl x19), some (.inr (.inr q20)), some (.inl x21), some (.inl v1), some (.inr (.inl v2)), none, some (.inr (.inl v3)), none, o27]) (by rfl) dW_570 (by decide) (by rfl)) ?_
  exact lk_stop rfl
/-! from 581 -/
def SJ : Nat → Bool := fun pc => pc == 1301 || (pc == 327 || Nat.ble 1469 pc)
noncomputable def LJ_602 (K : lk_K) (d : Nat) (q0 : Option ts_V) (x2 : Int32) (x3 : Int32) (o4 : Option ts_V) (x5 : Int32) (x6 : Int32) (x7 : Int32) (x8 : Int32) (x9 : Int32) (x10 : Int32) (x11 : Int32) (x12 : Int32) (x13 : Int32) (x14 : Int32) (x15 : Int32) (x16 : Int32) (x17 : Int32) (x18 : Int32) (x19 : Int32) (q20 : Option Nat) (x21 : Int32) (x22 : Int32) (x23 : Int64) (x25 : Int64) (x27 : Int32) (xt0 : Int32) (m : lt_m) : Option lt_r := lt_rk SJ K d YW 602 [q0, some (.inr (.inr (some 0))), some (.inl x2), some (.inl x3), o4, some (.inl x5), some (.inl x6), some (.inl x7), some (.inl x8), some (.inl x9), some (.inl x10), some (.inl x11), some (.inl x12), some (.inl x13), some (.inl x14), some (.inl x15), some (.inl x16), some (.inl x17), some (.inl x18), some (.inl x19), some (.inr (.inr q20)), some (.inl x21), some (.inl x22), some (.inr (.inl x23)), none, some (.inr (.inl x25)), none, some (.inl x27)] [.inl xt0] m
noncomputable def LJ_637 (K : lk_K) (d : Nat) (q0 : Option ts_V) (x2 : Int32) (x3 : Int32) (o4 : Option ts_V) (x5 : Int32) (x6 : Int32) (x7 : Int32) (x8 : Int32) (x9 : Int32) (x10 : Int32) (x11 : Int32) (x12 : Int32) (x13 : Int32) (x14 : Int32) (x15 : Int32) (x16 : Int32) (x17 : Int32) (x18 : Int32) (x19 : Int32) (q20 : Option Nat) (x21 : Int32) (x22 : Int32) (x23 : Int64) (x25 : Int64) (x27 : Int32) (xt0 : Int32) (xt1 : Int32) (m : lt_m) : Option lt_r := lt_rk SJ K d YW 637 [q0, some (.inr (.inr (some 0))), some (.inl x2), some (.inl x3), o4, some (.inl x5), some (.inl x6), some (.inl x7), some (.inl x8), some (.inl x9), some (.inl x10), some (.inl x11), some (.inl x12), some (.inl x13), some (.inl x14), some (.inl x15), some (.inl x16), some (.inl x17), some (.inl x18), some (.inl x19), some (.inr (.inr q20)), some (.inl x21), some (.inl x22), some (.inr (.inl x23)), none, some (.inr (.inl x25)), none, some (.inl x27)] [.inl xt0, .inl xt1] m
theorem EJ (K : lk_K) (d : Nat) (q0 : Option ts_V) (x2 : Int32) (x3 : Int32) (o4 : Option ts_V) (x5 : Int32) (x6 : Int32) (x7 : Int32) (x8 : Int32) (x9 : Int32) (x10 : Int32) (x11 : Int32) (x12 : Int32) (x13 : Int32) (x14 : Int32) (x15 : Int32) (x16 : Int32) (x17 : Int32) (x18 : Int32) (x19 : Int32) (q20 : Option Nat) (x21 : Int32) (x22 : Int32) (x23 : Int64) (x25 : Int64) (o27 : Option ts_V) (m : lt_m) : lt_rk SJ K d YW 581 [q0, some (.inr (.inr (some 0))), some (.inl x2), some (.inl x3), o4, some (.inl x5), some (.inl x6), some (.inl x7), some (.inl x8), some (.inl x9), some (.inl x10), some (.inl x11), some (.inl x12), some (.inl x13), some (.inl x14), some (.inl x15), some (.inl x16), some (.inl x17), some (.inl x18), some (.inl x19), some (.inr (.inr q20)), some (.inl x21), some (.inl x22), some (.inr (.inl x23)), none, some (.inr (.inl x25)), none, o27] [] m = lt_cI (lt_ev d 100 [.inr (.inr (some 0)), .inl x18, .inl (1 : Int32), .inl x19] m) (fun v1 m1 => (if v1 < 0 then (LJ_602 K d q0 x2 x3 (o4) x5 x6 x7 x8 x9 x10 x11 x12 x13 x14 x15 x16 x17 x18 x19 q20 x21 x22 x23 x25 v1 (0 : Int32) m1) else (LJ_602 K d q0 x2 x3 (o4) x5 x6 x7 x8 x9 x10 x11 x12 x13 x14 x15 x16 x17 x18 x19 q20 x21 x22 x23 x25 v1 (1 : Int32) m1))) := by
  refine Eq.trans (lj_aload_n (by rfl) dW_581 (by rfl)) ?_
  refine Eq.trans (lj_iload (by rfl) dW_582 (by rfl)) ?_
  refine Eq.trans (lj_iconst (by rfl) dW_584 ic_1) ?_
  refine Eq.trans (lj_iload (by rfl) dW_585 (by rfl)) ?_
  refine Eq.trans (lj_ivI (by rfl) dW_587 ca_14_130 kd_100 kl_100 (by rfl) (by rfl) s0_11 (Nat.le_of_ble_eq_true rfl) (Nat.le_of_ble_eq_true rfl)) ?_
  refine lt_cI_c (fun v1 m1 => ?_)
  refine Eq.trans (lj_istore (ls' := [q0, some (.inr (.inr (some 0))), some (.inl x2), some (.inl x3), o4, some (.inl x5), some (.inl x6), some (.inl x7), some (.inl x8), some (.inl x9), some (.inl x10), some (.inl x11), some (.inl x12), some (.inl x13), some (.inl x14), some (.inl x15), some (.inl x16), some (.inl x17), some (.inl x18), some (.inl x19), some (.inr (.inr q20)), some (.inl x21), some (.inl x22), some (.inr (.inl x23)), none, some (.inr (.inl x25)), none, some (.inl v1)]) (by rfl) dW_590 (by decide) (by rfl)) ?_
  refine Eq.trans (lj_iload (by rfl) dW_592 (by rfl)) ?_
  refine Eq.trans (lj_if_lt (t := 601) (by rfl) dW_594 (by rfl)) ?_
  refine lt_ite (fun c1 => ?_) (fun c1 => ?_)
  · refine Eq.trans (lj_iconst (by rfl) dW_601 ic_0) ?_
    rfl
  · refine Eq.trans (lj_iconst (by rfl) dW_597 ic_1) ?_
    refine Eq.trans (lj_goto (t := 602) (by rfl) dW_598 (by rfl)) ?_
    rfl
theorem EJ_602 (K : lk_K) (d : Nat) (q0 : Option ts_V) (x2 : Int32) (x3 : Int32) (o4 : Option ts_V) (x5 : Int32) (x6 : Int32) (x7 : Int32) (x8 : Int32) (x9 : Int32) (x10 : Int32) (x11 : Int32) (x12 : Int32) (x13 : Int32) (x14 : Int32) (x15 : Int32) (x16 : Int32) (x17 : Int32) (x18 : Int32) (x19 : Int32) (q20 : Option Nat) (x21 : Int32) (x22 : Int32) (x23 : Int64) (x25 : Int64) (x27 : Int32) (xt0 : Int32) (m : lt_m) : LJ_602 K d q0 x2 x3 o4 x5 x6 x7 x8 x9 x10 x11 x12 x13 x14 x15 x16 x17 x18 x19 q20 x21 x22 x23 x25 x27 xt0 m = if x22 < 0 then (some (some (.inl (0 : Int32)), m)) else (if ¬ x7 = (20 : Int32) then (if x19 ≤ x21 then (LJ_637 K d q0 x2 x3 (o4) x5 x6 x7 x8 x9 x10 x11 x12 x13 xt0 x15 x16 x17 x18 x19 q20 x21 x22 x23 x25 x27 x7 x27 m) else (LJ_637 K d q0 x2 x3 (o4) x5 x6 x7 x8 x9 x10 x11 x12 x13 xt0 x15 x16 x17 x18 x19 q20 x21 x22 x23 x25 x27 (-3 : Int32) x27 m)) else (LJ_637 K d q0 x2 x3 (o4) x5 x6 x7 x8 x9 x10 x11 x12 x13 xt0 x15 x16 x17 x18 x19 q20 x21 x22 x23 x25 x27 (-2 : Int32) x27 m)) := by
  show lt_rk SJ K d YW 602 [q0, some (.inr (.inr (some 0))), some (.inl x2), some (.inl x3), o4, some (.inl x5), some (.inl x6), some (.inl x7), some (.inl x8), some (.inl x9), some (.inl x10), some (.inl x11), some (.inl x12), some (.inl x13), some (.inl x14), some (.inl x15), some (.inl x16), some (.inl x17), some (.inl x18), some (.inl x19), some (.inr (.inr q20)), some (.inl x21), some (.inl x22), some (.inr (.inl x23)), none, some (.inr (.inl x25)), none, some (.inl x27)] [.inl xt0] m = _
  refine Eq.trans (lj_istore (ls' := [q0, some (.inr (.inr (some 0))), some (.inl x2), some (.inl x3), o4, some (.inl x5), some (.inl x6), some (.inl x7), some (.inl x8), some (.inl x9), some (.inl x10), some (.inl x11), some (.inl x12), some (.inl x13), some (.inl xt0), some (.inl x15), some (.inl x16), some (.inl x17), some (.inl x18), some (.inl x19), some (.inr (.inr q20)), some (.inl x21), some (.inl x22), some (.inr (.inl x23)), none, some (.inr (.inl x25)), none, some (.inl x27)]) (by rfl) dW_602 (by decide) (by rfl)) ?_
  refine Eq.trans (lj_iload (by rfl) dW_604 (by rfl)) ?_
  refine Eq.trans (lj_if_lt (t := 640) (by rfl) dW_606 (by rfl)) ?_
  refine lt_ite (fun c1 => ?_) (fun c1 => ?_)
  · refine Eq.trans (lj_iconst (by rfl) dW_640 ic_0) ?_
    exact lj_zret (by rfl) dW_641 rfl (by decide)
  · refine Eq.trans (lj_iload (by rfl) dW_609 (by rfl)) ?_
    refine Eq.trans (lj_iload (by rfl) dW_611 (by rfl)) ?_
    refine Eq.trans (lj_bipush (by rfl) dW_613 bi_20) ?_
    refine Eq.trans (lj_icmp_ne (t := 623) (by rfl) dW_615 (by rfl)) ?_
    refine lt_ite (fun c2 => ?_) (fun c2 => ?_)
    · refine Eq.trans (lj_iload (by rfl) dW_623 (by rfl)) ?_
      refine Eq.trans (lj_iload (by rfl) dW_625 (by rfl)) ?_
      refine Eq.trans (lj_icmp_le (t := 635) (by rfl) dW_627 (by rfl)) ?_
      refine lt_ite (fun c3 => ?_) (fun c3 => ?_)
      · refine Eq.trans (lj_iload (by rfl) dW_635 (by rfl)) ?_
        rfl
      · refine Eq.trans (lj_bipush (by rfl) dW_630 bi_n3) ?_
        refine Eq.trans (lj_goto (t := 637) (by rfl) dW_632 (by rfl)) ?_
        rfl
    · refine Eq.trans (lj_bipush (by rfl) dW_618 bi_n2) ?_
      refine Eq.trans (lj_goto (t := 637) (by rfl) dW_620 (by rfl)) ?_
      rfl
theorem EJ_637 (K : lk_K) (d : Nat) (q0 : Option ts_V) (x2 : Int32) (x3 : Int32) (o4 : Option ts_V) (x5 : Int32) (x6 : Int32) (x7 : Int32) (x8 : Int32) (x9 : Int32) (x10 : Int32) (x11 : Int32) (x12 : Int32) (x13 : Int32) (x14 : Int32) (x15 : Int32) (x16 : Int32) (x17 : Int32) (x18 : Int32) (x19 : Int32) (q20 : Option Nat) (x21 : Int32) (x22 : Int32) (x23 : Int64) (x25 : Int64) (x27 : Int32) (xt0 : Int32) (xt1 : Int32) (m : lt_m) : LJ_637 K d q0 x2 x3 o4 x5 x6 x7 x8 x9 x10 x11 x12 x13 x14 x15 x16 x17 x18 x19 q20 x21 x22 x23 x25 x27 xt0 xt1 m = if xt1 = xt0 then (if x14 = 0 then (K 1301 [q0, some (.inr (.inr (some 0))), some (.inl x2), some (.inl x3), o4, some (.inl x5), some (.inl x6), some (.inl x7), some (.inl x8), some (.inl x9), some (.inl x10), some (.inl x11), some (.inl x12), some (.inl x13), some (.inl x14), some (.inl x15), some (.inl x16), some (.inl x17), some (.inl x18), some (.inl x19), some (.inr (.inr q20)), some (.inl x21), some (.inl x22), some (.inr (.inl x23)), none, some (.inr (.inl x25)), none, some (.inl x27)] [] m) else (lt_cI (lt_ev d 132 [.inr (.inr (some 0)), .inl x27] m) (fun v1 m1 => (if ¬ (lg_cmp ((v1).toInt64) x23) = 0 then (some (some (.inl (0 : Int32)), m1)) else (lt_cI (lt_ev d 129 [.inr (.inr (some 0)), .inl x27, .inl (6 : Int32)] m1) (fun v2 m2 => (if ¬ (lg_cmp ((v2).toInt64) x25) = 0 then (some (some (.inl (0 : Int32)), m2)) else (lt_cI (lt_ev d 129 [.inr (.inr (some 0)), .inl x27, .inl (7 : Int32)] m2) (fun v3 m3 => (if ¬ v3 = (1 : Int32) then (some (some (.inl (0 : Int32)), m3)) else (lt_cI (lt_ev d 163 [.inr (.inr (some 0)), .inl (0 : Int32), .inl (0 : Int32)] m3) (fun v4 m4 => (if ¬ v4 = 0 then (some (some (.inl (0 : Int32)), m4)) else (lt_cI (lt_ev d 163 [.inr (.inr (some 0)), .inl (0 : Int32), .inl (1 : Int32)] m4) (fun v5 m5 => (if v5 = x27 then (K 1301 [q0, some (.inr (.inr (some 0))), some (.inl x2), some (.inl x3), o4, some (.inl x5), some (.inl x6), some (.inl x7), some (.inl x8), some (.inl x9), some (.inl x10), some (.inl x11), some (.inl x12), some (.inl x13), some (.inl x14), some (.inl x15), some (.inl x16), some (.inl x17), some (.inl x18), some (.inl x19), some (.inr (.inr q20)), some (.inl x21), some (.inl x22), some (.inr (.inl x23)), none, some (.inr (.inl x25)), none, some (.inl x27)] [] m5) else (some (some (.inl (0 : Int32)), m5)))))))))))))))))) else (some (some (.inl (0 : Int32)), m)) := by
  show lt_rk SJ K d YW 637 [q0, some (.inr (.inr (some 0))), some (.inl x2), some (.inl x3), o4, some (.inl x5), some (.inl x6), some (.inl x7), some (.inl x8), some (.inl x9), some (.inl x10), some (.inl x11), some (.inl x12), some (.inl x13), some (.inl x14), some (.inl x15), some (.inl x16), some (.inl x17), some (.inl x18), some (.inl x19), some (.inr (.inr q20)), some (.inl x21), some (.inl x22), some (.inr (.inl x23)), none, some (.inr (.inl x25)), none, some (.inl x27)] [.inl xt0, .inl xt1] m = _
  refine Eq.trans (lj_icmp_eq (t := 642) (by rfl) dW_637 (by rfl)) ?_
  refine lt_ite (fun c1 => ?_) (fun c1 => ?_)
  · refine Eq.trans (lj_iload (by rfl) dW_642 (by rfl)) ?_
    refine Eq.trans (lj_if_eq (t := 1301) (by rfl) dW_644 (by rfl)) ?_
    refine lt_ite (fun c2 => ?_) (fun c2 => ?_)
    · exact lk_stop rfl
    · refine Eq.trans (lj_aload_n (by rfl) dW_647 (by rfl)) ?_
      refine Eq.trans (lj_iload (by rfl) dW_648 (by rfl)) ?_
      refine Eq.trans (lj_ivI (by rfl) dW_650 ca_14_70 kd_132 kl_132 (by rfl) (by rfl) s0_11 (Nat.le_of_ble_eq_true rfl) (Nat.le_of_ble_eq_true rfl)) ?_
      refine lt_cI_c (fun v1 m1 => ?_)
      refine Eq.trans (lj_i2l (by rfl) dW_653) ?_
      refine Eq.trans (lj_lload (by rfl) dW_654 (by rfl)) ?_
      refine Eq.trans (lj_lcmp (by rfl) dW_656) ?_
      refine Eq.trans (lj_if_ne (t := 707) (by rfl) dW_657 (by rfl)) ?_
      refine lt_ite (fun c3 => ?_) (fun c3 => ?_)
      · refine Eq.trans (lj_iconst (by rfl) dW_707 ic_0) ?_
        exact lj_zret (by rfl) dW_708 rfl (by decide)
      · refine Eq.trans (lj_aload_n (by rfl) dW_660 (by rfl)) ?_
        refine Eq.trans (lj_iload (by rfl) dW_661 (by rfl)) ?_
        refine Eq.trans (lj_bipush (by rfl) dW_663 bi_6) ?_
        refine Eq.trans (lj_ivI (by rfl) dW_665 ca_14_64 kd_129 kl_129 (by rfl) (by rfl) s0_11 (Nat.le_of_ble_eq_true rfl) (Nat.le_of_ble_eq_true rfl)) ?_
        refine lt_cI_c (fun v2 m2 => ?_)
        refine Eq.trans (lj_i2l (by rfl) dW_668) ?_
        refine Eq.trans (lj_lload (by rfl) dW_669 (by rfl)) ?_
        refine Eq.trans (lj_lcmp (by rfl) dW_671) ?_
        refine Eq.trans (lj_if_ne (t := 707) (by rfl) dW_672 (by rfl)) ?_
        refine lt_ite (fun c4 => ?_) (fun c4 => ?_)
        · refine Eq.trans (lj_iconst (by rfl) dW_707 ic_0) ?_
          exact lj_zret (by rfl) dW_708 rfl (by decide)
        · refine Eq.trans (lj_aload_n (by rfl) dW_675 (by rfl)) ?_
          refine Eq.trans (lj_iload (by rfl) dW_676 (by rfl)) ?_
          refine Eq.trans (lj_bipush (by rfl) dW_678 bi_7) ?_
          refine Eq.trans (lj_ivI (by rfl) dW_680 ca_14_64 kd_129 kl_129 (by rfl) (by rfl) s0_11 (Nat.le_of_ble_eq_true rfl) (Nat.le_of_ble_eq_true rfl)) ?_
          refine lt_cI_c (fun v3 m3 => ?_)
          refine Eq.trans (lj_iconst (by rfl) dW_683 ic_1) ?_
          refine Eq.trans (lj_icmp_ne (t := 707) (by rfl) dW_684 (by rfl)) ?_
          refine lt_ite (fun c5 => ?_) (fun c5 => ?_)
          · refine Eq.trans (lj_iconst (by rfl) dW_707 ic_0) ?_
            exact lj_zret (by rfl) dW_708 rfl (by decide)
          · refine Eq.trans (lj_aload_n (by rfl) dW_687 (by rfl)) ?_
            refine Eq.trans (lj_iconst (by rfl) dW_688 ic_0) ?_
            refine Eq.trans (lj_iconst (by rfl) dW_689 ic_0) ?_
            refine Eq.trans (lj_ivI (by rfl) dW_690 ca_14_134 kd_163 kl_163 (by rfl) (by rfl) s0_11 (Nat.le_of_ble_eq_true rfl) (Nat.le_of_ble_eq_true rfl)) ?_
            refine lt_cI_c (fun v4 m4 => ?_)
            refine Eq.trans (lj_if_ne (t := 707) (by rfl) dW_693 (by rfl)) ?_
            refine lt_ite (fun c6 => ?_) (fun c6 => ?_)
            · refine Eq.trans (lj_iconst (by rfl) dW_707 ic_0) ?_
              exact lj_zret (by rfl) dW_708 rfl (by decide)
            · refine Eq.trans (lj_aload_n (by rfl) dW_696 (by rfl)) ?_
              refine Eq.trans (lj_iconst (by rfl) dW_697 ic_0) ?_
              refine Eq.trans (lj_iconst (by rfl) dW_698 ic_1) ?_
              refine Eq.trans (lj_ivI (by rfl) dW_699 ca_14_134 kd_163 kl_163 (by rfl) (by rfl) s0_11 (Nat.le_of_ble_eq_true rfl) (Nat.le_of_ble_eq_true rfl)) ?_
              refine lt_cI_c (fun v5 m5 => ?_)
              refine Eq.trans (lj_iload (by rfl) dW_702 (by rfl)) ?_
              refine Eq.trans (lj_icmp_eq (t := 1301) (by rfl) dW_704 (by rfl)) ?_
              refine lt_ite (fun c7 => ?_) (fun c7 => ?_)
              · exact lk_stop rfl
              · refine Eq.trans (lj_iconst (by rfl) dW_707 ic_0) ?_
                exact lj_zret (by rfl) dW_708 rfl (by decide)
  · refine Eq.trans (lj_iconst (by rfl) dW_640 ic_0) ?_
    exact lj_zret (by rfl) dW_641 rfl (by decide)
/-! from 1301 -/
def SP : Nat → Bool := fun pc => pc == 253 || (pc == 327 || Nat.ble 1469 pc)
noncomputable def LP_1334 (K : lk_K) (d : Nat) (q0 : Option ts_V) (x2 : Int32) (x3 : Int32) (o4 : Option ts_V) (x5 : Int32) (x6 : Int32) (x7 : Int32) (x8 : Int32) (x9 : Int32) (x10 : Int32) (o11 : Option ts_V) (o12 : Option ts_V) (o13 : Option ts_V) (x14 : Int32) (o15 : Option ts_V) (o16 : Option ts_V) (o17 : Option ts_V) (o18 : Option ts_V) (o19 : Option ts_V) (o20 : Option ts_V) (o21 : Option ts_V) (o22 : Option ts_V) (o23 : Option ts_V) (o24 : Option ts_V) (o25 : Option ts_V) (o26 : Option ts_V) (o27 : Option ts_V) (xt0 : Int32) (xt1 : Int32) (m : lt_m) : Option lt_r := lt_rk SP K d YW 1334 [q0, some (.inr (.inr (some 0))), some (.inl x2), some (.inl x3), o4, some (.inl x5), some (.inl x6), some (.inl x7), some (.inl x8), some (.inl x9), some (.inl x10), o11, o12, o13, some (.inl x14), o15, o16, o17, o18, o19, o20, o21, o22, o23, o24, o25, o26, o27] [.inl xt0, .inl xt1] m
noncomputable def LP_1355 (K : lk_K) (d : Nat) (q0 : Option ts_V) (x2 : Int32) (x3 : Int32) (o4 : Option ts_V) (x5 : Int32) (x6 : Int32) (x7 : Int32) (x8 : Int32) (x9 : Int32) (x10 : Int32) (o11 : Option ts_V) (o12 : Option ts_V) (o13 : Option ts_V) (x14 : Int32) (o15 : Option ts_V) (o16 : Option ts_V) (o17 : Option ts_V) (o18 : Option ts_V) (o19 : Option ts_V) (o20 : Option ts_V) (o21 : Option ts_V) (o22 : Option ts_V) (o23 : Option ts_V) (o24 : Option ts_V) (o25 : Option ts_V) (o26 : Option ts_V) (o27 : Option ts_V) (m : lt_m) : Option lt_r := lt_rk SP K d YW 1355 [q0, some (.inr (.inr (some 0))), some (.inl x2), some (.inl x3), o4, some (.inl x5), some (.inl x6), some (.inl x7), some (.inl x8), some (.inl x9), some (.inl x10), o11, o12, o13, some (.inl x14), o15, o16, o17, o18, o19, o20, o21, o22, o23, o24, o25, o26, o27] [] m
theorem EP (K : lk_K) (d : Nat) (q0 : Option ts_V) (x2 : Int32) (x3 : Int32) (o4 : Option ts_V) (x5 : Int32) (x6 : Int32) (x7 : Int32) (x8 : Int32) (x9 : Int32) (x10 : Int32) (o11 : Option ts_V) (o12 : Option ts_V) (o13 : Option ts_V) (x14 : Int32) (o15 : Option ts_V) (o16 : Option ts_V) (o17 : Option ts_V) (o18 : Option ts_V) (o19 : Option ts_V) (o20 : Option ts_V) (o21 : Option ts_V) (o22 : Option ts_V) (o23 : Option ts_V) (o24 : Option ts_V) (o25 : Option ts_V) (o26 : Option ts_V) (o27 : Option ts_V) (m : lt_m) : lt_rk SP K d YW 1301 [q0, some (.inr (.inr (some 0))), some (.inl x2), some (.inl x3), o4, some (.inl x5), some (.inl x6), some (.inl x7), some (.inl x8), some (.inl x9), some (.inl x10), o11, o12, o13, some (.inl x14), o15, o16, o17, o18, o19, o20, o21, o22, o23, o24, o25, o26, o27] [] m = lt_cI (lt_ev d 177 [.inr (.inr (some 0)), .inl x3] m) (fun v1 m1 => (if v1 = 0 then (some (some (.inl (0 : Int32)), m1)) else (lt_cI (lt_ev d 173 [.inr (.inr (some 0)), .inl (6 : Int32)] m1) (fun v2 m2 => (if x14 = 0 then (LP_1334 K d q0 x2 x3 (o4) x5 x6 x7 x8 x9 x10 (o11) (o12) (o13) x14 (o15) (o16) (o17) (o18) (o19) (o20) (o21) (o22) (o23) (o24) (o25) (o26) (o27) x8 v2 m2) else (LP_1334 K d q0 x2 x3 (o4) x5 x6 x7 x8 x9 x10 (o11) (o12) (o13) x14 (o15) (o16) (o17) (o18) (o19) (o20) (o21) (o22) (o23) (o24) (o25) (o26) (o27) (lm_min (8 : Int32) (x8 + (1 : Int32))) v2 m2)))))) := by
  refine Eq.trans (lj_aload_n (by rfl) dW_1301 (by rfl)) ?_
  refine Eq.trans (lj_iload_n (by rfl) dW_1302 (by rfl)) ?_
  refine Eq.trans (lj_isI (by rfl) dW_1303 bi_14_155 ca_14_155 kd_177 (by rfl) (by rfl) (Nat.le_of_ble_eq_true rfl) (Nat.le_of_ble_eq_true rfl)) ?_
  refine lt_cI_c (fun v1 m1 => ?_)
  refine Eq.trans (lj_if_eq (t := 1353) (by rfl) dW_1306 (by rfl)) ?_
  refine lt_ite (fun c1 => ?_) (fun c1 => ?_)
  · refine Eq.trans (lj_iconst (by rfl) dW_1353 ic_0) ?_
    exact lj_zret (by rfl) dW_1354 rfl (by decide)
  · refine Eq.trans (lj_aload_n (by rfl) dW_1309 (by rfl)) ?_
    refine Eq.trans (lj_bipush (by rfl) dW_1310 bi_6) ?_
    refine Eq.trans (lj_ivI (by rfl) dW_1312 ca_14_27 kd_173 kl_173 (by rfl) (by rfl) s0_11 (Nat.le_of_ble_eq_true rfl) (Nat.le_of_ble_eq_true rfl)) ?_
    refine lt_cI_c (fun v2 m2 => ?_)
    refine Eq.trans (lj_iload (by rfl) dW_1315 (by rfl)) ?_
    refine Eq.trans (lj_if_eq (t := 1332) (by rfl) dW_1317 (by rfl)) ?_
    refine lt_ite (fun c2 => ?_) (fun c2 => ?_)
    · refine Eq.trans (lj_iload (by rfl) dW_1332 (by rfl)) ?_
      rfl
    · refine Eq.trans (lj_bipush (by rfl) dW_1320 bi_8) ?_
      refine Eq.trans (lj_iload (by rfl) dW_1322 (by rfl)) ?_
      refine Eq.trans (lj_iconst (by rfl) dW_1324 ic_1) ?_
      refine Eq.trans (lj_iadd (by rfl) dW_1325) ?_
      refine Eq.trans (lj_min (by rfl) dW_1326 bi_14_87 (Nat.le_of_ble_eq_true rfl)) ?_
      refine Eq.trans (lj_goto (t := 1334) (by rfl) dW_1329 (by rfl)) ?_
      rfl
theorem EP_1334 (K : lk_K) (d : Nat) (q0 : Option ts_V) (x2 : Int32) (x3 : Int32) (o4 : Option ts_V) (x5 : Int32) (x6 : Int32) (x7 : Int32) (x8 : Int32) (x9 : Int32) (x10 : Int32) (o11 : Option ts_V) (o12 : Option ts_V) (o13 : Option ts_V) (x14 : Int32) (o15 : Option ts_V) (o16 : Option ts_V) (o17 : Option ts_V) (o18 : Option ts_V) (o19 : Option ts_V) (o20 : Option ts_V) (o21 : Option ts_V) (o22 : Option ts_V) (o23 : Option ts_V) (o24 : Option ts_V) (o25 : Option ts_V) (o26 : Option ts_V) (o27 : Option ts_V) (xt0 : Int32) (xt1 : Int32) (m : lt_m) : LP_1334 K d q0 x2 x3 o4 x5 x6 x7 x8 x9 x10 o11 o12 o13 x14 o15 o16 o17 o18 o19 o20 o21 o22 o23 o24 o25 o26 o27 xt0 xt1 m = if ¬ xt1 = xt0 then (some (some (.inl (0 : Int32)), m)) else (if ¬ x14 = 0 then (LP_1355 K d q0 x2 x3 (o4) x5 x6 x7 x8 x9 x10 (o11) (o12) (o13) x14 (o15) (o16) (o17) (o18) (o19) (o20) (o21) (o22) (o23) (o24) (o25) (o26) (o27) m) else (lt_cI (lt_ev d 173 [.inr (.inr (some 0)), .inl (7 : Int32)] m) (fun v1 m1 => (if v1 = x10 then (LP_1355 K d q0 x2 x3 (o4) x5 x6 x7 x8 x9 x10 (o11) (o12) (o13) x14 (o15) (o16) (o17) (o18) (o19) (o20) (o21) (o22) (o23) (o24) (o25) (o26) (o27) m1) else (some (some (.inl (0 : Int32)), m1)))))) := by
  show lt_rk SP K d YW 1334 [q0, some (.inr (.inr (some 0))), some (.inl x2), some (.inl x3), o4, some (.inl x5), some (.inl x6), some (.inl x7), some (.inl x8), some (.inl x9), some (.inl x10), o11, o12, o13, some (.inl x14), o15, o16, o17, o18, o19, o20, o21, o22, o23, o24, o25, o26, o27] [.inl xt0, .inl xt1] m = _
  refine Eq.trans (lj_icmp_ne (t := 1353) (by rfl) dW_1334 (by rfl)) ?_
  refine lt_ite (fun c1 => ?_) (fun c1 => ?_)
  · refine Eq.trans (lj_iconst (by rfl) dW_1353 ic_0) ?_
    exact lj_zret (by rfl) dW_1354 rfl (by decide)
  · refine Eq.trans (lj_iload (by rfl) dW_1337 (by rfl)) ?_
    refine Eq.trans (lj_if_ne (t := 1355) (by rfl) dW_1339 (by rfl)) ?_
    refine lt_ite (fun c2 => ?_) (fun c2 => ?_)
    · rfl
    · refine Eq.trans (lj_aload_n (by rfl) dW_1342 (by rfl)) ?_
      refine Eq.trans (lj_bipush (by rfl) dW_1343 bi_7) ?_
      refine Eq.trans (lj_ivI (by rfl) dW_1345 ca_14_27 kd_173 kl_173 (by rfl) (by rfl) s0_11 (Nat.le_of_ble_eq_true rfl) (Nat.le_of_ble_eq_true rfl)) ?_
      refine lt_cI_c (fun v1 m1 => ?_)
      refine Eq.trans (lj_iload (by rfl) dW_1348 (by rfl)) ?_
      refine Eq.trans (lj_icmp_eq (t := 1355) (by rfl) dW_1350 (by rfl)) ?_
      refine lt_ite (fun c3 => ?_) (fun c3 => ?_)
      · rfl
      · refine Eq.trans (lj_iconst (by rfl) dW_1353 ic_0) ?_
        exact lj_zret (by rfl) dW_1354 rfl (by decide)
theorem EP_1355 (K : lk_K) (d : Nat) (q0 : Option ts_V) (x2 : Int32) (x3 : Int32) (o4 : Option ts_V) (x5 : Int32) (x6 : Int32) (x7 : Int32) (x8 : Int32) (x9 : Int32) (x10 : Int32) (o11 : Option ts_V) (o12 : Option ts_V) (o13 : Option ts_V) (x14 : Int32) (o15 : Option ts_V) (o16 : Option ts_V) (o17 : Option ts_V) (o18 : Option ts_V) (o19 : Option ts_V) (o20 : Option ts_V) (o21 : Option ts_V) (o22 : Option ts_V) (o23 : Option ts_V) (o24 : Option ts_V) (o25 : Option ts_V) (o26 : Option ts_V) (o27 : Option ts_V) (m : lt_m) : LP_1355 K d q0 x2 x3 o4 x5 x6 x7 x8 x9 x10 o11 o12 o13 x14 o15 o16 o17 o18 o19 o20 o21 o22 o23 o24 o25 o26 o27 m = if x14 = 0 then (K 253 [q0, some (.inr (.inr (some 0))), some (.inl x2), some (.inl x3), (ts_nol o4), some (.inl (x5 + (1 : Int32))), some (.inl x6), some (.inl x7), some (.inl x8), some (.inl x9), some (.inl x10), o11, o12, o13, some (.inl x14), o15, o16, o17, o18, o19, o20, o21, o22, o23, o24, o25, o26, o27] [] m) else (if ¬ ((((x6).toUInt32 >>> (((24 : Int32)).toUInt32 &&& Int32.toUInt32 31)).toInt32) &&& (3 : Int32)) = (1 : Int32) then (K 253 [q0, some (.inr (.inr (some 0))), some (.inl x2), some (.inl x3), (ts_nol o4), some (.inl (x5 + (1 : Int32))), some (.inl x6), some (.inl x7), some (.inl x8), some (.inl x9), some (.inl x10), o11, o12, o13, some (.inl x14), o15, o16, o17, o18, o19, o20, o21, o22, o23, o24, o25, o26, o27] [] m) else (lt_cI (lt_ev d 173 [.inr (.inr (some 0)), .inl (0 : Int32)] m) (fun v1 m1 => (lt_cI (lt_ev d 93 [.inr (.inr (some 0)), .inl (0 : Int32)] m1) (fun v2 m2 => (lt_cI (lt_ev d 169 [.inr (.inr (some 0))] m2) (fun v3 m3 => (if ¬ v3 = v1 then (some (some (.inl (0 : Int32)), m3)) else (lt_cI (lt_ev d 167 [.inr (.inr (some 0))] m3) (fun v4 m4 => (if ¬ v4 = ((lm_min (8 : Int32) (x8 + (1 : Int32))) - (1 : Int32)) then (some (some (.inl (0 : Int32)), m4)) else (lt_cI (lt_ev d 173 [.inr (.inr (some 0)), .inl (0 : Int32)] m4) (fun v5 m5 => (if ¬ v5 = x9 then (some (some (.inl (0 : Int32)), m5)) else (lt_cI (lt_ev d 173 [.inr (.inr (some 0)), .inl (5 : Int32)] m5) (fun v6 m6 => (if ¬ v6 = x7 then (some (some (.inl (0 : Int32)), m6)) else (lt_cI (lt_ev d 171 [.inr (.inr (some 0))] m6) (fun v7 m7 => (if ¬ v7 = v1 then (some (some (.inl (0 : Int32)), m7)) else (lt_cI (lt_ev d 93 [.inr (.inr (some 0)), .inl (0 : Int32)] m7) (fun v8 m8 => (if ¬ v8 = v2 then (some (some (.inl (0 : Int32)), m8)) else (lt_cI (lt_ev d 177 [.inr (.inr (some 0)), .inl x3] m8) (fun v9 m9 => (if ¬ v9 = 0 then (K 253 [q0, some (.inr (.inr (some 0))), some (.inl x2), some (.inl x3), (ts_nol o4), some (.inl (x5 + (1 : Int32))), some (.inl x6), some (.inl x7), some (.inl x8), some (.inl x9), some (.inl x10), o11, o12, o13, some (.inl x14), some (.inl v1), some (.inl v2), o17, o18, o19, o20, o21, o22, o23, o24, o25, o26, o27] [] m9) else (some (some (.inl (0 : Int32)), m9)))))))))))))))))))))))))))) := by
  show lt_rk SP K d YW 1355 [q0, some (.inr (.inr (some 0))), some (.inl x2), some (.inl x3), o4, some (.inl x5), some (.inl x6), some (.inl x7), some (.inl x8), some (.inl x9), some (.inl x10), o11, o12, o13, some (.inl x14), o15, o16, o17, o18, o19, o20, o21, o22, o23, o24, o25, o26, o27] [] m = _
  refine Eq.trans (lj_iload (by rfl) dW_1355 (by rfl)) ?_
  refine Eq.trans (lj_if_eq (t := 1461) (by rfl) dW_1357 (by rfl)) ?_
  refine lt_ite (fun c1 => ?_) (fun c1 => ?_)
  · refine Eq.trans (lj_iinc (ls' := [q0, some (.inr (.inr (some 0))), some (.inl x2), some (.inl x3), (ts_nol o4), some (.inl (x5 + (1 : Int32))), some (.inl x6), some (.inl x7), some (.inl x8), some (.inl x9), some (.inl x10), o11, o12, o13, some (.inl x14), o15, o16, o17, o18, o19, o20, o21, o22, o23, o24, o25, o26, o27]) (by rfl) dW_1461 (by rfl) (by decide) ic_1 (by rfl)) ?_
    refine Eq.trans (lj_goto (t := 253) (by rfl) dW_1464 (by rfl)) ?_
    exact lk_stop rfl
  · refine Eq.trans (lj_iload (by rfl) dW_1360 (by rfl)) ?_
    refine Eq.trans (lj_bipush (by rfl) dW_1362 bi_24) ?_
    refine Eq.trans (lj_iushr (by rfl) dW_1364) ?_
    refine Eq.trans (lj_iconst (by rfl) dW_1365 ic_3) ?_
    refine Eq.trans (lj_iand (by rfl) dW_1366) ?_
    refine Eq.trans (lj_iconst (by rfl) dW_1367 ic_1) ?_
    refine Eq.trans (lj_icmp_ne (t := 1461) (by rfl) dW_1368 (by rfl)) ?_
    refine lt_ite (fun c2 => ?_) (fun c2 => ?_)
    · refine Eq.trans (lj_iinc (ls' := [q0, some (.inr (.inr (some 0))), some (.inl x2), some (.inl x3), (ts_nol o4), some (.inl (x5 + (1 : Int32))), some (.inl x6), some (.inl x7), some (.inl x8), some (.inl x9), some (.inl x10), o11, o12, o13, some (.inl x14), o15, o16, o17, o18, o19, o20, o21, o22, o23, o24, o25, o26, o27]) (by rfl) dW_1461 (by rfl) (by decide) ic_1 (by rfl)) ?_
      refine Eq.trans (lj_goto (t := 253) (by rfl) dW_1464 (by rfl)) ?_
      exact lk_stop rfl
    · refine Eq.trans (lj_aload_n (by rfl) dW_1371 (by rfl)) ?_
      refine Eq.trans (lj_iconst (by rfl) dW_1372 ic_0) ?_
      refine Eq.trans (lj_ivI (by rfl) dW_1373 ca_14_27 kd_173 kl_173 (by rfl) (by rfl) s0_11 (Nat.le_of_ble_eq_true rfl) (Nat.le_of_ble_eq_true rfl)) ?_
      refine lt_cI_c (fun v1 m1 => ?_)
      refine Eq.trans (lj_istore (ls' := [q0, some (.inr (.inr (some 0))), some (.inl x2), some (.inl x3), o4, some (.inl x5), some (.inl x6), some (.inl x7), some (.inl x8), some (.inl x9), some (.inl x10), o11, o12, o13, some (.inl x14), some (.inl v1), o16, o17, o18, o19, o20, o21, o22, o23, o24, o25, o26, o27]) (by rfl) dW_1376 (by decide) (by rfl)) ?_
      refine Eq.trans (lj_aload_n (by rfl) dW_1378 (by rfl)) ?_
      refine Eq.trans (lj_iconst (by rfl) dW_1379 ic_0) ?_
      refine Eq.trans (lj_ivI (by rfl) dW_1380 ca_14_48 kd_93 kl_93 (by rfl) (by rfl) s0_11 (Nat.le_of_ble_eq_true rfl) (Nat.le_of_ble_eq_true rfl)) ?_
      refine lt_cI_c (fun v2 m2 => ?_)
      refine Eq.trans (lj_istore (ls' := [q0, some (.inr (.inr (some 0))), some (.inl x2), some (.inl x3), o4, some (.inl x5), some (.inl x6), some (.inl x7), some (.inl x8), some (.inl x9), some (.inl x10), o11, o12, o13, some (.inl x14), some (.inl v1), some (.inl v2), o17, o18, o19, o20, o21, o22, o23, o24, o25, o26, o27]) (by rfl) dW_1383 (by decide) (by rfl)) ?_
      refine Eq.trans (lj_aload_n (by rfl) dW_1385 (by rfl)) ?_
      refine Eq.trans (lj_ivI (by rfl) dW_1386 ca_14_159 kd_169 kl_169 (by rfl) (by rfl) s0_11 (Nat.le_of_ble_eq_true rfl) (Nat.le_of_ble_eq_true rfl)) ?_
      refine lt_cI_c (fun v3 m3 => ?_)
      refine Eq.trans (lj_iload (by rfl) dW_1389 (by rfl)) ?_
      refine Eq.trans (lj_icmp_ne (t := 1459) (by rfl) dW_1391 (by rfl)) ?_
      refine lt_ite (fun c3 => ?_) (fun c3 => ?_)
      · refine Eq.trans (lj_iconst (by rfl) dW_1459 ic_0) ?_
        exact lj_zret (by rfl) dW_1460 rfl (by decide)
      · refine Eq.trans (lj_aload_n (by rfl) dW_1394 (by rfl)) ?_
        refine Eq.trans (lj_ivI (by rfl) dW_1395 ca_14_162 kd_167 kl_167 (by rfl) (by rfl) s0_11 (Nat.le_of_ble_eq_true rfl) (Nat.le_of_ble_eq_true rfl)) ?_
        refine lt_cI_c (fun v4 m4 => ?_)
        refine Eq.trans (lj_bipush (by rfl) dW_1398 bi_8) ?_
        refine Eq.trans (lj_iload (by rfl) dW_1400 (by rfl)) ?_
        refine Eq.trans (lj_iconst (by rfl) dW_1402 ic_1) ?_
        refine Eq.trans (lj_iadd (by rfl) dW_1403) ?_
        refine Eq.trans (lj_min (by rfl) dW_1404 bi_14_87 (Nat.le_of_ble_eq_true rfl)) ?_
        refine Eq.trans (lj_iconst (by rfl) dW_1407 ic_1) ?_
        refine Eq.trans (lj_isub (by rfl) dW_1408) ?_
        refine Eq.trans (lj_icmp_ne (t := 1459) (by rfl) dW_1409 (by rfl)) ?_
        refine lt_ite (fun c4 => ?_) (fun c4 => ?_)
        · refine Eq.trans (lj_iconst (by rfl) dW_1459 ic_0) ?_
          exact lj_zret (by rfl) dW_1460 rfl (by decide)
        · refine Eq.trans (lj_aload_n (by rfl) dW_1412 (by rfl)) ?_
          refine Eq.trans (lj_iconst (by rfl) dW_1413 ic_0) ?_
          refine Eq.trans (lj_ivI (by rfl) dW_1414 ca_14_27 kd_173 kl_173 (by rfl) (by rfl) s0_11 (Nat.le_of_ble_eq_true rfl) (Nat.le_of_ble_eq_true rfl)) ?_
          refine lt_cI_c (fun v5 m5 => ?_)
          refine Eq.trans (lj_iload (by rfl) dW_1417 (by rfl)) ?_
          refine Eq.trans (lj_icmp_ne (t := 1459) (by rfl) dW_1419 (by rfl)) ?_
          refine lt_ite (fun c5 => ?_) (fun c5 => ?_)
          · refine Eq.trans (lj_iconst (by rfl) dW_1459 ic_0) ?_
            exact lj_zret (by rfl) dW_1460 rfl (by decide)
          · refine Eq.trans (lj_aload_n (by rfl) dW_1422 (by rfl)) ?_
            refine Eq.trans (lj_iconst (by rfl) dW_1423 ic_5) ?_
            refine Eq.trans (lj_ivI (by rfl) dW_1424 ca_14_27 kd_173 kl_173 (by rfl) (by rfl) s0_11 (Nat.le_of_ble_eq_true rfl) (Nat.le_of_ble_eq_true rfl)) ?_
            refine lt_cI_c (fun v6 m6 => ?_)
            refine Eq.trans (lj_iload (by rfl) dW_1427 (by rfl)) ?_
            refine Eq.trans (lj_icmp_ne (t := 1459) (by rfl) dW_1429 (by rfl)) ?_
            refine lt_ite (fun c6 => ?_) (fun c6 => ?_)
            · refine Eq.trans (lj_iconst (by rfl) dW_1459 ic_0) ?_
              exact lj_zret (by rfl) dW_1460 rfl (by decide)
            · refine Eq.trans (lj_aload_n (by rfl) dW_1432 (by rfl)) ?_
              refine Eq.trans (lj_ivI (by rfl) dW_1433 ca_14_165 kd_171 kl_171 (by rfl) (by rfl) s0_11 (Nat.le_of_ble_eq_true rfl) (Nat.le_of_ble_eq_true rfl)) ?_
              refine lt_cI_c (fun v7 m7 => ?_)
              refine Eq.trans (lj_iload (by rfl) dW_1436 (by rfl)) ?_
              refine Eq.trans (lj_icmp_ne (t := 1459) (by rfl) dW_1438 (by rfl)) ?_
              refine lt_ite (fun c7 => ?_) (fun c7 => ?_)
              · refine Eq.trans (lj_iconst (by rfl) dW_1459 ic_0) ?_
                exact lj_zret (by rfl) dW_1460 rfl (by decide)
              · refine Eq.trans (lj_aload_n (by rfl) dW_1441 (by rfl)) ?_
                refine Eq.trans (lj_iconst (by rfl) dW_1442 ic_0) ?_
                refine Eq.trans (lj_ivI (by rfl) dW_1443 ca_14_48 kd_93 kl_93 (by rfl) (by rfl) s0_11 (Nat.le_of_ble_eq_true rfl) (Nat.le_of_ble_eq_true rfl)) ?_
                refine lt_cI_c (fun v8 m8 => ?_)
                refine Eq.trans (lj_iload (by rfl) dW_1446 (by rfl)) ?_
                refine Eq.trans (lj_icmp_ne (t := 1459) (by rfl) dW_1448 (by rfl)) ?_
                refine lt_ite (fun c8 => ?_) (fun c8 => ?_)
                · refine Eq.trans (lj_iconst (by rfl) dW_1459 ic_0) ?_
                  exact lj_zret (by rfl) dW_1460 rfl (by decide)
                · refine Eq.trans (lj_aload_n (by rfl) dW_1451 (by rfl)) ?_
                  refine Eq.trans (lj_iload_n (by rfl) dW_1452 (by rfl)) ?_
                  refine Eq.trans (lj_isI (by rfl) dW_1453 bi_14_155 ca_14_155 kd_177 (by rfl) (by rfl) (Nat.le_of_ble_eq_true rfl) (Nat.le_of_ble_eq_true rfl)) ?_
                  refine lt_cI_c (fun v9 m9 => ?_)
                  refine Eq.trans (lj_if_ne (t := 1461) (by rfl) dW_1456 (by rfl)) ?_
                  refine lt_ite (fun c9 => ?_) (fun c9 => ?_)
                  · refine Eq.trans (lj_iinc (ls' := [q0, some (.inr (.inr (some 0))), some (.inl x2), some (.inl x3), (ts_nol o4), some (.inl (x5 + (1 : Int32))), some (.inl x6), some (.inl x7), some (.inl x8), some (.inl x9), some (.inl x10), o11, o12, o13, some (.inl x14), some (.inl v1), some (.inl v2), o17, o18, o19, o20, o21, o22, o23, o24, o25, o26, o27]) (by rfl) dW_1461 (by rfl) (by decide) ic_1 (by rfl)) ?_
                    refine Eq.trans (lj_goto (t := 253) (by rfl) dW_1464 (by rfl)) ?_
                    exact lk_stop rfl
                  · refine Eq.trans (lj_iconst (by rfl) dW_1459 ic_0) ?_
                    exact lj_zret (by rfl) dW_1460 rfl (by decide)

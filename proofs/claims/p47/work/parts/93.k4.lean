/-! from 268 -/
def SG : Nat → Bool := fun pc => pc == 477 || pc == 1301 || (pc == 327 || Nat.ble 1469 pc)
noncomputable def LG_319 (K : lk_K) (d : Nat) (q0 : Option ts_V) (x2 : Int32) (x3 : Int32) (o4 : Option ts_V) (x5 : Int32) (x6 : Int32) (x7 : Int32) (x8 : Int32) (x9 : Int32) (x10 : Int32) (o11 : Option ts_V) (o12 : Option ts_V) (o13 : Option ts_V) (o14 : Option ts_V) (o15 : Option ts_V) (o16 : Option ts_V) (o17 : Option ts_V) (o18 : Option ts_V) (o19 : Option ts_V) (o20 : Option ts_V) (o21 : Option ts_V) (o22 : Option ts_V) (o23 : Option ts_V) (o24 : Option ts_V) (o25 : Option ts_V) (o26 : Option ts_V) (o27 : Option ts_V) (xt0 : Int32) (m : lt_m) : Option lt_r := lt_rk SG K d YW 319 [q0, some (.inr (.inr (some 0))), some (.inl x2), some (.inl x3), o4, some (.inl x5), some (.inl x6), some (.inl x7), some (.inl x8), some (.inl x9), some (.inl x10), o11, o12, o13, o14, o15, o16, o17, o18, o19, o20, o21, o22, o23, o24, o25, o26, o27] [.inl xt0] m
noncomputable def LG_456 (K : lk_K) (d : Nat) (q0 : Option ts_V) (x2 : Int32) (x3 : Int32) (o4 : Option ts_V) (x5 : Int32) (x6 : Int32) (x7 : Int32) (x8 : Int32) (x9 : Int32) (x10 : Int32) (x11 : Int32) (x12 : Int32) (x13 : Int32) (x15 : Int32) (x16 : Int32) (o17 : Option ts_V) (o18 : Option ts_V) (o19 : Option ts_V) (o20 : Option ts_V) (o21 : Option ts_V) (o22 : Option ts_V) (o23 : Option ts_V) (o24 : Option ts_V) (o25 : Option ts_V) (o26 : Option ts_V) (o27 : Option ts_V) (xt0 : Int32) (m : lt_m) : Option lt_r := lt_rk SG K d YW 456 [q0, some (.inr (.inr (some 0))), some (.inl x2), some (.inl x3), o4, some (.inl x5), some (.inl x6), some (.inl x7), some (.inl x8), some (.inl x9), some (.inl x10), some (.inl x11), some (.inl x12), some (.inl x13), some (.inl (1 : Int32)), some (.inl x15), some (.inl x16), o17, o18, o19, o20, o21, o22, o23, o24, o25, o26, o27] [.inl xt0] m
noncomputable def LG_732 (K : lk_K) (d : Nat) (q0 : Option ts_V) (x2 : Int32) (x3 : Int32) (o4 : Option ts_V) (x5 : Int32) (x6 : Int32) (x7 : Int32) (x8 : Int32) (x9 : Int32) (x10 : Int32) (x11 : Int32) (x12 : Int32) (x13 : Int32) (x15 : Int32) (o16 : Option ts_V) (o17 : Option ts_V) (o18 : Option ts_V) (o19 : Option ts_V) (o20 : Option ts_V) (o21 : Option ts_V) (o22 : Option ts_V) (o23 : Option ts_V) (o24 : Option ts_V) (o25 : Option ts_V) (o26 : Option ts_V) (o27 : Option ts_V) (xt0 : Int32) (m : lt_m) : Option lt_r := lt_rk SG K d YW 732 [q0, some (.inr (.inr (some 0))), some (.inl x2), some (.inl x3), o4, some (.inl x5), some (.inl x6), some (.inl x7), some (.inl x8), some (.inl x9), some (.inl x10), some (.inl x11), some (.inl x12), some (.inl x13), some (.inl (1 : Int32)), some (.inl x15), o16, o17, o18, o19, o20, o21, o22, o23, o24, o25, o26, o27] [.inl xt0] m
noncomputable def LG_754 (K : lk_K) (d : Nat) (q0 : Option ts_V) (x2 : Int32) (x3 : Int32) (o4 : Option ts_V) (x5 : Int32) (x6 : Int32) (x7 : Int32) (x8 : Int32) (x9 : Int32) (x10 : Int32) (x11 : Int32) (x12 : Int32) (x13 : Int32) (x15 : Int32) (x16 : Int32) (x17 : Int32) (o18 : Option ts_V) (o19 : Option ts_V) (o20 : Option ts_V) (o21 : Option ts_V) (o22 : Option ts_V) (o23 : Option ts_V) (o24 : Option ts_V) (o25 : Option ts_V) (o26 : Option ts_V) (o27 : Option ts_V) (xt0 : Int32) (m : lt_m) : Option lt_r := lt_rk SG K d YW 754 [q0, some (.inr (.inr (some 0))), some (.inl x2), some (.inl x3), o4, some (.inl x5), some (.inl x6), some (.inl x7), some (.inl x8), some (.inl x9), some (.inl x10), some (.inl x11), some (.inl x12), some (.inl x13), some (.inl (1 : Int32)), some (.inl x15), some (.inl x16), some (.inl x17), o18, o19, o20, o21, o22, o23, o24, o25, o26, o27] [.inl xt0] m
noncomputable def LG_779 (K : lk_K) (d : Nat) (q0 : Option ts_V) (x2 : Int32) (x3 : Int32) (o4 : Option ts_V) (x5 : Int32) (x6 : Int32) (x7 : Int32) (x8 : Int32) (x9 : Int32) (x10 : Int32) (x11 : Int32) (x12 : Int32) (x13 : Int32) (x14 : Int32) (x15 : Int32) (x16 : Int32) (x17 : Int32) (o18 : Option ts_V) (o19 : Option ts_V) (o20 : Option ts_V) (o21 : Option ts_V) (o22 : Option ts_V) (o23 : Option ts_V) (o24 : Option ts_V) (o25 : Option ts_V) (o26 : Option ts_V) (o27 : Option ts_V) (xt0 : Int32) (xt1 : Int32) (m : lt_m) : Option lt_r := lt_rk SG K d YW 779 [q0, some (.inr (.inr (some 0))), some (.inl x2), some (.inl x3), o4, some (.inl x5), some (.inl x6), some (.inl x7), some (.inl x8), some (.inl x9), some (.inl x10), some (.inl x11), some (.inl x12), some (.inl x13), some (.inl x14), some (.inl x15), some (.inl x16), some (.inl x17), o18, o19, o20, o21, o22, o23, o24, o25, o26, o27] [.inl xt0, .inl xt1] m
noncomputable def LG_819 (K : lk_K) (d : Nat) (q0 : Option ts_V) (x2 : Int32) (x3 : Int32) (o4 : Option ts_V) (x5 : Int32) (x6 : Int32) (x7 : Int32) (x8 : Int32) (x9 : Int32) (x10 : Int32) (x11 : Int32) (x12 : Int32) (x13 : Int32) (x14 : Int32) (x15 : Int32) (x16 : Int32) (x17 : Int32) (o18 : Option ts_V) (o19 : Option ts_V) (o20 : Option ts_V) (o21 : Option ts_V) (o22 : Option ts_V) (o23 : Option ts_V) (o24 : Option ts_V) (o25 : Option ts_V) (o26 : Option ts_V) (o27 : Option ts_V) (xt0 : Int32) (m : lt_m) : Option lt_r := lt_rk SG K d YW 819 [q0, some (.inr (.inr (some 0))), some (.inl x2), some (.inl x3), o4, some (.inl x5), some (.inl x6), some (.inl x7), some (.inl x8), some (.inl x9), some (.inl x10), some (.inl x11), some (.inl x12), some (.inl x13), some (.inl x14), some (.inl x15), some (.inl x16), some (.inl x17), o18, o19, o20, o21, o22, o23, o24, o25, o26, o27] [.inl xt0] m
noncomputable def LG_835 (K : lk_K) (d : Nat) (q0 : Option ts_V) (x2 : Int32) (x3 : Int32) (o4 : Option ts_V) (x5 : Int32) (x6 : Int32) (x7 : Int32) (x8 : Int32) (x9 : Int32) (x10 : Int32) (x11 : Int32) (x12 : Int32) (x13 : Int32) (x14 : Int32) (x15 : Int32) (x16 : Int32) (x17 : Int32) (o18 : Option ts_V) (o19 : Option ts_V) (o20 : Option ts_V) (o21 : Option ts_V) (o22 : Option ts_V) (o23 : Option ts_V) (o24 : Option ts_V) (o25 : Option ts_V) (o26 : Option ts_V) (o27 : Option ts_V) (xt0 : Int32) (xt1 : Int32) (m : lt_m) : Option lt_r := lt_rk SG K d YW 835 [q0, some (.inr (.inr (some 0))), some (.inl x2), some (.inl x3), o4, some (.inl x5), some (.inl x6), some (.inl x7), some (.inl x8), some (.inl x9), some (.inl x10), some (.inl x11), some (.inl x12), some (.inl x13), some (.inl x14), some (.inl x15), some (.inl x16), some (.inl x17), o18, o19, o20, o21, o22, o23, o24, o25, o26, o27] [.inl xt0, .inl xt1] m
noncomputable def LG_876 (K : lk_K) (d : Nat) (q0 : Option ts_V) (x2 : Int32) (x3 : Int32) (o4 : Option ts_V) (x5 : Int32) (x6 : Int32) (x7 : Int32) (x8 : Int32) (x9 : Int32) (x10 : Int32) (x11 : Int32) (x12 : Int32) (x13 : Int32) (x15 : Int32) (x16 : Int32) (x17 : Int32) (o18 : Option ts_V) (o19 : Option ts_V) (o20 : Option ts_V) (o21 : Option ts_V) (o22 : Option ts_V) (o23 : Option ts_V) (o24 : Option ts_V) (o25 : Option ts_V) (o26 : Option ts_V) (o27 : Option ts_V) (xt0 : Int32) (m : lt_m) : Option lt_r := lt_rk SG K d YW 876 [q0, some (.inr (.inr (some 0))), some (.inl x2), some (.inl x3), o4, some (.inl x5), some (.inl x6), some (.inl x7), some (.inl x8), some (.inl x9), some (.inl x10), some (.inl x11), some (.inl x12), some (.inl x13), some (.inl (1 : Int32)), some (.inl x15), some (.inl x16), some (.inl x17), o18, o19, o20, o21, o22, o23, o24, o25, o26, o27] [.inl xt0] m
noncomputable def LG_905 (K : lk_K) (d : Nat) (q0 : Option ts_V) (x2 : Int32) (x3 : Int32) (o4 : Option ts_V) (x5 : Int32) (x6 : Int32) (x7 : Int32) (x8 : Int32) (x9 : Int32) (x10 : Int32) (x11 : Int32) (x12 : Int32) (x13 : Int32) (x14 : Int32) (x15 : Int32) (x16 : Int32) (x17 : Int32) (o18 : Option ts_V) (o19 : Option ts_V) (o20 : Option ts_V) (o21 : Option ts_V) (o22 : Option ts_V) (o23 : Option ts_V) (o24 : Option ts_V) (o25 : Option ts_V) (o26 : Option ts_V) (o27 : Option ts_V) (xt0 : Int32) (m : lt_m) : Option lt_r := lt_rk SG K d YW 905 [q0, some (.inr (.inr (some 0))), some (.inl x2), some (.inl x3), o4, some (.inl x5), some (.inl x6), some (.inl x7), some (.inl x8), some (.inl x9), some (.inl x10), some (.inl x11), some (.inl x12), some (.inl x13), some (.inl x14), some (.inl x15), some (.inl x16), some (.inl x17), o18, o19, o20, o21, o22, o23, o24, o25, o26, o27] [.inl xt0] m
noncomputable def LG_920 (K : lk_K) (d : Nat) (q0 : Option ts_V) (x2 : Int32) (x3 : Int32) (o4 : Option ts_V) (x5 : Int32) (x6 : Int32) (x7 : Int32) (x8 : Int32) (x9 : Int32) (x10 : Int32) (x11 : Int32) (x12 : Int32) (x13 : Int32) (x14 : Int32) (x15 : Int32) (x16 : Int32) (x17 : Int32) (o18 : Option ts_V) (o19 : Option ts_V) (o20 : Option ts_V) (o21 : Option ts_V) (o22 : Option ts_V) (o23 : Option ts_V) (o24 : Option ts_V) (o25 : Option ts_V) (o26 : Option ts_V) (o27 : Option ts_V) (xt0 : Int32) (xt1 : Int32) (m : lt_m) : Option lt_r := lt_rk SG K d YW 920 [q0, some (.inr (.inr (some 0))), some (.inl x2), some (.inl x3), o4, some (.inl x5), some (.inl x6), some (.inl x7), some (.inl x8), some (.inl x9), some (.inl x10), some (.inl x11), some (.inl x12), some (.inl x13), some (.inl x14), some (.inl x15), some (.inl x16), some (.inl x17), o18, o19, o20, o21, o22, o23, o24, o25, o26, o27] [.inl xt0, .inl xt1] m
noncomputable def LG_968 (K : lk_K) (d : Nat) (q0 : Option ts_V) (x2 : Int32) (x3 : Int32) (o4 : Option ts_V) (x5 : Int32) (x6 : Int32) (x7 : Int32) (x8 : Int32) (x9 : Int32) (x10 : Int32) (x11 : Int32) (x12 : Int32) (x13 : Int32) (x15 : Int32) (x16 : Int32) (o17 : Option ts_V) (o18 : Option ts_V) (o19 : Option ts_V) (o20 : Option ts_V) (o21 : Option ts_V) (o22 : Option ts_V) (o23 : Option ts_V) (o24 : Option ts_V) (o25 : Option ts_V) (o26 : Option ts_V) (o27 : Option ts_V) (xt0 : Int32) (xt1 : Int32) (m : lt_m) : Option lt_r := lt_rk SG K d YW 968 [q0, some (.inr (.inr (some 0))), some (.inl x2), some (.inl x3), o4, some (.inl x5), some (.inl x6), some (.inl x7), some (.inl x8), some (.inl x9), some (.inl x10), some (.inl x11), some (.inl x12), some (.inl x13), some (.inl (1 : Int32)), some (.inl x15), some (.inl x16), o17, o18, o19, o20, o21, o22, o23, o24, o25, o26, o27] [.inl xt0, .inl xt1, .inr (.inr (some 0))] m
noncomputable def LG_983 (K : lk_K) (d : Nat) (q0 : Option ts_V) (x2 : Int32) (x3 : Int32) (o4 : Option ts_V) (x5 : Int32) (x6 : Int32) (x7 : Int32) (x8 : Int32) (x9 : Int32) (x10 : Int32) (x11 : Int32) (x12 : Int32) (x13 : Int32) (x15 : Int32) (x16 : Int32) (x17 : Int32) (o18 : Option ts_V) (o19 : Option ts_V) (o20 : Option ts_V) (o21 : Option ts_V) (o22 : Option ts_V) (o23 : Option ts_V) (o24 : Option ts_V) (o25 : Option ts_V) (o26 : Option ts_V) (o27 : Option ts_V) (xt0 : Int32) (m : lt_m) : Option lt_r := lt_rk SG K d YW 983 [q0, some (.inr (.inr (some 0))), some (.inl x2), some (.inl x3), o4, some (.inl x5), some (.inl x6), some (.inl x7), some (.inl x8), some (.inl x9), some (.inl x10), some (.inl x11), some (.inl x12), some (.inl x13), some (.inl (1 : Int32)), some (.inl x15), some (.inl x16), some (.inl x17), o18, o19, o20, o21, o22, o23, o24, o25, o26, o27] [.inl xt0] m
noncomputable def LG_1031 (K : lk_K) (d : Nat) (q0 : Option ts_V) (x2 : Int32) (x3 : Int32) (o4 : Option ts_V) (x5 : Int32) (x6 : Int32) (x7 : Int32) (x8 : Int32) (x9 : Int32) (x10 : Int32) (x11 : Int32) (x12 : Int32) (x13 : Int32) (x14 : Int32) (x15 : Int32) (x16 : Int32) (x17 : Int32) (o18 : Option ts_V) (o19 : Option ts_V) (o20 : Option ts_V) (o21 : Option ts_V) (o22 : Option ts_V) (o23 : Option ts_V) (o24 : Option ts_V) (o25 : Option ts_V) (o26 : Option ts_V) (o27 : Option ts_V) (xt0 : Int32) (xt1 : Int32) (m : lt_m) : Option lt_r := lt_rk SG K d YW 1031 [q0, some (.inr (.inr (some 0))), some (.inl x2), some (.inl x3), o4, some (.inl x5), some (.inl x6), some (.inl x7), some (.inl x8), some (.inl x9), some (.inl x10), some (.inl x11), some (.inl x12), some (.inl x13), some (.inl x14), some (.inl x15), some (.inl x16), some (.inl x17), o18, o19, o20, o21, o22, o23, o24, o25, o26, o27] [.inl xt0, .inl xt1] m
noncomputable def LG_1058 (K : lk_K) (d : Nat) (q0 : Option ts_V) (x2 : Int32) (x3 : Int32) (o4 : Option ts_V) (x5 : Int32) (x6 : Int32) (x7 : Int32) (x8 : Int32) (x9 : Int32) (x10 : Int32) (x11 : Int32) (x12 : Int32) (x13 : Int32) (x14 : Int32) (x15 : Int32) (x16 : Int32) (x17 : Int32) (o18 : Option ts_V) (o19 : Option ts_V) (o20 : Option ts_V) (o21 : Option ts_V) (o22 : Option ts_V) (o23 : Option ts_V) (o24 : Option ts_V) (o25 : Option ts_V) (o26 : Option ts_V) (o27 : Option ts_V) (xt0 : Int32) (xt1 : Int32) (m : lt_m) : Option lt_r := lt_rk SG K d YW 1058 [q0, some (.inr (.inr (some 0))), some (.inl x2), some (.inl x3), o4, some (.inl x5), some (.inl x6), some (.inl x7), some (.inl x8), some (.inl x9), some (.inl x10), some (.inl x11), some (.inl x12), some (.inl x13), some (.inl x14), some (.inl x15), some (.inl x16), some (.inl x17), o18, o19, o20, o21, o22, o23, o24, o25, o26, o27] [.inl xt0, .inl xt1] m
noncomputable def LG_1085 (K : lk_K) (d : Nat) (q0 : Option ts_V) (x2 : Int32) (x3 : Int32) (o4 : Option ts_V) (x5 : Int32) (x6 : Int32) (x7 : Int32) (x8 : Int32) (x9 : Int32) (x10 : Int32) (x11 : Int32) (x12 : Int32) (x13 : Int32) (o15 : Option ts_V) (o16 : Option ts_V) (o17 : Option ts_V) (o18 : Option ts_V) (o19 : Option ts_V) (o20 : Option ts_V) (o21 : Option ts_V) (o22 : Option ts_V) (o23 : Option ts_V) (o24 : Option ts_V) (o25 : Option ts_V) (o26 : Option ts_V) (o27 : Option ts_V) (xt0 : Int32) (m : lt_m) : Option lt_r := lt_rk SG K d YW 1085 [q0, some (.inr (.inr (some 0))), some (.inl x2), some (.inl x3), o4, some (.inl x5), some (.inl x6), some (.inl x7), some (.inl x8), some (.inl x9), some (.inl x10), some (.inl x11), some (.inl x12), some (.inl x13), some (.inl (1 : Int32)), o15, o16, o17, o18, o19, o20, o21, o22, o23, o24, o25, o26, o27] [.inl xt0] m
noncomputable def LG_1097 (K : lk_K) (d : Nat) (q0 : Option ts_V) (x2 : Int32) (x3 : Int32) (o4 : Option ts_V) (x5 : Int32) (x6 : Int32) (x7 : Int32) (x8 : Int32) (x9 : Int32) (x10 : Int32) (x11 : Int32) (x12 : Int32) (x13 : Int32) (x15 : Int32) (o16 : Option ts_V) (o17 : Option ts_V) (o18 : Option ts_V) (o19 : Option ts_V) (o20 : Option ts_V) (o21 : Option ts_V) (o22 : Option ts_V) (o23 : Option ts_V) (o24 : Option ts_V) (o25 : Option ts_V) (o26 : Option ts_V) (o27 : Option ts_V) (xt0 : Int32) (m : lt_m) : Option lt_r := lt_rk SG K d YW 1097 [q0, some (.inr (.inr (some 0))), some (.inl x2), some (.inl x3), o4, some (.inl x5), some (.inl x6), some (.inl x7), some (.inl x8), some (.inl x9), some (.inl x10), some (.inl x11), some (.inl x12), some (.inl x13), some (.inl (1 : Int32)), some (.inl x15), o16, o17, o18, o19, o20, o21, o22, o23, o24, o25, o26, o27] [.inl xt0] m
noncomputable def LG_1130 (K : lk_K) (d : Nat) (q0 : Option ts_V) (x2 : Int32) (x3 : Int32) (o4 : Option ts_V) (x5 : Int32) (x6 : Int32) (x7 : Int32) (x8 : Int32) (x9 : Int32) (x10 : Int32) (x11 : Int32) (x12 : Int32) (x13 : Int32) (x14 : Int32) (x15 : Int32) (o16 : Option ts_V) (o17 : Option ts_V) (o18 : Option ts_V) (o19 : Option ts_V) (o20 : Option ts_V) (o21 : Option ts_V) (o22 : Option ts_V) (o23 : Option ts_V) (o24 : Option ts_V) (o25 : Option ts_V) (o26 : Option ts_V) (o27 : Option ts_V) (xt0 : Int32) (m : lt_m) : Option lt_r := lt_rk SG K d YW 1130 [q0, some (.inr (.inr (some 0))), some (.inl x2), some (.inl x3), o4, some (.inl x5), some (.inl x6), some (.inl x7), some (.inl x8), some (.inl x9), some (.inl x10), some (.inl x11), some (.inl x12), some (.inl x13), some (.inl x14), some (.inl x15), o16, o17, o18, o19, o20, o21, o22, o23, o24, o25, o26, o27] [.inl xt0] m
noncomputable def LG_1152 (K : lk_K) (d : Nat) (q0 : Option ts_V) (x2 : Int32) (x3 : Int32) (o4 : Option ts_V) (x5 : Int32) (x6 : Int32) (x7 : Int32) (x8 : Int32) (x9 : Int32) (x10 : Int32) (x11 : Int32) (x12 : Int32) (x13 : Int32) (x14 : Int32) (x15 : Int32) (o16 : Option ts_V) (o17 : Option ts_V) (o18 : Option ts_V) (o19 : Option ts_V) (o20 : Option ts_V) (o21 : Option ts_V) (o22 : Option ts_V) (o23 : Option ts_V) (o24 : Option ts_V) (o25 : Option ts_V) (o26 : Option ts_V) (o27 : Option ts_V) (xt0 : Int32) (xt1 : Int32) (m : lt_m) : Option lt_r := lt_rk SG K d YW 1152 [q0, some (.inr (.inr (some 0))), some (.inl x2), some (.inl x3), o4, some (.inl x5), some (.inl x6), some (.inl x7), some (.inl x8), some (.inl x9), some (.inl x10), some (.inl x11), some (.inl x12), some (.inl x13), some (.inl x14), some (.inl x15), o16, o17, o18, o19, o20, o21, o22, o23, o24, o25, o26, o27] [.inl xt0, .inl xt1] m
noncomputable def LG_1168 (K : lk_K) (d : Nat) (q0 : Option ts_V) (x2 : Int32) (x3 : Int32) (o4 : Option ts_V) (x5 : Int32) (x6 : Int32) (x7 : Int32) (x8 : Int32) (x9 : Int32) (x10 : Int32) (x11 : Int32) (x12 : Int32) (x13 : Int32) (x14 : Int32) (x15 : Int32) (o16 : Option ts_V) (o17 : Option ts_V) (o18 : Option ts_V) (o19 : Option ts_V) (o20 : Option ts_V) (o21 : Option ts_V) (o22 : Option ts_V) (o23 : Option ts_V) (o24 : Option ts_V) (o25 : Option ts_V) (o26 : Option ts_V) (o27 : Option ts_V) (xt0 : Int32) (m : lt_m) : Option lt_r := lt_rk SG K d YW 1168 [q0, some (.inr (.inr (some 0))), some (.inl x2), some (.inl x3), o4, some (.inl x5), some (.inl x6), some (.inl x7), some (.inl x8), some (.inl x9), some (.inl x10), some (.inl x11), some (.inl x12), some (.inl x13), some (.inl x14), some (.inl x15), o16, o17, o18, o19, o20, o21, o22, o23, o24, o25, o26, o27] [.inl xt0] m
noncomputable def LG_1179 (K : lk_K) (d : Nat) (q0 : Option ts_V) (x2 : Int32) (x3 : Int32) (o4 : Option ts_V) (x5 : Int32) (x6 : Int32) (x7 : Int32) (x8 : Int32) (x9 : Int32) (x10 : Int32) (x11 : Int32) (x12 : Int32) (x13 : Int32) (x14 : Int32) (x15 : Int32) (o16 : Option ts_V) (o17 : Option ts_V) (o18 : Option ts_V) (o19 : Option ts_V) (o20 : Option ts_V) (o21 : Option ts_V) (o22 : Option ts_V) (o23 : Option ts_V) (o24 : Option ts_V) (o25 : Option ts_V) (o26 : Option ts_V) (o27 : Option ts_V) (xt0 : Int32) (xt1 : Int32) (m : lt_m) : Option lt_r := lt_rk SG K d YW 1179 [q0, some (.inr (.inr (some 0))), some (.inl x2), some (.inl x3), o4, some (.inl x5), some (.inl x6), some (.inl x7), some (.inl x8), some (.inl x9), some (.inl x10), some (.inl x11), some (.inl x12), some (.inl x13), some (.inl x14), some (.inl x15), o16, o17, o18, o19, o20, o21, o22, o23, o24, o25, o26, o27] [.inl xt0, .inl xt1] m
noncomputable def LG_1184 (K : lk_K) (d : Nat) (q0 : Option ts_V) (x2 : Int32) (x3 : Int32) (o4 : Option ts_V) (x5 : Int32) (x6 : Int32) (x7 : Int32) (x8 : Int32) (x9 : Int32) (x10 : Int32) (x11 : Int32) (x12 : Int32) (x13 : Int32) (x14 : Int32) (x15 : Int32) (o16 : Option ts_V) (o17 : Option ts_V) (o18 : Option ts_V) (o19 : Option ts_V) (o20 : Option ts_V) (o21 : Option ts_V) (o22 : Option ts_V) (o23 : Option ts_V) (o24 : Option ts_V) (o25 : Option ts_V) (o26 : Option ts_V) (o27 : Option ts_V) (m : lt_m) : Option lt_r := lt_rk SG K d YW 1184 [q0, some (.inr (.inr (some 0))), some (.inl x2), some (.inl x3), o4, some (.inl x5), some (.inl x6), some (.inl x7), some (.inl x8), some (.inl x9), some (.inl x10), some (.inl x11), some (.inl x12), some (.inl x13), some (.inl x14), some (.inl x15), o16, o17, o18, o19, o20, o21, o22, o23, o24, o25, o26, o27] [] m
noncomputable def LG_1208 (K : lk_K) (d : Nat) (q0 : Option ts_V) (x2 : Int32) (x3 : Int32) (o4 : Option ts_V) (x5 : Int32) (x6 : Int32) (x7 : Int32) (x8 : Int32) (x9 : Int32) (x10 : Int32) (x11 : Int32) (x12 : Int32) (x13 : Int32) (x14 : Int32) (x15 : Int32) (o16 : Option ts_V) (o17 : Option ts_V) (o18 : Option ts_V) (o19 : Option ts_V) (o20 : Option ts_V) (o21 : Option ts_V) (o22 : Option ts_V) (o23 : Option ts_V) (o24 : Option ts_V) (o25 : Option ts_V) (o26 : Option ts_V) (o27 : Option ts_V) (xt0 : Int32) (xt1 : Int32) (m : lt_m) : Option lt_r := lt_rk SG K d YW 1208 [q0, some (.inr (.inr (some 0))), some (.inl x2), some (.inl x3), o4, some (.inl x5), some (.inl x6), some (.inl x7), some (.inl x8), some (.inl x9), some (.inl x10), some (.inl x11), some (.inl x12), some (.inl x13), some (.inl x14), some (.inl x15), o16, o17, o18, o19, o20, o21, o22, o23, o24, o25, o26, o27] [.inl xt0, .inl xt1] m
theorem EG (K : lk_K) (d : Nat) (q0 : Option ts_V) (x2 : Int32) (x3 : Int32) (o4 : Option ts_V) (x5 : Int32) (o6 : Option ts_V) (o7 : Option ts_V) (o8 : Option ts_V) (o9 : Option ts_V) (o10 : Option ts_V) (o11 : Option ts_V) (o12 : Option ts_V) (o13 : Option ts_V) (o14 : Option ts_V) (o15 : Option ts_V) (o16 : Option ts_V) (o17 : Option ts_V) (o18 : Option ts_V) (o19 : Option ts_V) (o20 : Option ts_V) (o21 : Option ts_V) (o22 : Option ts_V) (o23 : Option ts_V) (o24 : Option ts_V) (o25 : Option ts_V) (o26 : Option ts_V) (o27 : Option ts_V) (y1 : Int32) (m : lt_m) : lt_rk SG K d YW 268 [q0, some (.inr (.inr (some 0))), some (.inl x2), some (.inl x3), o4, some (.inl x5), o6, o7, o8, o9, o10, o11, o12, o13, o14, o15, o16, o17, o18, o19, o20, o21, o22, o23, o24, o25, o26, o27] [.inl y1] m = lt_cI (lt_ev d 173 [.inr (.inr (some 0)), .inl (5 : Int32)] m) (fun v1 m1 => (lt_cI (lt_ev d 173 [.inr (.inr (some 0)), .inl (6 : Int32)] m1) (fun v2 m2 => (lt_cI (lt_ev d 173 [.inr (.inr (some 0)), .inl (0 : Int32)] m2) (fun v3 m3 => (lt_cI (lt_ev d 173 [.inr (.inr (some 0)), .inl (7 : Int32)] m3) (fun v4 m4 => (if ¬ v1 = 0 then (lt_gd (¬ v1 = 0) (LG_319 K d q0 x2 x3 (o4) x5 y1 v1 v2 v3 v4 (o11) (o12) (o13) (o14) (o15) (o16) (o17) (o18) (o19) (o20) (o21) (o22) (o23) (o24) (o25) (o26) (o27) (((((y1).toUInt32 >>> (((4 : Int32)).toUInt32 &&& Int32.toUInt32 31)).toInt32) &&& (31 : Int32)) - ((((y1).toUInt32 >>> (((4 : Int32)).toUInt32 &&& Int32.toUInt32 31)).toInt32) &&& (31 : Int32)) / v1 * v1) m4)) else (LG_319 K d q0 x2 x3 (o4) x5 y1 v1 v2 v3 v4 (o11) (o12) (o13) (o14) (o15) (o16) (o17) (o18) (o19) (o20) (o21) (o22) (o23) (o24) (o25) (o26) (o27) (0 : Int32) m4))))))))) := by
  refine Eq.trans (lj_istore (ls' := [q0, some (.inr (.inr (some 0))), some (.inl x2), some (.inl x3), o4, some (.inl x5), some (.inl y1), o7, o8, o9, o10, o11, o12, o13, o14, o15, o16, o17, o18, o19, o20, o21, o22, o23, o24, o25, o26, o27]) (by rfl) dW_268 (by decide) (by rfl)) ?_
  refine Eq.trans (lj_aload_n (by rfl) dW_270 (by rfl)) ?_
  refine Eq.trans (lj_iconst (by rfl) dW_271 ic_5) ?_
  refine Eq.trans (lj_ivI (by rfl) dW_272 ca_14_27 kd_173 kl_173 (by rfl) (by rfl) s0_11 (Nat.le_of_ble_eq_true rfl) (Nat.le_of_ble_eq_true rfl)) ?_
  refine lt_cI_c (fun v1 m1 => ?_)
  refine Eq.trans (lj_istore (ls' := [q0, some (.inr (.inr (some 0))), some (.inl x2), some (.inl x3), o4, some (.inl x5), some (.inl y1), some (.inl v1), o8, o9, o10, o11, o12, o13, o14, o15, o16, o17, o18, o19, o20, o21, o22, o23, o24, o25, o26, o27]) (by rfl) dW_275 (by decide) (by rfl)) ?_
  refine Eq.trans (lj_aload_n (by rfl) dW_277 (by rfl)) ?_
  refine Eq.trans (lj_bipush (by rfl) dW_278 bi_6) ?_
  refine Eq.trans (lj_ivI (by rfl) dW_280 ca_14_27 kd_173 kl_173 (by rfl) (by rfl) s0_11 (Nat.le_of_ble_eq_true rfl) (Nat.le_of_ble_eq_true rfl)) ?_
  refine lt_cI_c (fun v2 m2 => ?_)
  refine Eq.trans (lj_istore (ls' := [q0, some (.inr (.inr (some 0))), some (.inl x2), some (.inl x3), o4, some (.inl x5), some (.inl y1), some (.inl v1), some (.inl v2), o9, o10, o11, o12, o13, o14, o15, o16, o17, o18, o19, o20, o21, o22, o23, o24, o25, o26, o27]) (by rfl) dW_283 (by decide) (by rfl)) ?_
  refine Eq.trans (lj_aload_n (by rfl) dW_285 (by rfl)) ?_
  refine Eq.trans (lj_iconst (by rfl) dW_286 ic_0) ?_
  refine Eq.trans (lj_ivI (by rfl) dW_287 ca_14_27 kd_173 kl_173 (by rfl) (by rfl) s0_11 (Nat.le_of_ble_eq_true rfl) (Nat.le_of_ble_eq_true rfl)) ?_
  refine lt_cI_c (fun v3 m3 => ?_)
  refine Eq.trans (lj_istore (ls' := [q0, some (.inr (.inr (some 0))), some (.inl x2), some (.inl x3), o4, some (.inl x5), some (.inl y1), some (.inl v1), some (.inl v2), some (.inl v3), o10, o11, o12, o13, o14, o15, o16, o17, o18, o19, o20, o21, o22, o23, o24, o25, o26, o27]) (by rfl) dW_290 (by decide) (by rfl)) ?_
  refine Eq.trans (lj_aload_n (by rfl) dW_292 (by rfl)) ?_
  refine Eq.trans (lj_bipush (by rfl) dW_293 bi_7) ?_
  refine Eq.trans (lj_ivI (by rfl) dW_295 ca_14_27 kd_173 kl_173 (by rfl) (by rfl) s0_11 (Nat.le_of_ble_eq_true rfl) (Nat.le_of_ble_eq_true rfl)) ?_
  refine lt_cI_c (fun v4 m4 => ?_)
  refine Eq.trans (lj_istore (ls' := [q0, some (.inr (.inr (some 0))), some (.inl x2), some (.inl x3), o4, some (.inl x5), some (.inl y1), some (.inl v1), some (.inl v2), some (.inl v3), some (.inl v4), o11, o12, o13, o14, o15, o16, o17, o18, o19, o20, o21, o22, o23, o24, o25, o26, o27]) (by rfl) dW_298 (by decide) (by rfl)) ?_
  refine Eq.trans (lj_iload (by rfl) dW_300 (by rfl)) ?_
  refine Eq.trans (lj_if_ne (t := 309) (by rfl) dW_302 (by rfl)) ?_
  refine lt_ite (fun c1 => ?_) (fun c1 => ?_)
  · refine Eq.trans (lj_iload (by rfl) dW_309 (by rfl)) ?_
    refine Eq.trans (lj_iconst (by rfl) dW_311 ic_4) ?_
    refine Eq.trans (lj_iushr (by rfl) dW_312) ?_
    refine Eq.trans (lj_bipush (by rfl) dW_313 bi_31) ?_
    refine Eq.trans (lj_iand (by rfl) dW_315) ?_
    refine Eq.trans (lj_iload (by rfl) dW_316 (by rfl)) ?_
    refine Eq.trans (lj_irem (by rfl) dW_318) ?_
    refine lt_gd_c (fun g1 => ?_)
    rfl
  · refine Eq.trans (lj_iconst (by rfl) dW_305 ic_0) ?_
    refine Eq.trans (lj_goto (t := 319) (by rfl) dW_306 (by rfl)) ?_
    rfl
theorem EG_319 (K : lk_K) (d : Nat) (q0 : Option ts_V) (x2 : Int32) (x3 : Int32) (o4 : Option ts_V) (x5 : Int32) (x6 : Int32) (x7 : Int32) (x8 : Int32) (x9 : Int32) (x10 : Int32) (o11 : Option ts_V) (o12 : Option ts_V) (o13 : Option ts_V) (o14 : Option ts_V) (o15 : Option ts_V) (o16 : Option ts_V) (o17 : Option ts_V) (o18 : Option ts_V) (o19 : Option ts_V) (o20 : Option ts_V) (o21 : Option ts_V) (o22 : Option ts_V) (o23 : Option ts_V) (o24 : Option ts_V) (o25 : Option ts_V) (o26 : Option ts_V) (o27 : Option ts_V) (xt0 : Int32) (m : lt_m) : LG_319 K d q0 x2 x3 o4 x5 x6 x7 x8 x9 x10 o11 o12 o13 o14 o15 o16 o17 o18 o19 o20 o21 o22 o23 o24 o25 o26 o27 xt0 m = lt_cI (lt_ev d 129 [.inr (.inr (some 0)), .inl xt0, .inl (3 : Int32)] m) (fun v1 m1 => (lt_sw (x6 &&& (15 : Int32)) [(if ¬ ((((x6).toUInt32 >>> (((20 : Int32)).toUInt32 &&& Int32.toUInt32 31)).toInt32) &&& (1 : Int32)) = (1 : Int32) then (LG_456 K d q0 x2 x3 (o4) x5 x6 x7 x8 x9 x10 xt0 ((((x6).toUInt32 >>> (((9 : Int32)).toUInt32 &&& Int32.toUInt32 31)).toInt32) &&& (63 : Int32)) v1 (((((x6).toUInt32 >>> (((15 : Int32)).toUInt32 &&& Int32.toUInt32 31)).toInt32) &&& (7 : Int32)) - ((((x6).toUInt32 >>> (((15 : Int32)).toUInt32 &&& Int32.toUInt32 31)).toInt32) &&& (7 : Int32)) / (6 : Int32) * (6 : Int32)) ((2 : Int32) + ((((x6).toUInt32 >>> (((18 : Int32)).toUInt32 &&& Int32.toUInt32 31)).toInt32) &&& (3 : Int32))) (o17) (o18) (o19) (o20) (o21) (o22) (o23) (o24) (o25) (o26) (o27) (5 : Int32) m1) else (LG_456 K d q0 x2 x3 (o4) x5 x6 x7 x8 x9 x10 xt0 ((((x6).toUInt32 >>> (((9 : Int32)).toUInt32 &&& Int32.toUInt32 31)).toInt32) &&& (63 : Int32)) v1 (((((x6).toUInt32 >>> (((15 : Int32)).toUInt32 &&& Int32.toUInt32 31)).toInt32) &&& (7 : Int32)) - ((((x6).toUInt32 >>> (((15 : Int32)).toUInt32 &&& Int32.toUInt32 31)).toInt32) &&& (7 : Int32)) / (6 : Int32) * (6 : Int32)) ((2 : Int32) + ((((x6).toUInt32 >>> (((18 : Int32)).toUInt32 &&& Int32.toUInt32 31)).toInt32) &&& (3 : Int32))) (o17) (o18) (o19) (o20) (o21) (o22) (o23) (o24) (o25) (o26) (o27) (1 : Int32) m1)), (if ¬ ((((x6).toUInt32 >>> (((20 : Int32)).toUInt32 &&& Int32.toUInt32 31)).toInt32) &&& (1 : Int32)) = (1 : Int32) then (LG_456 K d q0 x2 x3 (o4) x5 x6 x7 x8 x9 x10 xt0 ((((x6).toUInt32 >>> (((9 : Int32)).toUInt32 &&& Int32.toUInt32 31)).toInt32) &&& (63 : Int32)) v1 (((((x6).toUInt32 >>> (((15 : Int32)).toUInt32 &&& Int32.toUInt32 31)).toInt32) &&& (7 : Int32)) - ((((x6).toUInt32 >>> (((15 : Int32)).toUInt32 &&& Int32.toUInt32 31)).toInt32) &&& (7 : Int32)) / (6 : Int32) * (6 : Int32)) ((2 : Int32) + ((((x6).toUInt32 >>> (((18 : Int32)).toUInt32 &&& Int32.toUInt32 31)).toInt32) &&& (3 : Int32))) (o17) (o18) (o19) (o20) (o21) (o22) (o23) (o24) (o25) (o26) (o27) (5 : Int32) m1) else (LG_456 K d q0 x2 x3 (o4) x5 x6 x7 x8 x9 x10 xt0 ((((x6).toUInt32 >>> (((9 : Int32)).toUInt32 &&& Int32.toUInt32 31)).toInt32) &&& (63 : Int32)) v1 (((((x6).toUInt32 >>> (((15 : Int32)).toUInt32 &&& Int32.toUInt32 31)).toInt32) &&& (7 : Int32)) - ((((x6).toUInt32 >>> (((15 : Int32)).toUInt32 &&& Int32.toUInt32 31)).toInt32) &&& (7 : Int32)) / (6 : Int32) * (6 : Int32)) ((2 : Int32) + ((((x6).toUInt32 >>> (((18 : Int32)).toUInt32 &&& Int32.toUInt32 31)).toInt32) &&& (3 : Int32))) (o17) (o18) (o19) (o20) (o21) (o22) (o23) (o24) (o25) (o26) (o27) (1 : Int32) m1)), (if ¬ ((((x6).toUInt32 >>> (((20 : Int32)).toUInt32 &&& Int32.toUInt32 31)).toInt32) &&& (1 : Int32)) = (1 : Int32) then (LG_456 K d q0 x2 x3 (o4) x5 x6 x7 x8 x9 x10 xt0 ((((x6).toUInt32 >>> (((9 : Int32)).toUInt32 &&& Int32.toUInt32 31)).toInt32) &&& (63 : Int32)) v1 (((((x6).toUInt32 >>> (((15 : Int32)).toUInt32 &&& Int32.toUInt32 31)).toInt32) &&& (7 : Int32)) - ((((x6).toUInt32 >>> (((15 : Int32)).toUInt32 &&& Int32.toUInt32 31)).toInt32) &&& (7 : Int32)) / (6 : Int32) * (6 : Int32)) ((2 : Int32) + ((((x6).toUInt32 >>> (((18 : Int32)).toUInt32 &&& Int32.toUInt32 31)).toInt32) &&& (3 : Int32))) (o17) (o18) (o19) (o20) (o21) (o22) (o23) (o24) (o25) (o26) (o27) (5 : Int32) m1) else (LG_456 K d q0 x2 x3 (o4) x5 x6 x7 x8 x9 x10 xt0 ((((x6).toUInt32 >>> (((9 : Int32)).toUInt32 &&& Int32.toUInt32 31)).toInt32) &&& (63 : Int32)) v1 (((((x6).toUInt32 >>> (((15 : Int32)).toUInt32 &&& Int32.toUInt32 31)).toInt32) &&& (7 : Int32)) - ((((x6).toUInt32 >>> (((15 : Int32)).toUInt32 &&& Int32.toUInt32 31)).toInt32) &&& (7 : Int32)) / (6 : Int32) * (6 : Int32)) ((2 : Int32) + ((((x6).toUInt32 >>> (((18 : Int32)).toUInt32 &&& Int32.toUInt32 31)).toInt32) &&& (3 : Int32))) (o17) (o18) (o19) (o20) (o21) (o22) (o23) (o24) (o25) (o26) (o27) (1 : Int32) m1)), (if ¬ ((((x6).toUInt32 >>> (((20 : Int32)).toUInt32 &&& Int32.toUInt32 31)).toInt32) &&& (1 : Int32)) = (1 : Int32) then (LG_456 K d q0 x2 x3 (o4) x5 x6 x7 x8 x9 x10 xt0 ((((x6).toUInt32 >>> (((9 : Int32)).toUInt32 &&& Int32.toUInt32 31)).toInt32) &&& (63 : Int32)) v1 (((((x6).toUInt32 >>> (((15 : Int32)).toUInt32 &&& Int32.toUInt32 31)).toInt32) &&& (7 : Int32)) - ((((x6).toUInt32 >>> (((15 : Int32)).toUInt32 &&& Int32.toUInt32 31)).toInt32) &&& (7 : Int32)) / (6 : Int32) * (6 : Int32)) ((2 : Int32) + ((((x6).toUInt32 >>> (((18 : Int32)).toUInt32 &&& Int32.toUInt32 31)).toInt32) &&& (3 : Int32))) (o17) (o18) (o19) (o20) (o21) (o22) (o23) (o24) (o25) (o26) (o27) (5 : Int32) m1) else (LG_456 K d q0 x2 x3 (o4) x5 x6 x7 x8 x9 x10 xt0 ((((x6).toUInt32 >>> (((9 : Int32)).toUInt32 &&& Int32.toUInt32 31)).toInt32) &&& (63 : Int32)) v1 (((((x6).toUInt32 >>> (((15 : Int32)).toUInt32 &&& Int32.toUInt32 31)).toInt32) &&& (7 : Int32)) - ((((x6).toUInt32 >>> (((15 : Int32)).toUInt32 &&& Int32.toUInt32 31)).toInt32) &&& (7 : Int32)) / (6 : Int32) * (6 : Int32)) ((2 : Int32) + ((((x6).toUInt32 >>> (((18 : Int32)).toUInt32 &&& Int32.toUInt32 31)).toInt32) &&& (3 : Int32))) (o17) (o18) (o19) (o20) (o21) (o22) (o23) (o24) (o25) (o26) (o27) (1 : Int32) m1)), (lt_cI (lt_ev d 132 [.inr (.inr (some 0)), .inl xt0] m1) (fun v2 m2 => (if 0 ≤ v2 then (lt_cL (lt_ev d 175 [.inr (.inr (some 0)), .inl (1 : Int32)] m2) (fun v3 m3 => (LG_732 K d q0 x2 x3 (o4) x5 x6 x7 x8 x9 x10 xt0 ((((x6).toUInt32 >>> (((9 : Int32)).toUInt32 &&& Int32.toUInt32 31)).toInt32) &&& (63 : Int32)) v1 v2 (o16) (o17) (o18) (o19) (o20) (o21) (o22) (o23) (o24) (o25) (o26) (o27) ((v3).toInt32) m3))) else (LG_732 K d q0 x2 x3 (o4) x5 x6 x7 x8 x9 x10 xt0 ((((x6).toUInt32 >>> (((9 : Int32)).toUInt32 &&& Int32.toUInt32 31)).toInt32) &&& (63 : Int32)) v1 v2 (o16) (o17) (o18) (o19) (o20) (o21) (o22) (o23) (o24) (o25) (o26) (o27) (0 : Int32) m2)))), (lt_cI (lt_ev d 132 [.inr (.inr (some 0)), .inl xt0] m1) (fun v4 m4 => (if 0 ≤ v4 then (lt_cL (lt_ev d 175 [.inr (.inr (some 0)), .inl (1 : Int32)] m4) (fun v5 m5 => (LG_732 K d q0 x2 x3 (o4) x5 x6 x7 x8 x9 x10 xt0 ((((x6).toUInt32 >>> (((9 : Int32)).toUInt32 &&& Int32.toUInt32 31)).toInt32) &&& (63 : Int32)) v1 v4 (o16) (o17) (o18) (o19) (o20) (o21) (o22) (o23) (o24) (o25) (o26) (o27) ((v5).toInt32) m5))) else (LG_732 K d q0 x2 x3 (o4) x5 x6 x7 x8 x9 x10 xt0 ((((x6).toUInt32 >>> (((9 : Int32)).toUInt32 &&& Int32.toUInt32 31)).toInt32) &&& (63 : Int32)) v1 v4 (o16) (o17) (o18) (o19) (o20) (o21) (o22) (o23) (o24) (o25) (o26) (o27) (0 : Int32) m4)))), (lt_cI (lt_ev d 132 [.inr (.inr (some 0)), .inl xt0] m1) (fun v6 m6 => (if 0 ≤ v6 then (lt_cL (lt_ev d 175 [.inr (.inr (some 0)), .inl (1 : Int32)] m6) (fun v7 m7 => (LG_732 K d q0 x2 x3 (o4) x5 x6 x7 x8 x9 x10 xt0 ((((x6).toUInt32 >>> (((9 : Int32)).toUInt32 &&& Int32.toUInt32 31)).toInt32) &&& (63 : Int32)) v1 v6 (o16) (o17) (o18) (o19) (o20) (o21) (o22) (o23) (o24) (o25) (o26) (o27) ((v7).toInt32) m7))) else (LG_732 K d q0 x2 x3 (o4) x5 x6 x7 x8 x9 x10 xt0 ((((x6).toUInt32 >>> (((9 : Int32)).toUInt32 &&& Int32.toUInt32 31)).toInt32) &&& (63 : Int32)) v1 v6 (o16) (o17) (o18) (o19) (o20) (o21) (o22) (o23) (o24) (o25) (o26) (o27) (0 : Int32) m6)))), (lt_cI (lt_ev d 132 [.inr (.inr (some 0)), .inl xt0] m1) (fun v8 m8 => (if 0 ≤ v8 then (lt_cL (lt_ev d 175 [.inr (.inr (some 0)), .inl (1 : Int32)] m8) (fun v9 m9 => (LG_732 K d q0 x2 x3 (o4) x5 x6 x7 x8 x9 x10 xt0 ((((x6).toUInt32 >>> (((9 : Int32)).toUInt32 &&& Int32.toUInt32 31)).toInt32) &&& (63 : Int32)) v1 v8 (o16) (o17) (o18) (o19) (o20) (o21) (o22) (o23) (o24) (o25) (o26) (o27) ((v9).toInt32) m9))) else (LG_732 K d q0 x2 x3 (o4) x5 x6 x7 x8 x9 x10 xt0 ((((x6).toUInt32 >>> (((9 : Int32)).toUInt32 &&& Int32.toUInt32 31)).toInt32) &&& (63 : Int32)) v1 v8 (o16) (o17) (o18) (o19) (o20) (o21) (o22) (o23) (o24) (o25) (o26) (o27) (0 : Int32) m8)))), (lt_cI (lt_ev d 132 [.inr (.inr (some 0)), .inl xt0] m1) (fun v10 m10 => (if 0 ≤ v10 then (lt_cL (lt_ev d 175 [.inr (.inr (some 0)), .inl (1 : Int32)] m10) (fun v11 m11 => (LG_732 K d q0 x2 x3 (o4) x5 x6 x7 x8 x9 x10 xt0 ((((x6).toUInt32 >>> (((9 : Int32)).toUInt32 &&& Int32.toUInt32 31)).toInt32) &&& (63 : Int32)) v1 v10 (o16) (o17) (o18) (o19) (o20) (o21) (o22) (o23) (o24) (o25) (o26) (o27) ((v11).toInt32) m11))) else (LG_732 K d q0 x2 x3 (o4) x5 x6 x7 x8 x9 x10 xt0 ((((x6).toUInt32 >>> (((9 : Int32)).toUInt32 &&& Int32.toUInt32 31)).toInt32) &&& (63 : Int32)) v1 v10 (o16) (o17) (o18) (o19) (o20) (o21) (o22) (o23) (o24) (o25) (o26) (o27) (0 : Int32) m10)))), (lt_cI (lt_ev d 173 [.inr (.inr (some 0)), .inl (10 : Int32)] m1) (fun v12 m12 => (lt_cI (lt_ev d 129 [.inr (.inr (some 0)), .inl xt0, .inl (9 : Int32)] m12) (fun v13 m13 => (lt_cI (lt_ev d 117 [.inr (.inr (some 0)), .inl xt0] m13) (fun v14 m14 => (if v14 < 0 then (LG_876 K d q0 x2 x3 (o4) x5 x6 x7 x8 x9 x10 xt0 ((((x6).toUInt32 >>> (((9 : Int32)).toUInt32 &&& Int32.toUInt32 31)).toInt32) &&& (63 : Int32)) v1 v12 v13 v14 (o18) (o19) (o20) (o21) (o22) (o23) (o24) (o25) (o26) (o27) (0 : Int32) m14) else (LG_876 K d q0 x2 x3 (o4) x5 x6 x7 x8 x9 x10 xt0 ((((x6).toUInt32 >>> (((9 : Int32)).toUInt32 &&& Int32.toUInt32 31)).toInt32) &&& (63 : Int32)) v1 v12 v13 v14 (o18) (o19) (o20) (o21) (o22) (o23) (o24) (o25) (o26) (o27) (1 : Int32) m14)))))))), (lt_cI (lt_ev d 129 [.inr (.inr (some 0)), .inl xt0, .inl (2 : Int32)] m1) (fun v15 m15 => (lt_cI (lt_ev d 129 [.inr (.inr (some 0)), .inl xt0, .inl (4 : Int32)] m15) (fun v16 m16 => (if ¬ x7 = 0 then (if ¬ (((((x6).toUInt32 >>> (((9 : Int32)).toUInt32 &&& Int32.toUInt32 31)).toInt32) &&& (63 : Int32)) &&& (1 : Int32)) = 0 then (LG_968 K d q0 x2 x3 (o4) x5 x6 x7 x8 x9 x10 xt0 ((((x6).toUInt32 >>> (((9 : Int32)).toUInt32 &&& Int32.toUInt32 31)).toInt32) &&& (63 : Int32)) v1 v15 v16 (o17) (o18) (o19) (o20) (o21) (o22) (o23) (o24) (o25) (o26) (o27) (0 : Int32) xt0 m16) else (LG_968 K d q0 x2 x3 (o4) x5 x6 x7 x8 x9 x10 xt0 ((((x6).toUInt32 >>> (((9 : Int32)).toUInt32 &&& Int32.toUInt32 31)).toInt32) &&& (63 : Int32)) v1 v15 v16 (o17) (o18) (o19) (o20) (o21) (o22) (o23) (o24) (o25) (o26) (o27) v15 xt0 m16)) else (LG_968 K d q0 x2 x3 (o4) x5 x6 x7 x8 x9 x10 xt0 ((((x6).toUInt32 >>> (((9 : Int32)).toUInt32 &&& Int32.toUInt32 31)).toInt32) &&& (63 : Int32)) v1 v15 v16 (o17) (o18) (o19) (o20) (o21) (o22) (o23) (o24) (o25) (o26) (o27) (0 : Int32) xt0 m16)))))), (lt_cI (lt_ev d 129 [.inr (.inr (some 0)), .inl xt0, .inl (2 : Int32)] m1) (fun v17 m17 => (lt_cI (lt_ev d 129 [.inr (.inr (some 0)), .inl xt0, .inl (4 : Int32)] m17) (fun v18 m18 => (if ¬ x7 = 0 then (if ¬ (((((x6).toUInt32 >>> (((9 : Int32)).toUInt32 &&& Int32.toUInt32 31)).toInt32) &&& (63 : Int32)) &&& (1 : Int32)) = 0 then (LG_968 K d q0 x2 x3 (o4) x5 x6 x7 x8 x9 x10 xt0 ((((x6).toUInt32 >>> (((9 : Int32)).toUInt32 &&& Int32.toUInt32 31)).toInt32) &&& (63 : Int32)) v1 v17 v18 (o17) (o18) (o19) (o20) (o21) (o22) (o23) (o24) (o25) (o26) (o27) (0 : Int32) xt0 m18) else (LG_968 K d q0 x2 x3 (o4) x5 x6 x7 x8 x9 x10 xt0 ((((x6).toUInt32 >>> (((9 : Int32)).toUInt32 &&& Int32.toUInt32 31)).toInt32) &&& (63 : Int32)) v1 v17 v18 (o17) (o18) (o19) (o20) (o21) (o22) (o23) (o24) (o25) (o26) (o27) v17 xt0 m18)) else (LG_968 K d q0 x2 x3 (o4) x5 x6 x7 x8 x9 x10 xt0 ((((x6).toUInt32 >>> (((9 : Int32)).toUInt32 &&& Int32.toUInt32 31)).toInt32) &&& (63 : Int32)) v1 v17 v18 (o17) (o18) (o19) (o20) (o21) (o22) (o23) (o24) (o25) (o26) (o27) (0 : Int32) xt0 m18)))))), (if ¬ (((((x6).toUInt32 >>> (((9 : Int32)).toUInt32 &&& Int32.toUInt32 31)).toInt32) &&& (63 : Int32)) &&& (1 : Int32)) = 0 then (lt_cI (lt_ev d 123 [.inr (.inr (some 0)), .inl xt0] m1) (fun v19 m19 => (LG_1085 K d q0 x2 x3 (o4) x5 x6 x7 x8 x9 x10 xt0 ((((x6).toUInt32 >>> (((9 : Int32)).toUInt32 &&& Int32.toUInt32 31)).toInt32) &&& (63 : Int32)) v1 (o15) (o16) (o17) (o18) (o19) (o20) (o21) (o22) (o23) (o24) (o25) (o26) (o27) v19 m19))) else (lt_cI (lt_ev d 121 [.inr (.inr (some 0)), .inl xt0] m1) (fun v20 m20 => (LG_1085 K d q0 x2 x3 (o4) x5 x6 x7 x8 x9 x10 xt0 ((((x6).toUInt32 >>> (((9 : Int32)).toUInt32 &&& Int32.toUInt32 31)).toInt32) &&& (63 : Int32)) v1 (o15) (o16) (o17) (o18) (o19) (o20) (o21) (o22) (o23) (o24) (o25) (o26) (o27) v20 m20))))] (lt_cI (lt_ev d 137 [.inr (.inr (some 0)), .inl (0 : Int32)] m1) (fun v21 m21 => (lt_cI (lt_ev d 137 [.inr (.inr (some 0)), .inl (3 : Int32)] m21) (fun v22 m22 => (lt_cI (lt_ev d 124 [.inr (.inr (some 0)), .inl ((1 : Int32) + ((((x6).toUInt32 >>> (((9 : Int32)).toUInt32 &&& Int32.toUInt32 31)).toInt32) &&& (63 : Int32)))] m22) (fun v23 m23 => (lt_cI (lt_ev d 137 [.inr (.inr (some 0)), .inl (0 : Int32)] m23) (fun v24 m24 => (lt_cI (lt_ev d 137 [.inr (.inr (some 0)), .inl (3 : Int32)] m24) (fun v25 m25 => (lt_cI (lt_ev d 60 [.inl ((v21 &&& (v24 ^^^ (-1 : Int32))) ||| (v22 &&& (v25 ^^^ (-1 : Int32))))] m25) (fun v26 m26 => (if ¬ v23 = v26 then (some (some (.inl (0 : Int32)), m26)) else (if ¬ (v24 &&& (v21 ^^^ (-1 : Int32))) = 0 then (some (some (.inl (0 : Int32)), m26)) else (lt_cI (lt_ev d 173 [.inr (.inr (some 0)), .inl (0 : Int32)] m26) (fun v27 m27 => (if v27 = ((x9 + (1 : Int32)) + ((((x6).toUInt32 >>> (((9 : Int32)).toUInt32 &&& Int32.toUInt32 31)).toInt32) &&& (63 : Int32))) then (K 1301 [q0, some (.inr (.inr (some 0))), some (.inl x2), some (.inl x3), o4, some (.inl x5), some (.inl x6), some (.inl x7), some (.inl x8), some (.inl x9), some (.inl x10), some (.inl xt0), some (.inl ((((x6).toUInt32 >>> (((9 : Int32)).toUInt32 &&& Int32.toUInt32 31)).toInt32) &&& (63 : Int32))), some (.inl v1), some (.inl (1 : Int32)), some (.inl v21), some (.inl v22), some (.inl v23), some (.inl v24), some (.inl v25), o20, o21, o22, o23, o24, o25, o26, o27] [] m27) else (some (some (.inl (0 : Int32)), m27))))))))))))))))))))) := by
  show lt_rk SG K d YW 319 [q0, some (.inr (.inr (some 0))), some (.inl x2), some (.inl x3), o4, some (.inl x5), some (.inl x6), some (.inl x7), some (.inl x8), some (.inl x9), some (.inl x10), o11, o12, o13, o14, o15, o16, o17, o18, o19, o20, o21, o22, o23, o24, o25, o26, o27] [.inl xt0] m = _
  refine Eq.trans (lj_istore (ls' := [q0, some (.inr (.inr (some 0))), some (.inl x2), some (.inl x3), o4, some (.inl x5), some (.inl x6), some (.inl x7), some (.inl x8), some (.inl x9), some (.inl x10), some (.inl xt0), o12, o13, o14, o15, o16, o17, o18, o19, o20, o21, o22, o23, o24, o25, o26, o27]) (by rfl) dW_319 (by decide) (by rfl)) ?_
  refine Eq.trans (lj_iload (by rfl) dW_321 (by rfl)) ?_
  refine Eq.trans (lj_bipush (by rfl) dW_323 bi_9) ?_
  refine Eq.trans (lj_iushr (by rfl) dW_325) ?_
  refine Eq.trans (lj_bipush (by rfl) dW_326 bi_63) ?_
  refine Eq.trans (lj_iand (by rfl) dW_328) ?_
  refine Eq.trans (lj_istore (ls' := [q0, some (.inr (.inr (some 0))), some (.inl x2), some (.inl x3), o4, some (.inl x5), some (.inl x6), some (.inl x7), some (.inl x8), some (.inl x9), some (.inl x10), some (.inl xt0), some (.inl ((((x6).toUInt32 >>> (((9 : Int32)).toUInt32 &&& Int32.toUInt32 31)).toInt32) &&& (63 : Int32))), o13, o14, o15, o16, o17, o18, o19, o20, o21, o22, o23, o24, o25, o26, o27]) (by rfl) dW_329 (by decide) (by rfl)) ?_
  refine Eq.trans (lj_aload_n (by rfl) dW_331 (by rfl)) ?_
  refine Eq.trans (lj_iload (by rfl) dW_332 (by rfl)) ?_
  refine Eq.trans (lj_iconst (by rfl) dW_334 ic_3) ?_
  refine Eq.trans (lj_ivI (by rfl) dW_335 ca_14_64 kd_129 kl_129 (by rfl) (by rfl) s0_11 (Nat.le_of_ble_eq_true rfl) (Nat.le_of_ble_eq_true rfl)) ?_
  refine lt_cI_c (fun v1 m1 => ?_)
  refine Eq.trans (lj_istore (ls' := [q0, some (.inr (.inr (some 0))), some (.inl x2), some (.inl x3), o4, some (.inl x5), some (.inl x6), some (.inl x7), some (.inl x8), some (.inl x9), some (.inl x10), some (.inl xt0), some (.inl ((((x6).toUInt32 >>> (((9 : Int32)).toUInt32 &&& Int32.toUInt32 31)).toInt32) &&& (63 : Int32))), some (.inl v1), o14, o15, o16, o17, o18, o19, o20, o21, o22, o23, o24, o25, o26, o27]) (by rfl) dW_338 (by decide) (by rfl)) ?_
  refine Eq.trans (lj_iconst (by rfl) dW_340 ic_1) ?_
  refine Eq.trans (lj_istore (ls' := [q0, some (.inr (.inr (some 0))), some (.inl x2), some (.inl x3), o4, some (.inl x5), some (.inl x6), some (.inl x7), some (.inl x8), some (.inl x9), some (.inl x10), some (.inl xt0), some (.inl ((((x6).toUInt32 >>> (((9 : Int32)).toUInt32 &&& Int32.toUInt32 31)).toInt32) &&& (63 : Int32))), some (.inl v1), some (.inl (1 : Int32)), o15, o16, o17, o18, o19, o20, o21, o22, o23, o24, o25, o26, o27]) (by rfl) dW_341 (by decide) (by rfl)) ?_
  refine Eq.trans (lj_iload (by rfl) dW_343 (by rfl)) ?_
  refine Eq.trans (lj_bipush (by rfl) dW_345 bi_15) ?_
  refine Eq.trans (lj_iand (by rfl) dW_347) ?_
  refine Eq.trans (lj_tsw (n := 12) (td := 1213) (ts := [416, 416, 416, 416, 709, 709, 709, 709, 709, 840, 925, 925, 1063]) (by rfl) dW_348 (by decide) (by decide) (by rfl)) ?_
  refine lt_sw_c ?_ ?_
  · simp only [List.map_cons, List.map_nil]
    refine lt_l2 ?_ (lt_l2 ?_ (lt_l2 ?_ (lt_l2 ?_ (lt_l2 ?_ (lt_l2 ?_ (lt_l2 ?_ (lt_l2 ?_ (lt_l2 ?_ (lt_l2 ?_ (lt_l2 ?_ (lt_l2 ?_ (lt_l2 ?_ (rfl)))))))))))))
    · refine Eq.trans (lj_iload (by rfl) dW_416 (by rfl)) ?_
      refine Eq.trans (lj_bipush (by rfl) dW_418 bi_15) ?_
      refine Eq.trans (lj_iushr (by rfl) dW_420) ?_
      refine Eq.trans (lj_bipush (by rfl) dW_421 bi_7) ?_
      refine Eq.trans (lj_iand (by rfl) dW_423) ?_
      refine Eq.trans (lj_bipush (by rfl) dW_424 bi_6) ?_
      refine Eq.trans (lj_irem (by rfl) dW_426) ?_
      refine Eq.trans (lt_gd_t (by decide)) ?_
      refine Eq.trans (lj_istore (ls' := [q0, some (.inr (.inr (some 0))), some (.inl x2), some (.inl x3), o4, some (.inl x5), some (.inl x6), some (.inl x7), some (.inl x8), some (.inl x9), some (.inl x10), some (.inl xt0), some (.inl ((((x6).toUInt32 >>> (((9 : Int32)).toUInt32 &&& Int32.toUInt32 31)).toInt32) &&& (63 : Int32))), some (.inl v1), some (.inl (1 : Int32)), some (.inl (((((x6).toUInt32 >>> (((15 : Int32)).toUInt32 &&& Int32.toUInt32 31)).toInt32) &&& (7 : Int32)) - ((((x6).toUInt32 >>> (((15 : Int32)).toUInt32 &&& Int32.toUInt32 31)).toInt32) &&& (7 : Int32)) / (6 : Int32) * (6 : Int32))), o16, o17, o18, o19, o20, o21, o22, o23, o24, o25, o26, o27]) (by rfl) dW_427 (by decide) (by rfl)) ?_
      refine Eq.trans (lj_iconst (by rfl) dW_429 ic_2) ?_
      refine Eq.trans (lj_iload (by rfl) dW_430 (by rfl)) ?_
      refine Eq.trans (lj_bipush (by rfl) dW_432 bi_18) ?_
      refine Eq.trans (lj_iushr (by rfl) dW_434) ?_
      refine Eq.trans (lj_iconst (by rfl) dW_435 ic_3) ?_
      refine Eq.trans (lj_iand (by rfl) dW_436) ?_
      refine Eq.trans (lj_iadd (by rfl) dW_437) ?_
      refine Eq.trans (lj_istore (ls' := [q0, some (.inr (.inr (some 0))), some (.inl x2), some (.inl x3), o4, some (.inl x5), some (.inl x6), some (.inl x7), some (.inl x8), some (.inl x9), some (.inl x10), some (.inl xt0), some (.inl ((((x6).toUInt32 >>> (((9 : Int32)).toUInt32 &&& Int32.toUInt32 31)).toInt32) &&& (63 : Int32))), some (.inl v1), some (.inl (1 : Int32)), some (.inl (((((x6).toUInt32 >>> (((15 : Int32)).toUInt32 &&& Int32.toUInt32 31)).toInt32) &&& (7 : Int32)) - ((((x6).toUInt32 >>> (((15 : Int32)).toUInt32 &&& Int32.toUInt32 31)).toInt32) &&& (7 : Int32)) / (6 : Int32) * (6 : Int32))), some (.inl ((2 : Int32) + ((((x6).toUInt32 >>> (((18 : Int32)).toUInt32 &&& Int32.toUInt32 31)).toInt32) &&& (3 : Int32)))), o17, o18, o19, o20, o21, o22, o23, o24, o25, o26, o27]) (by rfl) dW_438 (by decide) (by rfl)) ?_
      refine Eq.trans (lj_iload (by rfl) dW_440 (by rfl)) ?_
      refine Eq.trans (lj_bipush (by rfl) dW_442 bi_20) ?_
      refine Eq.trans (lj_iushr (by rfl) dW_444) ?_
      refine Eq.trans (lj_iconst (by rfl) dW_445 ic_1) ?_
      refine Eq.trans (lj_iand (by rfl) dW_446) ?_
      refine Eq.trans (lj_iconst (by rfl) dW_447 ic_1) ?_
      refine Eq.trans (lj_icmp_ne (t := 455) (by rfl) dW_448 (by rfl)) ?_
      refine lt_ite (fun c1 => ?_) (fun c1 => ?_)
      · refine Eq.trans (lj_iconst (by rfl) dW_455 ic_5) ?_
        rfl
      · refine Eq.trans (lj_iconst (by rfl) dW_451 ic_1) ?_
        refine Eq.trans (lj_goto (t := 456) (by rfl) dW_452 (by rfl)) ?_
        rfl
    · refine Eq.trans (lj_iload (by rfl) dW_416 (by rfl)) ?_
      refine Eq.trans (lj_bipush (by rfl) dW_418 bi_15) ?_
      refine Eq.trans (lj_iushr (by rfl) dW_420) ?_
      refine Eq.trans (lj_bipush (by rfl) dW_421 bi_7) ?_
      refine Eq.trans (lj_iand (by rfl) dW_423) ?_
      refine Eq.trans (lj_bipush (by rfl) dW_424 bi_6) ?_
      refine Eq.trans (lj_irem (by rfl) dW_426) ?_
      refine Eq.trans (lt_gd_t (by decide)) ?_
      refine Eq.trans (lj_istore (ls' := [q0, some (.inr (.inr (some 0))), some (.inl x2), some (.inl x3), o4, some (.inl x5), some (.inl x6), some (.inl x7), some (.inl x8), some (.inl x9), some (.inl x10), some (.inl xt0), some (.inl ((((x6).toUInt32 >>> (((9 : Int32)).toUInt32 &&& Int32.toUInt32 31)).toInt32) &&& (63 : Int32))), some (.inl v1), some (.inl (1 : Int32)), some (.inl (((((x6).toUInt32 >>> (((15 : Int32)).toUInt32 &&& Int32.toUInt32 31)).toInt32) &&& (7 : Int32)) - ((((x6).toUInt32 >>> (((15 : Int32)).toUInt32 &&& Int32.toUInt32 31)).toInt32) &&& (7 : Int32)) / (6 : Int32) * (6 : Int32))), o16, o17, o18, o19, o20, o21, o22, o23, o24, o25, o26, o27]) (by rfl) dW_427 (by decide) (by rfl)) ?_
      refine Eq.trans (lj_iconst (by rfl) dW_429 ic_2) ?_
      refine Eq.trans (lj_iload (by rfl) dW_430 (by rfl)) ?_
      refine Eq.trans (lj_bipush (by rfl) dW_432 bi_18) ?_
      refine Eq.trans (lj_iushr (by rfl) dW_434) ?_
      refine Eq.trans (lj_iconst (by rfl) dW_435 ic_3) ?_
      refine Eq.trans (lj_iand (by rfl) dW_436) ?_
      refine Eq.trans (lj_iadd (by rfl) dW_437) ?_
      refine Eq.trans (lj_istore (ls' := [q0, some (.inr (.inr (some 0))), some (.inl x2), some (.inl x3), o4, some (.inl x5), some (.inl x6), some (.inl x7), some (.inl x8), some (.inl x9), some (.inl x10), some (.inl xt0), some (.inl ((((x6).toUInt32 >>> (((9 : Int32)).toUInt32 &&& Int32.toUInt32 31)).toInt32) &&& (63 : Int32))), some (.inl v1), some (.inl (1 : Int32)), some (.inl (((((x6).toUInt32 >>> (((15 : Int32)).toUInt32 &&& Int32.toUInt32 31)).toInt32) &&& (7 : Int32)) - ((((x6).toUInt32 >>> (((15 : Int32)).toUInt32 &&& Int32.toUInt32 31)).toInt32) &&& (7 : Int32)) / (6 : Int32) * (6 : Int32))), some (.inl ((2 : Int32) + ((((x6).toUInt32 >>> (((18 : Int32)).toUInt32 &&& Int32.toUInt32 31)).toInt32) &&& (3 : Int32)))), o17, o18, o19, o20, o21, o22, o23, o24, o25, o26, o27]) (by rfl) dW_438 (by decide) (by rfl)) ?_
      refine Eq.trans (lj_iload (by rfl) dW_440 (by rfl)) ?_
      refine Eq.trans (lj_bipush (by rfl) dW_442 bi_20) ?_
      refine Eq.trans (lj_iushr (by rfl) dW_444) ?_
      refine Eq.trans (lj_iconst (by rfl) dW_445 ic_1) ?_
      refine Eq.trans (lj_iand (by rfl) dW_446) ?_
      refine Eq.trans (lj_iconst (by rfl) dW_447 ic_1) ?_
      refine Eq.trans (lj_icmp_ne (t := 455) (by rfl) dW_448 (by rfl)) ?_
      refine lt_ite (fun c2 => ?_) (fun c2 => ?_)
      · refine Eq.trans (lj_iconst (by rfl) dW_455 ic_5) ?_
        rfl
      · refine Eq.trans (lj_iconst (by rfl) dW_451 ic_1) ?_
        refine Eq.trans (lj_goto (t := 456) (by rfl) dW_452 (by rfl)) ?_
        rfl
    · refine Eq.trans (lj_iload (by rfl) dW_416 (by rfl)) ?_
      refine Eq.trans (lj_bipush (by rfl) dW_418 bi_15) ?_
      refine Eq.trans (lj_iushr (by rfl) dW_420) ?_
      refine Eq.trans (lj_bipush (by rfl) dW_421 bi_7) ?_
      refine Eq.trans (lj_iand (by rfl) dW_423) ?_
      refine Eq.trans (lj_bipush (by rfl) dW_424 bi_6) ?_
      refine Eq.trans (lj_irem (by rfl) dW_426) ?_
      refine Eq.trans (lt_gd_t (by decide)) ?_
      refine Eq.trans (lj_istore (ls' := [q0, some (.inr (.inr (some 0))), some (.inl x2), some (.inl x3), o4, some (.inl x5), some (.inl x6), some (.inl x7), some (.inl x8), some (.inl x9), some (.inl x10), some (.inl xt0), some (.inl ((((x6).toUInt32 >>> (((9 : Int32)).toUInt32 &&& Int32.toUInt32 31)).toInt32) &&& (63 : Int32))), some (.inl v1), some (.inl (1 : Int32)), some (.inl (((((x6).toUInt32 >>> (((15 : Int32)).toUInt32 &&& Int32.toUInt32 31)).toInt32) &&& (7 : Int32)) - ((((x6).toUInt32 >>> (((15 : Int32)).toUInt32 &&& Int32.toUInt32 31)).toInt32) &&& (7 : Int32)) / (6 : Int32) * (6 : Int32))), o16, o17, o18, o19, o20, o21, o22, o23, o24, o25, o26, o27]) (by rfl) dW_427 (by decide) (by rfl)) ?_
      refine Eq.trans (lj_iconst (by rfl) dW_429 ic_2) ?_
      refine Eq.trans (lj_iload (by rfl) dW_430 (by rfl)) ?_
      refine Eq.trans (lj_bipush (by rfl) dW_432 bi_18) ?_
      refine Eq.trans (lj_iushr (by rfl) dW_434) ?_
      refine Eq.trans (lj_iconst (by rfl) dW_435 ic_3) ?_
      refine Eq.trans (lj_iand (by rfl) dW_436) ?_
      refine Eq.trans (lj_iadd (by rfl) dW_437) ?_
      refine Eq.trans (lj_istore (ls' := [q0, some (.inr (.inr (some 0))), some (.inl x2), some (.inl x3), o4, some (.inl x5), some (.inl x6), some (.inl x7), some (.inl x8), some (.inl x9), some (.inl x10), some (.inl xt0), some (.inl ((((x6).toUInt32 >>> (((9 : Int32)).toUInt32 &&& Int32.toUInt32 31)).toInt32) &&& (63 : Int32))), some (.inl v1), some (.inl (1 : Int32)), some (.inl (((((x6).toUInt32 >>> (((15 : Int32)).toUInt32 &&& Int32.toUInt32 31)).toInt32) &&& (7 : Int32)) - ((((x6).toUInt32 >>> (((15 : Int32)).toUInt32 &&& Int32.toUInt32 31)).toInt32) &&& (7 : Int32)) / (6 : Int32) * (6 : Int32))), some (.inl ((2 : Int32) + ((((x6).toUInt32 >>> (((18 : Int32)).toUInt32 &&& Int32.toUInt32 31)).toInt32) &&& (3 : Int32)))), o17, o18, o19, o20, o21, o22, o23, o24, o25, o26, o27]) (by rfl) dW_438 (by decide) (by rfl)) ?_
      refine Eq.trans (lj_iload (by rfl) dW_440 (by rfl)) ?_
      refine Eq.trans (lj_bipush (by rfl) dW_442 bi_20) ?_
      refine Eq.trans (lj_iushr (by rfl) dW_444) ?_
      refine Eq.trans (lj_iconst (by rfl) dW_445 ic_1) ?_
      refine Eq.trans (lj_iand (by rfl) dW_446) ?_
      refine Eq.trans (lj_iconst (by rfl) dW_447 ic_1) ?_
      refine Eq.trans (lj_icmp_ne (t := 455) (by rfl) dW_448 (by rfl)) ?_
      refine lt_ite (fun c3 => ?_) (fun c3 => ?_)
      · refine Eq.trans (lj_iconst (by rfl) dW_455 ic_5) ?_
        rfl
      · refine Eq.trans (lj_iconst (by rfl) dW_451 ic_1) ?_
        refine Eq.trans (lj_goto (t := 456) (by rfl) dW_452 (by rfl)) ?_
        rfl
    · refine Eq.trans (lj_iload (by rfl) dW_416 (by rfl)) ?_
      refine Eq.trans (lj_bipush (by rfl) dW_418 bi_15) ?_
      refine Eq.trans (lj_iushr (by rfl) dW_420) ?_
      refine Eq.trans (lj_bipush (by rfl) dW_421 bi_7) ?_
      refine Eq.trans (lj_iand (by rfl) dW_423) ?_
      refine Eq.trans (lj_bipush (by rfl) dW_424 bi_6) ?_
      refine Eq.trans (lj_irem (by rfl) dW_426) ?_
      refine Eq.trans (lt_gd_t (by decide)) ?_
      refine Eq.trans (lj_istore (ls' := [q0, some (.inr (.inr (some 0))), some (.inl x2), some (.inl x3), o4, some (.inl x5), some (.inl x6), some (.inl x7), some (.inl x8), some (.inl x9), some (.inl x10), some (.inl xt0), some (.inl ((((x6).toUInt32 >>> (((9 : Int32)).toUInt32 &&& Int32.toUInt32 31)).toInt32) &&& (63 : Int32))), some (.inl v1), some (.inl (1 : Int32)), some (.inl (((((x6).toUInt32 >>> (((15 : Int32)).toUInt32 &&& Int32.toUInt32 31)).toInt32) &&& (7 : Int32)) - ((((x6).toUInt32 >>> (((15 : Int32)).toUInt32 &&& Int32.toUInt32 31)).toInt32) &&& (7 : Int32)) / (6 : Int32) * (6 : Int32))), o16, o17, o18, o19, o20, o21, o22, o23, o24, o25, o26, o27]) (by rfl) dW_427 (by decide) (by rfl)) ?_
      refine Eq.trans (lj_iconst (by rfl) dW_429 ic_2) ?_
      refine Eq.trans (lj_iload (by rfl) dW_430 (by rfl)) ?_
      refine Eq.trans (lj_bipush (by rfl) dW_432 bi_18) ?_
      refine Eq.trans (lj_iushr (by rfl) dW_434) ?_
      refine Eq.trans (lj_iconst (by rfl) dW_435 ic_3) ?_
      refine Eq.trans (lj_iand (by rfl) dW_436) ?_
      refine Eq.trans (lj_iadd (by rfl) dW_437) ?_
      refine Eq.trans (lj_istore (ls' := [q0, some (.inr (.inr (some 0))), some (.inl x2), some (.inl x3), o4, some (.inl x5), some (.inl x6), some (.inl x7), some (.inl x8), some (.inl x9), some (.inl x10), some (.inl xt0), some (.inl ((((x6).toUInt32 >>> (((9 : Int32)).toUInt32 &&& Int32.toUInt32 31)).toInt32) &&& (63 : Int32))), some (.inl v1), some (.inl (1 : Int32)), some (.inl (((((x6).toUInt32 >>> (((15 : Int32)).toUInt32 &&& Int32.toUInt32 31)).toInt32) &&& (7 : Int32)) - ((((x6).toUInt32 >>> (((15 : Int32)).toUInt32 &&& Int32.toUInt32 31)).toInt32) &&& (7 : Int32)) / (6 : Int32) * (6 : Int32))), some (.inl ((2 : Int32) + ((((x6).toUInt32 >>> (((18 : Int32)).toUInt32 &&& Int32.toUInt32 31)).toInt32) &&& (3 : Int32)))), o17, o18, o19, o20, o21, o22, o23, o24, o25, o26, o27]) (by rfl) dW_438 (by decide) (by rfl)) ?_
      refine Eq.trans (lj_iload (by rfl) dW_440 (by rfl)) ?_
      refine Eq.trans (lj_bipush (by rfl) dW_442 bi_20) ?_
      refine Eq.trans (lj_iushr (by rfl) dW_444) ?_
      refine Eq.trans (lj_iconst (by rfl) dW_445 ic_1) ?_
      refine Eq.trans (lj_iand (by rfl) dW_446) ?_
      refine Eq.trans (lj_iconst (by rfl) dW_447 ic_1) ?_
      refine Eq.trans (lj_icmp_ne (t := 455) (by rfl) dW_448 (by rfl)) ?_
      refine lt_ite (fun c4 => ?_) (fun c4 => ?_)
      · refine Eq.trans (lj_iconst (by rfl) dW_455 ic_5) ?_
        rfl
      · refine Eq.trans (lj_iconst (by rfl) dW_451 ic_1) ?_
        refine Eq.trans (lj_goto (t := 456) (by rfl) dW_452 (by rfl)) ?_
        rfl
    · refine Eq.trans (lj_aload_n (by rfl) dW_709 (by rfl)) ?_
      refine Eq.trans (lj_iload (by rfl) dW_710 (by rfl)) ?_
      refine Eq.trans (lj_ivI (by rfl) dW_712 ca_14_70 kd_132 kl_132 (by rfl) (by rfl) s0_11 (Nat.le_of_ble_eq_true rfl) (Nat.le_of_ble_eq_true rfl)) ?_
      refine lt_cI_c (fun v2 m2 => ?_)
      refine Eq.trans (lj_istore (ls' := [q0, some (.inr (.inr (some 0))), some (.inl x2), some (.inl x3), o4, some (.inl x5), some (.inl x6), some (.inl x7), some (.inl x8), some (.inl x9), some (.inl x10), some (.inl xt0), some (.inl ((((x6).toUInt32 >>> (((9 : Int32)).toUInt32 &&& Int32.toUInt32 31)).toInt32) &&& (63 : Int32))), some (.inl v1), some (.inl (1 : Int32)), some (.inl v2), o16, o17, o18, o19, o20, o21, o22, o23, o24, o25, o26, o27]) (by rfl) dW_715 (by decide) (by rfl)) ?_
      refine Eq.trans (lj_iload (by rfl) dW_717 (by rfl)) ?_
      refine Eq.trans (lj_if_ge (t := 726) (by rfl) dW_719 (by rfl)) ?_
      refine lt_ite (fun c5 => ?_) (fun c5 => ?_)
      · refine Eq.trans (lj_aload_n (by rfl) dW_726 (by rfl)) ?_
        refine Eq.trans (lj_iconst (by rfl) dW_727 ic_1) ?_
        refine Eq.trans (lj_ivL (by rfl) dW_728 ca_14_36 kd_175 kl_175 (by rfl) (by rfl) s0_11 (Nat.le_of_ble_eq_true rfl) (Nat.le_of_ble_eq_true rfl)) ?_
        refine lt_cL_c (fun v3 m3 => ?_)
        refine Eq.trans (lj_l2i (by rfl) dW_731) ?_
        rfl
      · refine Eq.trans (lj_iconst (by rfl) dW_722 ic_0) ?_
        refine Eq.trans (lj_goto (t := 732) (by rfl) dW_723 (by rfl)) ?_
        rfl
    · refine Eq.trans (lj_aload_n (by rfl) dW_709 (by rfl)) ?_
      refine Eq.trans (lj_iload (by rfl) dW_710 (by rfl)) ?_
      refine Eq.trans (lj_ivI (by rfl) dW_712 ca_14_70 kd_132 kl_132 (by rfl) (by rfl) s0_11 (Nat.le_of_ble_eq_true rfl) (Nat.le_of_ble_eq_true rfl)) ?_
      refine lt_cI_c (fun v4 m4 => ?_)
      refine Eq.trans (lj_istore (ls' := [q0, some (.inr (.inr (some 0))), some (.inl x2), some (.inl x3), o4, some (.inl x5), some (.inl x6), some (.inl x7), some (.inl x8), some (.inl x9), some (.inl x10), some (.inl xt0), some (.inl ((((x6).toUInt32 >>> (((9 : Int32)).toUInt32 &&& Int32.toUInt32 31)).toInt32) &&& (63 : Int32))), some (.inl v1), some (.inl (1 : Int32)), some (.inl v4), o16, o17, o18, o19, o20, o21, o22, o23, o24, o25, o26, o27]) (by rfl) dW_715 (by decide) (by rfl)) ?_
      refine Eq.trans (lj_iload (by rfl) dW_717 (by rfl)) ?_
      refine Eq.trans (lj_if_ge (t := 726) (by rfl) dW_719 (by rfl)) ?_
      refine lt_ite (fun c6 => ?_) (fun c6 => ?_)
      · refine Eq.trans (lj_aload_n (by rfl) dW_726 (by rfl)) ?_
        refine Eq.trans (lj_iconst (by rfl) dW_727 ic_1) ?_
        refine Eq.trans (lj_ivL (by rfl) dW_728 ca_14_36 kd_175 kl_175 (by rfl) (by rfl) s0_11 (Nat.le_of_ble_eq_true rfl) (Nat.le_of_ble_eq_true rfl)) ?_
        refine lt_cL_c (fun v5 m5 => ?_)
        refine Eq.trans (lj_l2i (by rfl) dW_731) ?_
        rfl
      · refine Eq.trans (lj_iconst (by rfl) dW_722 ic_0) ?_
        refine Eq.trans (lj_goto (t := 732) (by rfl) dW_723 (by rfl)) ?_
        rfl
    · refine Eq.trans (lj_aload_n (by rfl) dW_709 (by rfl)) ?_
      refine Eq.trans (lj_iload (by rfl) dW_710 (by rfl)) ?_
      refine Eq.trans (lj_ivI (by rfl) dW_712 ca_14_70 kd_132 kl_132 (by rfl) (by rfl) s0_11 (Nat.le_of_ble_eq_true rfl) (Nat.le_of_ble_eq_true rfl)) ?_
      refine lt_cI_c (fun v6 m6 => ?_)
      refine Eq.trans (lj_istore (ls' := [q0, some (.inr (.inr (some 0))), some (.inl x2), some (.inl x3), o4, some (.inl x5), some (.inl x6), some (.inl x7), some (.inl x8), some (.inl x9), some (.inl x10), some (.inl xt0), some (.inl ((((x6).toUInt32 >>> (((9 : Int32)).toUInt32 &&& Int32.toUInt32 31)).toInt32) &&& (63 : Int32))), some (.inl v1), some (.inl (1 : Int32)), some (.inl v6), o16, o17, o18, o19, o20, o21, o22, o23, o24, o25, o26, o27]) (by rfl) dW_715 (by decide) (by rfl)) ?_
      refine Eq.trans (lj_iload (by rfl) dW_717 (by rfl)) ?_
      refine Eq.trans (lj_if_ge (t := 726) (by rfl) dW_719 (by rfl)) ?_
      refine lt_ite (fun c7 => ?_) (fun c7 => ?_)
      · refine Eq.trans (lj_aload_n (by rfl) dW_726 (by rfl)) ?_
        refine Eq.trans (lj_iconst (by rfl) dW_727 ic_1) ?_
        refine Eq.trans (lj_ivL (by rfl) dW_728 ca_14_36 kd_175 kl_175 (by rfl) (by rfl) s0_11 (Nat.le_of_ble_eq_true rfl) (Nat.le_of_ble_eq_true rfl)) ?_
        refine lt_cL_c (fun v7 m7 => ?_)
        refine Eq.trans (lj_l2i (by rfl) dW_731) ?_
        rfl
      · refine Eq.trans (lj_iconst (by rfl) dW_722 ic_0) ?_
        refine Eq.trans (lj_goto (t := 732) (by rfl) dW_723 (by rfl)) ?_
        rfl
    · refine Eq.trans (lj_aload_n (by rfl) dW_709 (by rfl)) ?_
      refine Eq.trans (lj_iload (by rfl) dW_710 (by rfl)) ?_
      refine Eq.trans (lj_ivI (by rfl) dW_712 ca_14_70 kd_132 kl_132 (by rfl) (by rfl) s0_11 (Nat.le_of_ble_eq_true rfl) (Nat.le_of_ble_eq_true rfl)) ?_
      refine lt_cI_c (fun v8 m8 => ?_)
      refine Eq.trans (lj_istore (ls' := [q0, some (.inr (.inr (some 0))), some (.inl x2), some (.inl x3), o4, some (.inl x5), some (.inl x6), some (.inl x7), some (.inl x8), some (.inl x9), some (.inl x10), some (.inl xt0), some (.inl ((((x6).toUInt32 >>> (((9 : Int32)).toUInt32 &&& Int32.toUInt32 31)).toInt32) &&& (63 : Int32))), some (.inl v1), some (.inl (1 : Int32)), some (.inl v8), o16, o17, o18, o19, o20, o21, o22, o23, o24, o25, o26, o27]) (by rfl) dW_715 (by decide) (by rfl)) ?_
      refine Eq.trans (lj_iload (by rfl) dW_717 (by rfl)) ?_
      refine Eq.trans (lj_if_ge (t := 726) (by rfl) dW_719 (by rfl)) ?_
      refine lt_ite (fun c8 => ?_) (fun c8 => ?_)
      · refine Eq.trans (lj_aload_n (by rfl) dW_726 (by rfl)) ?_
        refine Eq.trans (lj_iconst (by rfl) dW_727 ic_1) ?_
        refine Eq.trans (lj_ivL (by rfl) dW_728 ca_14_36 kd_175 kl_175 (by rfl) (by rfl) s0_11 (Nat.le_of_ble_eq_true rfl) (Nat.le_of_ble_eq_true rfl)) ?_
        refine lt_cL_c (fun v9 m9 => ?_)
        refine Eq.trans (lj_l2i (by rfl) dW_731) ?_
        rfl
      · refine Eq.trans (lj_iconst (by rfl) dW_722 ic_0) ?_
        refine Eq.trans (lj_goto (t := 732) (by rfl) dW_723 (by rfl)) ?_
        rfl
    · refine Eq.trans (lj_aload_n (by rfl) dW_709 (by rfl)) ?_
      refine Eq.trans (lj_iload (by rfl) dW_710 (by rfl)) ?_
      refine Eq.trans (lj_ivI (by rfl) dW_712 ca_14_70 kd_132 kl_132 (by rfl) (by rfl) s0_11 (Nat.le_of_ble_eq_true rfl) (Nat.le_of_ble_eq_true rfl)) ?_
      refine lt_cI_c (fun v10 m10 => ?_)
      refine Eq.trans (lj_istore (ls' := [q0, some (.inr (.inr (some 0))), some (.inl x2), some (.inl x3), o4, some (.inl x5), some (.inl x6), some (.inl x7), some (.inl x8), some (.inl x9), some (.inl x10), some (.inl xt0), some (.inl ((((x6).toUInt32 >>> (((9 : Int32)).toUInt32 &&& Int32.toUInt32 31)).toInt32) &&& (63 : Int32))), some (.inl v1), some (.inl (1 : Int32)), some (.inl v10), o16, o17, o18, o19, o20, o21, o22, o23, o24, o25, o26, o27]) (by rfl) dW_715 (by decide) (by rfl)) ?_
      refine Eq.trans (lj_iload (by rfl) dW_717 (by rfl)) ?_
      refine Eq.trans (lj_if_ge (t := 726) (by rfl) dW_719 (by rfl)) ?_
      refine lt_ite (fun c9 => ?_) (fun c9 => ?_)
      · refine Eq.trans (lj_aload_n (by rfl) dW_726 (by rfl)) ?_
        refine Eq.trans (lj_iconst (by rfl) dW_727 ic_1) ?_
        refine Eq.trans (lj_ivL (by rfl) dW_728 ca_14_36 kd_175 kl_175 (by rfl) (by rfl) s0_11 (Nat.le_of_ble_eq_true rfl) (Nat.le_of_ble_eq_true rfl)) ?_
        refine lt_cL_c (fun v11 m11 => ?_)
        refine Eq.trans (lj_l2i (by rfl) dW_731) ?_
        rfl
      · refine Eq.trans (lj_iconst (by rfl) dW_722 ic_0) ?_
        refine Eq.trans (lj_goto (t := 732) (by rfl) dW_723 (by rfl)) ?_
        rfl
    · refine Eq.trans (lj_aload_n (by rfl) dW_840 (by rfl)) ?_
      refine Eq.trans (lj_bipush (by rfl) dW_841 bi_10) ?_
      refine Eq.trans (lj_ivI (by rfl) dW_843 ca_14_27 kd_173 kl_173 (by rfl) (by rfl) s0_11 (Nat.le_of_ble_eq_true rfl) (Nat.le_of_ble_eq_true rfl)) ?_
      refine lt_cI_c (fun v12 m12 => ?_)
      refine Eq.trans (lj_istore (ls' := [q0, some (.inr (.inr (some 0))), some (.inl x2), some (.inl x3), o4, some (.inl x5), some (.inl x6), some (.inl x7), some (.inl x8), some (.inl x9), some (.inl x10), some (.inl xt0), some (.inl ((((x6).toUInt32 >>> (((9 : Int32)).toUInt32 &&& Int32.toUInt32 31)).toInt32) &&& (63 : Int32))), some (.inl v1), some (.inl (1 : Int32)), some (.inl v12), o16, o17, o18, o19, o20, o21, o22, o23, o24, o25, o26, o27]) (by rfl) dW_846 (by decide) (by rfl)) ?_
      refine Eq.trans (lj_aload_n (by rfl) dW_848 (by rfl)) ?_
      refine Eq.trans (lj_iload (by rfl) dW_849 (by rfl)) ?_
      refine Eq.trans (lj_bipush (by rfl) dW_851 bi_9) ?_
      refine Eq.trans (lj_ivI (by rfl) dW_853 ca_14_64 kd_129 kl_129 (by rfl) (by rfl) s0_11 (Nat.le_of_ble_eq_true rfl) (Nat.le_of_ble_eq_true rfl)) ?_
      refine lt_cI_c (fun v13 m13 => ?_)
      refine Eq.trans (lj_istore (ls' := [q0, some (.inr (.inr (some 0))), some (.inl x2), some (.inl x3), o4, some (.inl x5), some (.inl x6), some (.inl x7), some (.inl x8), some (.inl x9), some (.inl x10), some (.inl xt0), some (.inl ((((x6).toUInt32 >>> (((9 : Int32)).toUInt32 &&& Int32.toUInt32 31)).toInt32) &&& (63 : Int32))), some (.inl v1), some (.inl (1 : Int32)), some (.inl v12), some (.inl v13), o17, o18, o19, o20, o21, o22, o23, o24, o25, o26, o27]) (by rfl) dW_856 (by decide) (by rfl)) ?_
      refine Eq.trans (lj_aload_n (by rfl) dW_858 (by rfl)) ?_
      refine Eq.trans (lj_iload (by rfl) dW_859 (by rfl)) ?_
      refine Eq.trans (lj_ivI (by rfl) dW_861 ca_14_140 kd_117 kl_117 (by rfl) (by rfl) s0_11 (Nat.le_of_ble_eq_true rfl) (Nat.le_of_ble_eq_true rfl)) ?_
      refine lt_cI_c (fun v14 m14 => ?_)
      refine Eq.trans (lj_istore (ls' := [q0, some (.inr (.inr (some 0))), some (.inl x2), some (.inl x3), o4, some (.inl x5), some (.inl x6), some (.inl x7), some (.inl x8), some (.inl x9), some (.inl x10), some (.inl xt0), some (.inl ((((x6).toUInt32 >>> (((9 : Int32)).toUInt32 &&& Int32.toUInt32 31)).toInt32) &&& (63 : Int32))), some (.inl v1), some (.inl (1 : Int32)), some (.inl v12), some (.inl v13), some (.inl v14), o18, o19, o20, o21, o22, o23, o24, o25, o26, o27]) (by rfl) dW_864 (by decide) (by rfl)) ?_
      refine Eq.trans (lj_iload (by rfl) dW_866 (by rfl)) ?_
      refine Eq.trans (lj_if_lt (t := 875) (by rfl) dW_868 (by rfl)) ?_
      refine lt_ite (fun c10 => ?_) (fun c10 => ?_)
      · refine Eq.trans (lj_iconst (by rfl) dW_875 ic_0) ?_
        rfl
      · refine Eq.trans (lj_iconst (by rfl) dW_871 ic_1) ?_
        refine Eq.trans (lj_goto (t := 876) (by rfl) dW_872 (by rfl)) ?_
        rfl
    · refine Eq.trans (lj_aload_n (by rfl) dW_925 (by rfl)) ?_
      refine Eq.trans (lj_iload (by rfl) dW_926 (by rfl)) ?_
      refine Eq.trans (lj_iconst (by rfl) dW_928 ic_2) ?_
      refine Eq.trans (lj_ivI (by rfl) dW_929 ca_14_64 kd_129 kl_129 (by rfl) (by rfl) s0_11 (Nat.le_of_ble_eq_true rfl) (Nat.le_of_ble_eq_true rfl)) ?_
      refine lt_cI_c (fun v15 m15 => ?_)
      refine Eq.trans (lj_istore (ls' := [q0, some (.inr (.inr (some 0))), some (.inl x2), some (.inl x3), o4, some (.inl x5), some (.inl x6), some (.inl x7), some (.inl x8), some (.inl x9), some (.inl x10), some (.inl xt0), some (.inl ((((x6).toUInt32 >>> (((9 : Int32)).toUInt32 &&& Int32.toUInt32 31)).toInt32) &&& (63 : Int32))), some (.inl v1), some (.inl (1 : Int32)), some (.inl v15), o16, o17, o18, o19, o20, o21, o22, o23, o24, o25, o26, o27]) (by rfl) dW_932 (by decide) (by rfl)) ?_
      refine Eq.trans (lj_aload_n (by rfl) dW_934 (by rfl)) ?_
      refine Eq.trans (lj_iload (by rfl) dW_935 (by rfl)) ?_
      refine Eq.trans (lj_iconst (by rfl) dW_937 ic_4) ?_
      refine Eq.trans (lj_ivI (by rfl) dW_938 ca_14_64 kd_129 kl_129 (by rfl) (by rfl) s0_11 (Nat.le_of_ble_eq_true rfl) (Nat.le_of_ble_eq_true rfl)) ?_
      refine lt_cI_c (fun v16 m16 => ?_)
      refine Eq.trans (lj_istore (ls' := [q0, some (.inr (.inr (some 0))), some (.inl x2), some (.inl x3), o4, some (.inl x5), some (.inl x6), some (.inl x7), some (.inl x8), some (.inl x9), some (.inl x10), some (.inl xt0), some (.inl ((((x6).toUInt32 >>> (((9 : Int32)).toUInt32 &&& Int32.toUInt32 31)).toInt32) &&& (63 : Int32))), some (.inl v1), some (.inl (1 : Int32)), some (.inl v15), some (.inl v16), o17, o18, o19, o20, o21, o22, o23, o24, o25, o26, o27]) (by rfl) dW_941 (by decide) (by rfl)) ?_
      refine Eq.trans (lj_aload_n (by rfl) dW_943 (by rfl)) ?_
      refine Eq.trans (lj_iload (by rfl) dW_944 (by rfl)) ?_
      refine Eq.trans (lj_iload (by rfl) dW_946 (by rfl)) ?_
      refine Eq.trans (lj_if_ne (t := 955) (by rfl) dW_948 (by rfl)) ?_
      refine lt_ite (fun c11 => ?_) (fun c11 => ?_)
      · refine Eq.trans (lj_iload (by rfl) dW_955 (by rfl)) ?_
        refine Eq.trans (lj_iconst (by rfl) dW_957 ic_1) ?_
        refine Eq.trans (lj_iand (by rfl) dW_958) ?_
        refine Eq.trans (lj_if_ne (t := 967) (by rfl) dW_959 (by rfl)) ?_
        refine lt_ite (fun c12 => ?_) (fun c12 => ?_)
        · refine Eq.trans (lj_iconst (by rfl) dW_967 ic_0) ?_
          rfl
        · refine Eq.trans (lj_iload (by rfl) dW_962 (by rfl)) ?_
          refine Eq.trans (lj_goto (t := 968) (by rfl) dW_964 (by rfl)) ?_
          rfl
      · refine Eq.trans (lj_iconst (by rfl) dW_951 ic_0) ?_
        refine Eq.trans (lj_goto (t := 968) (by rfl) dW_952 (by rfl)) ?_
        rfl
    · refine Eq.trans (lj_aload_n (by rfl) dW_925 (by rfl)) ?_
      refine Eq.trans (lj_iload (by rfl) dW_926 (by rfl)) ?_
      refine Eq.trans (lj_iconst (by rfl) dW_928 ic_2) ?_
      refine Eq.trans (lj_ivI (by rfl) dW_929 ca_14_64 kd_129 kl_129 (by rfl) (by rfl) s0_11 (Nat.le_of_ble_eq_true rfl) (Nat.le_of_ble_eq_true rfl)) ?_
      refine lt_cI_c (fun v17 m17 => ?_)
      refine Eq.trans (lj_istore (ls' := [q0, some (.inr (.inr (some 0))), some (.inl x2), some (.inl x3), o4, some (.inl x5), some (.inl x6), some (.inl x7), some (.inl x8), some (.inl x9), some (.inl x10), some (.inl xt0), some (.inl ((((x6).toUInt32 >>> (((9 : Int32)).toUInt32 &&& Int32.toUInt32 31)).toInt32) &&& (63 : Int32))), some (.inl v1), some (.inl (1 : Int32)), some (.inl v17), o16, o17, o18, o19, o20, o21, o22, o23, o24, o25, o26, o27]) (by rfl) dW_932 (by decide) (by rfl)) ?_
      refine Eq.trans (lj_aload_n (by rfl) dW_934 (by rfl)) ?_
      refine Eq.trans (lj_iload (by rfl) dW_935 (by rfl)) ?_
      refine Eq.trans (lj_iconst (by rfl) dW_937 ic_4) ?_
      refine Eq.trans (lj_ivI (by rfl) dW_938 ca_14_64 kd_129 kl_129 (by rfl) (by rfl) s0_11 (Nat.le_of_ble_eq_true rfl) (Nat.le_of_ble_eq_true rfl)) ?_
      refine lt_cI_c (fun v18 m18 => ?_)
      refine Eq.trans (lj_istore (ls' := [q0, some (.inr (.inr (some 0))), some (.inl x2), some (.inl x3), o4, some (.inl x5), some (.inl x6), some (.inl x7), some (.inl x8), some (.inl x9), some (.inl x10), some (.inl xt0), some (.inl ((((x6).toUInt32 >>> (((9 : Int32)).toUInt32 &&& Int32.toUInt32 31)).toInt32) &&& (63 : Int32))), some (.inl v1), some (.inl (1 : Int32)), some (.inl v17), some (.inl v18), o17, o18, o19, o20, o21, o22, o23, o24, o25, o26, o27]) (by rfl) dW_941 (by decide) (by rfl)) ?_
      refine Eq.trans (lj_aload_n (by rfl) dW_943 (by rfl)) ?_
      refine Eq.trans (lj_iload (by rfl) dW_944 (by rfl)) ?_
      refine Eq.trans (lj_iload (by rfl) dW_946 (by rfl)) ?_
      refine Eq.trans (lj_if_ne (t := 955) (by rfl) dW_948 (by rfl)) ?_
      refine lt_ite (fun c13 => ?_) (fun c13 => ?_)
      · refine Eq.trans (lj_iload (by rfl) dW_955 (by rfl)) ?_
        refine Eq.trans (lj_iconst (by rfl) dW_957 ic_1) ?_
        refine Eq.trans (lj_iand (by rfl) dW_958) ?_
        refine Eq.trans (lj_if_ne (t := 967) (by rfl) dW_959 (by rfl)) ?_
        refine lt_ite (fun c14 => ?_) (fun c14 => ?_)
        · refine Eq.trans (lj_iconst (by rfl) dW_967 ic_0) ?_
          rfl
        · refine Eq.trans (lj_iload (by rfl) dW_962 (by rfl)) ?_
          refine Eq.trans (lj_goto (t := 968) (by rfl) dW_964 (by rfl)) ?_
          rfl
      · refine Eq.trans (lj_iconst (by rfl) dW_951 ic_0) ?_
        refine Eq.trans (lj_goto (t := 968) (by rfl) dW_952 (by rfl)) ?_
        rfl
    · refine Eq.trans (lj_iload (by rfl) dW_1063 (by rfl)) ?_
      refine Eq.trans (lj_iconst (by rfl) dW_1065 ic_1) ?_
      refine Eq.trans (lj_iand (by rfl) dW_1066) ?_
      refine Eq.trans (lj_if_ne (t := 1079) (by rfl) dW_1067 (by rfl)) ?_
      refine lt_ite (fun c15 => ?_) (fun c15 => ?_)
      · refine Eq.trans (lj_aload_n (by rfl) dW_1079 (by rfl)) ?_
        refine Eq.trans (lj_iload (by rfl) dW_1080 (by rfl)) ?_
        refine Eq.trans (lj_ivI (by rfl) dW_1082 ca_14_149 kd_123 kl_123 (by rfl) (by rfl) s0_11 (Nat.le_of_ble_eq_true rfl) (Nat.le_of_ble_eq_true rfl)) ?_
        refine lt_cI_c (fun v19 m19 => ?_)
        rfl
      · refine Eq.trans (lj_aload_n (by rfl) dW_1070 (by rfl)) ?_
        refine Eq.trans (lj_iload (by rfl) dW_1071 (by rfl)) ?_
        refine Eq.trans (lj_ivI (by rfl) dW_1073 ca_14_146 kd_121 kl_121 (by rfl) (by rfl) s0_11 (Nat.le_of_ble_eq_true rfl) (Nat.le_of_ble_eq_true rfl)) ?_
        refine lt_cI_c (fun v20 m20 => ?_)
        refine Eq.trans (lj_goto (t := 1085) (by rfl) dW_1076 (by rfl)) ?_
        rfl
  · refine Eq.trans (lj_aload_n (by rfl) dW_1213 (by rfl)) ?_
    refine Eq.trans (lj_iconst (by rfl) dW_1214 ic_0) ?_
    refine Eq.trans (lj_ivI (by rfl) dW_1215 ca_14_33 kd_137 kl_137 (by rfl) (by rfl) s0_11 (Nat.le_of_ble_eq_true rfl) (Nat.le_of_ble_eq_true rfl)) ?_
    refine lt_cI_c (fun v21 m21 => ?_)
    refine Eq.trans (lj_istore (ls' := [q0, some (.inr (.inr (some 0))), some (.inl x2), some (.inl x3), o4, some (.inl x5), some (.inl x6), some (.inl x7), some (.inl x8), some (.inl x9), some (.inl x10), some (.inl xt0), some (.inl ((((x6).toUInt32 >>> (((9 : Int32)).toUInt32 &&& Int32.toUInt32 31)).toInt32) &&& (63 : Int32))), some (.inl v1), some (.inl (1 : Int32)), some (.inl v21), o16, o17, o18, o19, o20, o21, o22, o23, o24, o25, o26, o27]) (by rfl) dW_1218 (by decide) (by rfl)) ?_
    refine Eq.trans (lj_aload_n (by rfl) dW_1220 (by rfl)) ?_
    refine Eq.trans (lj_iconst (by rfl) dW_1221 ic_3) ?_
    refine Eq.trans (lj_ivI (by rfl) dW_1222 ca_14_33 kd_137 kl_137 (by rfl) (by rfl) s0_11 (Nat.le_of_ble_eq_true rfl) (Nat.le_of_ble_eq_true rfl)) ?_
    refine lt_cI_c (fun v22 m22 => ?_)
    refine Eq.trans (lj_istore (ls' := [q0, some (.inr (.inr (some 0))), some (.inl x2), some (.inl x3), o4, some (.inl x5), some (.inl x6), some (.inl x7), some (.inl x8), some (.inl x9), some (.inl x10), some (.inl xt0), some (.inl ((((x6).toUInt32 >>> (((9 : Int32)).toUInt32 &&& Int32.toUInt32 31)).toInt32) &&& (63 : Int32))), some (.inl v1), some (.inl (1 : Int32)), some (.inl v21), some (.inl v22), o17, o18, o19, o20, o21, o22, o23, o24, o25, o26, o27]) (by rfl) dW_1225 (by decide) (by rfl)) ?_
    refine Eq.trans (lj_aload_n (by rfl) dW_1227 (by rfl)) ?_
    refine Eq.trans (lj_iconst (by rfl) dW_1228 ic_1) ?_
    refine Eq.trans (lj_iload (by rfl) dW_1229 (by rfl)) ?_
    refine Eq.trans (lj_iadd (by rfl) dW_1231) ?_
    refine Eq.trans (lj_ivI (by rfl) dW_1232 ca_14_152 kd_124 kl_124 (by rfl) (by rfl) s0_11 (Nat.le_of_ble_eq_true rfl) (Nat.le_of_ble_eq_true rfl)) ?_
    refine lt_cI_c (fun v23 m23 => ?_)
    refine Eq.trans (lj_istore (ls' := [q0, some (.inr (.inr (some 0))), some (.inl x2), some (.inl x3), o4, some (.inl x5), some (.inl x6), some (.inl x7), some (.inl x8), some (.inl x9), some (.inl x10), some (.inl xt0), some (.inl ((((x6).toUInt32 >>> (((9 : Int32)).toUInt32 &&& Int32.toUInt32 31)).toInt32) &&& (63 : Int32))), some (.inl v1), some (.inl (1 : Int32)), some (.inl v21), some (.inl v22), some (.inl v23), o18, o19, o20, o21, o22, o23, o24, o25, o26, o27]) (by rfl) dW_1235 (by decide) (by rfl)) ?_
    refine Eq.trans (lj_aload_n (by rfl) dW_1237 (by rfl)) ?_
    refine Eq.trans (lj_iconst (by rfl) dW_1238 ic_0) ?_
    refine Eq.trans (lj_ivI (by rfl) dW_1239 ca_14_33 kd_137 kl_137 (by rfl) (by rfl) s0_11 (Nat.le_of_ble_eq_true rfl) (Nat.le_of_ble_eq_true rfl)) ?_
    refine lt_cI_c (fun v24 m24 => ?_)
    refine Eq.trans (lj_istore (ls' := [q0, some (.inr (.inr (some 0))), some (.inl x2), some (.inl x3), o4, some (.inl x5), some (.inl x6), some (.inl x7), some (.inl x8), some (.inl x9), some (.inl x10), some (.inl xt0), some (.inl ((((x6).toUInt32 >>> (((9 : Int32)).toUInt32 &&& Int32.toUInt32 31)).toInt32) &&& (63 : Int32))), some (.inl v1), some (.inl (1 : Int32)), some (.inl v21), some (.inl v22), some (.inl v23), some (.inl v24), o19, o20, o21, o22, o23, o24, o25, o26, o27]) (by rfl) dW_1242 (by decide) (by rfl)) ?_
    refine Eq.trans (lj_aload_n (by rfl) dW_1244 (by rfl)) ?_
    refine Eq.trans (lj_iconst (by rfl) dW_1245 ic_3) ?_
    refine Eq.trans (lj_ivI (by rfl) dW_1246 ca_14_33 kd_137 kl_137 (by rfl) (by rfl) s0_11 (Nat.le_of_ble_eq_true rfl) (Nat.le_of_ble_eq_true rfl)) ?_
    refine lt_cI_c (fun v25 m25 => ?_)
    refine Eq.trans (lj_istore (ls' := [q0, some (.inr (.inr (some 0))), some (.inl x2), some (.inl x3), o4, some (.inl x5), some (.inl x6), some (.inl x7), some (.inl x8), some (.inl x9), some (.inl x10), some (.inl xt0), some (.inl ((((x6).toUInt32 >>> (((9 : Int32)).toUInt32 &&& Int32.toUInt32 31)).toInt32) &&& (63 : Int32))), some (.inl v1), some (.inl (1 : Int32)), some (.inl v21), some (.inl v22), some (.inl v23), some (.inl v24), some (.inl v25), o20, o21, o22, o23, o24, o25, o26, o27]) (by rfl) dW_1249 (by decide) (by rfl)) ?_
    refine Eq.trans (lj_iload (by rfl) dW_1251 (by rfl)) ?_
    refine Eq.trans (lj_iload (by rfl) dW_1253 (by rfl)) ?_
    refine Eq.trans (lj_iload (by rfl) dW_1255 (by rfl)) ?_
    refine Eq.trans (lj_iconst (by rfl) dW_1257 ic_n1) ?_
    refine Eq.trans (lj_ixor (by rfl) dW_1258) ?_
    refine Eq.trans (lj_iand (by rfl) dW_1259) ?_
    refine Eq.trans (lj_iload (by rfl) dW_1260 (by rfl)) ?_
    refine Eq.trans (lj_iload (by rfl) dW_1262 (by rfl)) ?_
    refine Eq.trans (lj_iconst (by rfl) dW_1264 ic_n1) ?_
    refine Eq.trans (lj_ixor (by rfl) dW_1265) ?_
    refine Eq.trans (lj_iand (by rfl) dW_1266) ?_
    refine Eq.trans (lj_ior (by rfl) dW_1267) ?_
    refine Eq.trans (lj_isI (by rfl) dW_1268 bi_14_40 ca_14_40 kd_60 (by rfl) (by rfl) (Nat.le_of_ble_eq_true rfl) (Nat.le_of_ble_eq_true rfl)) ?_
    refine lt_cI_c (fun v26 m26 => ?_)
    refine Eq.trans (lj_icmp_ne (t := 1299) (by rfl) dW_1271 (by rfl)) ?_
    refine lt_ite (fun c16 => ?_) (fun c16 => ?_)
    · refine Eq.trans (lj_iconst (by rfl) dW_1299 ic_0) ?_
      exact lj_zret (by rfl) dW_1300 rfl (by decide)
    · refine Eq.trans (lj_iload (by rfl) dW_1274 (by rfl)) ?_
      refine Eq.trans (lj_iload (by rfl) dW_1276 (by rfl)) ?_
      refine Eq.trans (lj_iconst (by rfl) dW_1278 ic_n1) ?_
      refine Eq.trans (lj_ixor (by rfl) dW_1279) ?_
      refine Eq.trans (lj_iand (by rfl) dW_1280) ?_
      refine Eq.trans (lj_if_ne (t := 1299) (by rfl) dW_1281 (by rfl)) ?_
      refine lt_ite (fun c17 => ?_) (fun c17 => ?_)
      · refine Eq.trans (lj_iconst (by rfl) dW_1299 ic_0) ?_
        exact lj_zret (by rfl) dW_1300 rfl (by decide)
      · refine Eq.trans (lj_aload_n (by rfl) dW_1284 (by rfl)) ?_
        refine Eq.trans (lj_iconst (by rfl) dW_1285 ic_0) ?_
        refine Eq.trans (lj_ivI (by rfl) dW_1286 ca_14_27 kd_173 kl_173 (by rfl) (by rfl) s0_11 (Nat.le_of_ble_eq_true rfl) (Nat.le_of_ble_eq_true rfl)) ?_
        refine lt_cI_c (fun v27 m27 => ?_)
        refine Eq.trans (lj_iload (by rfl) dW_1289 (by rfl)) ?_
        refine Eq.trans (lj_iconst (by rfl) dW_1291 ic_1) ?_
        refine Eq.trans (lj_iadd (by rfl) dW_1292) ?_
        refine Eq.trans (lj_iload (by rfl) dW_1293 (by rfl)) ?_
        refine Eq.trans (lj_iadd (by rfl) dW_1295) ?_
        refine Eq.trans (lj_icmp_eq (t := 1301) (by rfl) dW_1296 (by rfl)) ?_
        refine lt_ite (fun c18 => ?_) (fun c18 => ?_)
        · exact lk_stop rfl
        · refine Eq.trans (lj_iconst (by rfl) dW_1299 ic_0) ?_
          exact lj_zret (by rfl) dW_1300 rfl (by decide)
theorem EG_456 (K : lk_K) (d : Nat) (q0 : Option ts_V) (x2 : Int32) (x3 : Int32) (o4 : Option ts_V) (x5 : Int32) (x6 : Int32) (x7 : Int32) (x8 : Int32) (x9 : Int32) (x10 : Int32) (x11 : Int32) (x12 : Int32) (x13 : Int32) (x15 : Int32) (x16 : Int32) (o17 : Option ts_V) (o18 : Option ts_V) (o19 : Option ts_V) (o20 : Option ts_V) (o21 : Option ts_V) (o22 : Option ts_V) (o23 : Option ts_V) (o24 : Option ts_V) (o25 : Option ts_V) (o26 : Option ts_V) (o27 : Option ts_V) (xt0 : Int32) (m : lt_m) : LG_456 K d q0 x2 x3 o4 x5 x6 x7 x8 x9 x10 x11 x12 x13 x15 x16 o17 o18 o19 o20 o21 o22 o23 o24 o25 o26 o27 xt0 m = lt_gd (¬ x3 = 0) (K 477 [q0, some (.inr (.inr (some 0))), some (.inl x2), some (.inl x3), o4, some (.inl x5), some (.inl x6), some (.inl x7), some (.inl x8), some (.inl x9), some (.inl x10), some (.inl x11), some (.inl x12), some (.inl x13), some (.inl (1 : Int32)), some (.inl x15), some (.inl x16), some (.inl xt0), some (.inl (((((x6).toUInt32 >>> (((21 : Int32)).toUInt32 &&& Int32.toUInt32 31)).toInt32) &&& (3 : Int32)) - ((((x6).toUInt32 >>> (((21 : Int32)).toUInt32 &&& Int32.toUInt32 31)).toInt32) &&& (3 : Int32)) / x3 * x3)), some (.inl ((1 : Int32) + ((3 : Int32) * x12))), o20, o21, o22, o23, o24, o25, o26, o27] [] m) := by
  show lt_rk SG K d YW 456 [q0, some (.inr (.inr (some 0))), some (.inl x2), some (.inl x3), o4, some (.inl x5), some (.inl x6), some (.inl x7), some (.inl x8), some (.inl x9), some (.inl x10), some (.inl x11), some (.inl x12), some (.inl x13), some (.inl (1 : Int32)), some (.inl x15), some (.inl x16), o17, o18, o19, o20, o21, o22, o23, o24, o25, o26, o27] [.inl xt0] m = _
  refine Eq.trans (lj_istore (ls' := [q0, some (.inr (.inr (some 0))), some (.inl x2), some (.inl x3), o4, some (.inl x5), some (.inl x6), some (.inl x7), some (.inl x8), some (.inl x9), some (.inl x10), some (.inl x11), some (.inl x12), some (.inl x13), some (.inl (1 : Int32)), some (.inl x15), some (.inl x16), some (.inl xt0), o18, o19, o20, o21, o22, o23, o24, o25, o26, o27]) (by rfl) dW_456 (by decide) (by rfl)) ?_
  refine Eq.trans (lj_iload (by rfl) dW_458 (by rfl)) ?_
  refine Eq.trans (lj_bipush (by rfl) dW_460 bi_21) ?_
  refine Eq.trans (lj_iushr (by rfl) dW_462) ?_
  refine Eq.trans (lj_iconst (by rfl) dW_463 ic_3) ?_
  refine Eq.trans (lj_iand (by rfl) dW_464) ?_
  refine Eq.trans (lj_iload_n (by rfl) dW_465 (by rfl)) ?_
  refine Eq.trans (lj_irem (by rfl) dW_466) ?_
  refine lt_gd_c (fun g1 => ?_)
  refine Eq.trans (lj_istore (ls' := [q0, some (.inr (.inr (some 0))), some (.inl x2), some (.inl x3), o4, some (.inl x5), some (.inl x6), some (.inl x7), some (.inl x8), some (.inl x9), some (.inl x10), some (.inl x11), some (.inl x12), some (.inl x13), some (.inl (1 : Int32)), some (.inl x15), some (.inl x16), some (.inl xt0), some (.inl (((((x6).toUInt32 >>> (((21 : Int32)).toUInt32 &&& Int32.toUInt32 31)).toInt32) &&& (3 : Int32)) - ((((x6).toUInt32 >>> (((21 : Int32)).toUInt32 &&& Int32.toUInt32 31)).toInt32) &&& (3 : Int32)) / x3 * x3)), o19, o20, o21, o22, o23, o24, o25, o26, o27]) (by rfl) dW_467 (by decide) (by rfl)) ?_
  refine Eq.trans (lj_iconst (by rfl) dW_469 ic_1) ?_
  refine Eq.trans (lj_iconst (by rfl) dW_470 ic_3) ?_
  refine Eq.trans (lj_iload (by rfl) dW_471 (by rfl)) ?_
  refine Eq.trans (lj_imul (by rfl) dW_473) ?_
  refine Eq.trans (lj_iadd (by rfl) dW_474) ?_
  refine Eq.trans (lj_istore (ls' := [q0, some (.inr (.inr (some 0))), some (.inl x2), some (.inl x3), o4, some (.inl x5), some (.inl x6), some (.inl x7), some (.inl x8), some (.inl x9), some (.inl x10), some (.inl x11), some (.inl x12), some (.inl x13), some (.inl (1 : Int32)), some (.inl x15), some (.inl x16), some (.inl xt0), some (.inl (((((x6).toUInt32 >>> (((21 : Int32)).toUInt32 &&& Int32.toUInt32 31)).toInt32) &&& (3 : Int32)) - ((((x6).toUInt32 >>> (((21 : Int32)).toUInt32 &&& Int32.toUInt32 31)).toInt32) &&& (3 : Int32)) / x3 * x3)), some (.inl ((1 : Int32) + ((3 : Int32) * x12))), o20, o21, o22, o23, o24, o25, o26, o27]) (by rfl) dW_475 (by decide) (by rfl)) ?_
  exact lk_stop rfl
theorem EG_732 (K : lk_K) (d : Nat) (q0 : Option ts_V) (x2 : Int32) (x3 : Int32) (o4 : Option ts_V) (x5 : Int32) (x6 : Int32) (x7 : Int32) (x8 : Int32) (x9 : Int32) (x10 : Int32) (x11 : Int32) (x12 : Int32) (x13 : Int32) (x15 : Int32) (o16 : Option ts_V) (o17 : Option ts_V) (o18 : Option ts_V) (o19 : Option ts_V) (o20 : Option ts_V) (o21 : Option ts_V) (o22 : Option ts_V) (o23 : Option ts_V) (o24 : Option ts_V) (o25 : Option ts_V) (o26 : Option ts_V) (o27 : Option ts_V) (xt0 : Int32) (m : lt_m) : LG_732 K d q0 x2 x3 o4 x5 x6 x7 x8 x9 x10 x11 x12 x13 x15 o16 o17 o18 o19 o20 o21 o22 o23 o24 o25 o26 o27 xt0 m = lt_cI (lt_ev d 113 [.inr (.inr (some 0)), .inl x11, .inl xt0] m) (fun v1 m1 => (if v1 < 0 then (LG_754 K d q0 x2 x3 (o4) x5 x6 x7 x8 x9 x10 x11 x12 x13 x15 xt0 v1 (o18) (o19) (o20) (o21) (o22) (o23) (o24) (o25) (o26) (o27) (0 : Int32) m1) else (LG_754 K d q0 x2 x3 (o4) x5 x6 x7 x8 x9 x10 x11 x12 x13 x15 xt0 v1 (o18) (o19) (o20) (o21) (o22) (o23) (o24) (o25) (o26) (o27) (1 : Int32) m1))) := by
  show lt_rk SG K d YW 732 [q0, some (.inr (.inr (some 0))), some (.inl x2), some (.inl x3), o4, some (.inl x5), some (.inl x6), some (.inl x7), some (.inl x8), some (.inl x9), some (.inl x10), some (.inl x11), some (.inl x12), some (.inl x13), some (.inl (1 : Int32)), some (.inl x15), o16, o17, o18, o19, o20, o21, o22, o23, o24, o25, o26, o27] [.inl xt0] m = _
  refine Eq.trans (lj_istore (ls' := [q0, some (.inr (.inr (some 0))), some (.inl x2), some (.inl x3), o4, some (.inl x5), some (.inl x6), some (.inl x7), some (.inl x8), some (.inl x9), some (.inl x10), some (.inl x11), some (.inl x12), some (.inl x13), some (.inl (1 : Int32)), some (.inl x15), some (.inl xt0), o17, o18, o19, o20, o21, o22, o23, o24, o25, o26, o27]) (by rfl) dW_732 (by decide) (by rfl)) ?_
  refine Eq.trans (lj_aload_n (by rfl) dW_734 (by rfl)) ?_
  refine Eq.trans (lj_iload (by rfl) dW_735 (by rfl)) ?_
  refine Eq.trans (lj_iload (by rfl) dW_737 (by rfl)) ?_
  refine Eq.trans (lj_ivI (by rfl) dW_739 ca_14_137 kd_113 kl_113 (by rfl) (by rfl) s0_11 (Nat.le_of_ble_eq_true rfl) (Nat.le_of_ble_eq_true rfl)) ?_
  refine lt_cI_c (fun v1 m1 => ?_)
  refine Eq.trans (lj_istore (ls' := [q0, some (.inr (.inr (some 0))), some (.inl x2), some (.inl x3), o4, some (.inl x5), some (.inl x6), some (.inl x7), some (.inl x8), some (.inl x9), some (.inl x10), some (.inl x11), some (.inl x12), some (.inl x13), some (.inl (1 : Int32)), some (.inl x15), some (.inl xt0), some (.inl v1), o18, o19, o20, o21, o22, o23, o24, o25, o26, o27]) (by rfl) dW_742 (by decide) (by rfl)) ?_
  refine Eq.trans (lj_iload (by rfl) dW_744 (by rfl)) ?_
  refine Eq.trans (lj_if_lt (t := 753) (by rfl) dW_746 (by rfl)) ?_
  refine lt_ite (fun c1 => ?_) (fun c1 => ?_)
  · refine Eq.trans (lj_iconst (by rfl) dW_753 ic_0) ?_
    rfl
  · refine Eq.trans (lj_iconst (by rfl) dW_749 ic_1) ?_
    refine Eq.trans (lj_goto (t := 754) (by rfl) dW_750 (by rfl)) ?_
    rfl
theorem EG_754 (K : lk_K) (d : Nat) (q0 : Option ts_V) (x2 : Int32) (x3 : Int32) (o4 : Option ts_V) (x5 : Int32) (x6 : Int32) (x7 : Int32) (x8 : Int32) (x9 : Int32) (x10 : Int32) (x11 : Int32) (x12 : Int32) (x13 : Int32) (x15 : Int32) (x16 : Int32) (x17 : Int32) (o18 : Option ts_V) (o19 : Option ts_V) (o20 : Option ts_V) (o21 : Option ts_V) (o22 : Option ts_V) (o23 : Option ts_V) (o24 : Option ts_V) (o25 : Option ts_V) (o26 : Option ts_V) (o27 : Option ts_V) (xt0 : Int32) (m : lt_m) : LG_754 K d q0 x2 x3 o4 x5 x6 x7 x8 x9 x10 x11 x12 x13 x15 x16 x17 o18 o19 o20 o21 o22 o23 o24 o25 o26 o27 xt0 m = if 0 ≤ x17 then (lt_cI (lt_ev d 129 [.inr (.inr (some 0)), .inl x11, .inl (8 : Int32)] m) (fun v1 m1 => (if ¬ v1 = x16 then (some (some (.inl (0 : Int32)), m1)) else (lt_cI (lt_ev d 132 [.inr (.inr (some 0)), .inl x11] m1) (fun v2 m2 => (if x15 < v2 then (some (some (.inl (0 : Int32)), m2)) else (if ¬ x17 = 0 then (LG_819 K d q0 x2 x3 (o4) x5 x6 x7 x8 x9 x10 x11 x12 x13 xt0 x15 x16 x17 (o18) (o19) (o20) (o21) (o22) (o23) (o24) (o25) (o26) (o27) (0 : Int32) m2) else (LG_819 K d q0 x2 x3 (o4) x5 x6 x7 x8 x9 x10 x11 x12 x13 xt0 x15 x16 x17 (o18) (o19) (o20) (o21) (o22) (o23) (o24) (o25) (o26) (o27) (1 : Int32) m2)))))))) else (if x7 = 0 then (LG_779 K d q0 x2 x3 (o4) x5 x6 x7 x8 x9 x10 x11 x12 x13 xt0 x15 x16 x17 (o18) (o19) (o20) (o21) (o22) (o23) (o24) (o25) (o26) (o27) (-1 : Int32) x17 m) else (if 0 ≤ x16 then (LG_779 K d q0 x2 x3 (o4) x5 x6 x7 x8 x9 x10 x11 x12 x13 xt0 x15 x16 x17 (o18) (o19) (o20) (o21) (o22) (o23) (o24) (o25) (o26) (o27) (-2 : Int32) x17 m) else (LG_779 K d q0 x2 x3 (o4) x5 x6 x7 x8 x9 x10 x11 x12 x13 xt0 x15 x16 x17 (o18) (o19) (o20) (o21) (o22) (o23) (o24) (o25) (o26) (o27) (-1 : Int32) x17 m))) := by
  show lt_rk SG K d YW 754 [q0, some (.inr (.inr (some 0))), some (.inl x2), some (.inl x3), o4, some (.inl x5), some (.inl x6), some (.inl x7), some (.inl x8), some (.inl x9), some (.inl x10), some (.inl x11), some (.inl x12), some (.inl x13), some (.inl (1 : Int32)), some (.inl x15), some (.inl x16), some (.inl x17), o18, o19, o20, o21, o22, o23, o24, o25, o26, o27] [.inl xt0] m = _
  refine Eq.trans (lj_istore (ls' := [q0, some (.inr (.inr (some 0))), some (.inl x2), some (.inl x3), o4, some (.inl x5), some (.inl x6), some (.inl x7), some (.inl x8), some (.inl x9), some (.inl x10), some (.inl x11), some (.inl x12), some (.inl x13), some (.inl xt0), some (.inl x15), some (.inl x16), some (.inl x17), o18, o19, o20, o21, o22, o23, o24, o25, o26, o27]) (by rfl) dW_754 (by decide) (by rfl)) ?_
  refine Eq.trans (lj_iload (by rfl) dW_756 (by rfl)) ?_
  refine Eq.trans (lj_if_ge (t := 785) (by rfl) dW_758 (by rfl)) ?_
  refine lt_ite (fun c1 => ?_) (fun c1 => ?_)
  · refine Eq.trans (lj_aload_n (by rfl) dW_785 (by rfl)) ?_
    refine Eq.trans (lj_iload (by rfl) dW_786 (by rfl)) ?_
    refine Eq.trans (lj_bipush (by rfl) dW_788 bi_8) ?_
    refine Eq.trans (lj_ivI (by rfl) dW_790 ca_14_64 kd_129 kl_129 (by rfl) (by rfl) s0_11 (Nat.le_of_ble_eq_true rfl) (Nat.le_of_ble_eq_true rfl)) ?_
    refine lt_cI_c (fun v1 m1 => ?_)
    refine Eq.trans (lj_iload (by rfl) dW_793 (by rfl)) ?_
    refine Eq.trans (lj_icmp_ne (t := 838) (by rfl) dW_795 (by rfl)) ?_
    refine lt_ite (fun c2 => ?_) (fun c2 => ?_)
    · refine Eq.trans (lj_iconst (by rfl) dW_838 ic_0) ?_
      exact lj_zret (by rfl) dW_839 rfl (by decide)
    · refine Eq.trans (lj_aload_n (by rfl) dW_798 (by rfl)) ?_
      refine Eq.trans (lj_iload (by rfl) dW_799 (by rfl)) ?_
      refine Eq.trans (lj_ivI (by rfl) dW_801 ca_14_70 kd_132 kl_132 (by rfl) (by rfl) s0_11 (Nat.le_of_ble_eq_true rfl) (Nat.le_of_ble_eq_true rfl)) ?_
      refine lt_cI_c (fun v2 m2 => ?_)
      refine Eq.trans (lj_iload (by rfl) dW_804 (by rfl)) ?_
      refine Eq.trans (lj_icmp_gt (t := 838) (by rfl) dW_806 (by rfl)) ?_
      refine lt_ite (fun c3 => ?_) (fun c3 => ?_)
      · refine Eq.trans (lj_iconst (by rfl) dW_838 ic_0) ?_
        exact lj_zret (by rfl) dW_839 rfl (by decide)
      · refine Eq.trans (lj_iload (by rfl) dW_809 (by rfl)) ?_
        refine Eq.trans (lj_if_ne (t := 818) (by rfl) dW_811 (by rfl)) ?_
        refine lt_ite (fun c4 => ?_) (fun c4 => ?_)
        · refine Eq.trans (lj_iconst (by rfl) dW_818 ic_0) ?_
          rfl
        · refine Eq.trans (lj_iconst (by rfl) dW_814 ic_1) ?_
          refine Eq.trans (lj_goto (t := 819) (by rfl) dW_815 (by rfl)) ?_
          rfl
  · refine Eq.trans (lj_iload (by rfl) dW_761 (by rfl)) ?_
    refine Eq.trans (lj_iload (by rfl) dW_763 (by rfl)) ?_
    refine Eq.trans (lj_if_eq (t := 773) (by rfl) dW_765 (by rfl)) ?_
    refine lt_ite (fun c5 => ?_) (fun c5 => ?_)
    · refine Eq.trans (lj_iconst (by rfl) dW_773 ic_n1) ?_
      refine Eq.trans (lj_goto (t := 779) (by rfl) dW_774 (by rfl)) ?_
      rfl
    · refine Eq.trans (lj_iload (by rfl) dW_768 (by rfl)) ?_
      refine Eq.trans (lj_if_ge (t := 777) (by rfl) dW_770 (by rfl)) ?_
      refine lt_ite (fun c6 => ?_) (fun c6 => ?_)
      · refine Eq.trans (lj_bipush (by rfl) dW_777 bi_n2) ?_
        rfl
      · refine Eq.trans (lj_iconst (by rfl) dW_773 ic_n1) ?_
        refine Eq.trans (lj_goto (t := 779) (by rfl) dW_774 (by rfl)) ?_
        rfl
theorem EG_779 (K : lk_K) (d : Nat) (q0 : Option ts_V) (x2 : Int32) (x3 : Int32) (o4 : Option ts_V) (x5 : Int32) (x6 : Int32) (x7 : Int32) (x8 : Int32) (x9 : Int32) (x10 : Int32) (x11 : Int32) (x12 : Int32) (x13 : Int32) (x14 : Int32) (x15 : Int32) (x16 : Int32) (x17 : Int32) (o18 : Option ts_V) (o19 : Option ts_V) (o20 : Option ts_V) (o21 : Option ts_V) (o22 : Option ts_V) (o23 : Option ts_V) (o24 : Option ts_V) (o25 : Option ts_V) (o26 : Option ts_V) (o27 : Option ts_V) (xt0 : Int32) (xt1 : Int32) (m : lt_m) : LG_779 K d q0 x2 x3 o4 x5 x6 x7 x8 x9 x10 x11 x12 x13 x14 x15 x16 x17 o18 o19 o20 o21 o22 o23 o24 o25 o26 o27 xt0 xt1 m = if xt1 = xt0 then (K 1301 [q0, some (.inr (.inr (some 0))), some (.inl x2), some (.inl x3), o4, some (.inl x5), some (.inl x6), some (.inl x7), some (.inl x8), some (.inl x9), some (.inl x10), some (.inl x11), some (.inl x12), some (.inl x13), some (.inl x14), some (.inl x15), some (.inl x16), some (.inl x17), o18, o19, o20, o21, o22, o23, o24, o25, o26, o27] [] m) else (some (some (.inl (0 : Int32)), m)) := by
  show lt_rk SG K d YW 779 [q0, some (.inr (.inr (some 0))), some (.inl x2), some (.inl x3), o4, some (.inl x5), some (.inl x6), some (.inl x7), some (.inl x8), some (.inl x9), some (.inl x10), some (.inl x11), some (.inl x12), some (.inl x13), some (.inl x14), some (.inl x15), some (.inl x16), some (.inl x17), o18, o19, o20, o21, o22, o23, o24, o25, o26, o27] [.inl xt0, .inl xt1] m = _
  refine Eq.trans (lj_icmp_eq (t := 1301) (by rfl) dW_779 (by rfl)) ?_
  refine lt_ite (fun c1 => ?_) (fun c1 => ?_)
  · exact lk_stop rfl
  · refine Eq.trans (lj_goto (t := 838) (by rfl) dW_782 (by rfl)) ?_
    refine Eq.trans (lj_iconst (by rfl) dW_838 ic_0) ?_
    exact lj_zret (by rfl) dW_839 rfl (by decide)
theorem EG_819 (K : lk_K) (d : Nat) (q0 : Option ts_V) (x2 : Int32) (x3 : Int32) (o4 : Option ts_V) (x5 : Int32) (x6 : Int32) (x7 : Int32) (x8 : Int32) (x9 : Int32) (x10 : Int32) (x11 : Int32) (x12 : Int32) (x13 : Int32) (x14 : Int32) (x15 : Int32) (x16 : Int32) (x17 : Int32) (o18 : Option ts_V) (o19 : Option ts_V) (o20 : Option ts_V) (o21 : Option ts_V) (o22 : Option ts_V) (o23 : Option ts_V) (o24 : Option ts_V) (o25 : Option ts_V) (o26 : Option ts_V) (o27 : Option ts_V) (xt0 : Int32) (m : lt_m) : LG_819 K d q0 x2 x3 o4 x5 x6 x7 x8 x9 x10 x11 x12 x13 x14 x15 x16 x17 o18 o19 o20 o21 o22 o23 o24 o25 o26 o27 xt0 m = lt_cI (lt_ev d 129 [.inr (.inr (some 0)), .inl x11, .inl (3 : Int32)] m) (fun v1 m1 => (if ¬ v1 = (1 : Int32) then (LG_835 K d q0 x2 x3 (o4) x5 x6 x7 x8 x9 x10 x11 x12 x13 x14 x15 x16 x17 (o18) (o19) (o20) (o21) (o22) (o23) (o24) (o25) (o26) (o27) (0 : Int32) xt0 m1) else (LG_835 K d q0 x2 x3 (o4) x5 x6 x7 x8 x9 x10 x11 x12 x13 x14 x15 x16 x17 (o18) (o19) (o20) (o21) (o22) (o23) (o24) (o25) (o26) (o27) (1 : Int32) xt0 m1))) := by
  show lt_rk SG K d YW 819 [q0, some (.inr (.inr (some 0))), some (.inl x2), some (.inl x3), o4, some (.inl x5), some (.inl x6), some (.inl x7), some (.inl x8), some (.inl x9), some (.inl x10), some (.inl x11), some (.inl x12), some (.inl x13), some (.inl x14), some (.inl x15), some (.inl x16), some (.inl x17), o18, o19, o20, o21, o22, o23, o24, o25, o26, o27] [.inl xt0] m = _
  refine Eq.trans (lj_aload_n (by rfl) dW_819 (by rfl)) ?_
  refine Eq.trans (lj_iload (by rfl) dW_820 (by rfl)) ?_
  refine Eq.trans (lj_iconst (by rfl) dW_822 ic_3) ?_
  refine Eq.trans (lj_ivI (by rfl) dW_823 ca_14_64 kd_129 kl_129 (by rfl) (by rfl) s0_11 (Nat.le_of_ble_eq_true rfl) (Nat.le_of_ble_eq_true rfl)) ?_
  refine lt_cI_c (fun v1 m1 => ?_)
  refine Eq.trans (lj_iconst (by rfl) dW_826 ic_1) ?_
  refine Eq.trans (lj_icmp_ne (t := 834) (by rfl) dW_827 (by rfl)) ?_
  refine lt_ite (fun c1 => ?_) (fun c1 => ?_)
  · refine Eq.trans (lj_iconst (by rfl) dW_834 ic_0) ?_
    rfl
  · refine Eq.trans (lj_iconst (by rfl) dW_830 ic_1) ?_
    refine Eq.trans (lj_goto (t := 835) (by rfl) dW_831 (by rfl)) ?_
    rfl
theorem EG_835 (K : lk_K) (d : Nat) (q0 : Option ts_V) (x2 : Int32) (x3 : Int32) (o4 : Option ts_V) (x5 : Int32) (x6 : Int32) (x7 : Int32) (x8 : Int32) (x9 : Int32) (x10 : Int32) (x11 : Int32) (x12 : Int32) (x13 : Int32) (x14 : Int32) (x15 : Int32) (x16 : Int32) (x17 : Int32) (o18 : Option ts_V) (o19 : Option ts_V) (o20 : Option ts_V) (o21 : Option ts_V) (o22 : Option ts_V) (o23 : Option ts_V) (o24 : Option ts_V) (o25 : Option ts_V) (o26 : Option ts_V) (o27 : Option ts_V) (xt0 : Int32) (xt1 : Int32) (m : lt_m) : LG_835 K d q0 x2 x3 o4 x5 x6 x7 x8 x9 x10 x11 x12 x13 x14 x15 x16 x17 o18 o19 o20 o21 o22 o23 o24 o25 o26 o27 xt0 xt1 m = if xt1 = xt0 then (K 1301 [q0, some (.inr (.inr (some 0))), some (.inl x2), some (.inl x3), o4, some (.inl x5), some (.inl x6), some (.inl x7), some (.inl x8), some (.inl x9), some (.inl x10), some (.inl x11), some (.inl x12), some (.inl x13), some (.inl x14), some (.inl x15), some (.inl x16), some (.inl x17), o18, o19, o20, o21, o22, o23, o24, o25, o26, o27] [] m) else (some (some (.inl (0 : Int32)), m)) := by
  show lt_rk SG K d YW 835 [q0, some (.inr (.inr (some 0))), some (.inl x2), some (.inl x3), o4, some (.inl x5), some (.inl x6), some (.inl x7), some (.inl x8), some (.inl x9), some (.inl x10), some (.inl x11), some (.inl x12), some (.inl x13), some (.inl x14), some (.inl x15), some (.inl x16), some (.inl x17), o18, o19, o20, o21, o22, o23, o24, o25, o26, o27] [.inl xt0, .inl xt1] m = _
  refine Eq.trans (lj_icmp_eq (t := 1301) (by rfl) dW_835 (by rfl)) ?_
  refine lt_ite (fun c1 => ?_) (fun c1 => ?_)
  · exact lk_stop rfl
  · refine Eq.trans (lj_iconst (by rfl) dW_838 ic_0) ?_
    exact lj_zret (by rfl) dW_839 rfl (by decide)
theorem EG_876 (K : lk_K) (d : Nat) (q0 : Option ts_V) (x2 : Int32) (x3 : Int32) (o4 : Option ts_V) (x5 : Int32) (x6 : Int32) (x7 : Int32) (x8 : Int32) (x9 : Int32) (x10 : Int32) (x11 : Int32) (x12 : Int32) (x13 : Int32) (x15 : Int32) (x16 : Int32) (x17 : Int32) (o18 : Option ts_V) (o19 : Option ts_V) (o20 : Option ts_V) (o21 : Option ts_V) (o22 : Option ts_V) (o23 : Option ts_V) (o24 : Option ts_V) (o25 : Option ts_V) (o26 : Option ts_V) (o27 : Option ts_V) (xt0 : Int32) (m : lt_m) : LG_876 K d q0 x2 x3 o4 x5 x6 x7 x8 x9 x10 x11 x12 x13 x15 x16 x17 o18 o19 o20 o21 o22 o23 o24 o25 o26 o27 xt0 m = if ¬ x7 = 0 then (if x13 = 0 then (LG_905 K d q0 x2 x3 (o4) x5 x6 x7 x8 x9 x10 x11 x12 x13 xt0 x15 x16 x17 (o18) (o19) (o20) (o21) (o22) (o23) (o24) (o25) (o26) (o27) x17 m) else (if x13 = (3 : Int32) then (LG_905 K d q0 x2 x3 (o4) x5 x6 x7 x8 x9 x10 x11 x12 x13 xt0 x15 x16 x17 (o18) (o19) (o20) (o21) (o22) (o23) (o24) (o25) (o26) (o27) x17 m) else (LG_920 K d q0 x2 x3 (o4) x5 x6 x7 x8 x9 x10 x11 x12 x13 xt0 x15 x16 x17 (o18) (o19) (o20) (o21) (o22) (o23) (o24) (o25) (o26) (o27) (-2 : Int32) x17 m))) else (LG_920 K d q0 x2 x3 (o4) x5 x6 x7 x8 x9 x10 x11 x12 x13 xt0 x15 x16 x17 (o18) (o19) (o20) (o21) (o22) (o23) (o24) (o25) (o26) (o27) (-1 : Int32) x17 m) := by
  show lt_rk SG K d YW 876 [q0, some (.inr (.inr (some 0))), some (.inl x2), some (.inl x3), o4, some (.inl x5), some (.inl x6), some (.inl x7), some (.inl x8), some (.inl x9), some (.inl x10), some (.inl x11), some (.inl x12), some (.inl x13), some (.inl (1 : Int32)), some (.inl x15), some (.inl x16), some (.inl x17), o18, o19, o20, o21, o22, o23, o24, o25, o26, o27] [.inl xt0] m = _
  refine Eq.trans (lj_istore (ls' := [q0, some (.inr (.inr (some 0))), some (.inl x2), some (.inl x3), o4, some (.inl x5), some (.inl x6), some (.inl x7), some (.inl x8), some (.inl x9), some (.inl x10), some (.inl x11), some (.inl x12), some (.inl x13), some (.inl xt0), some (.inl x15), some (.inl x16), some (.inl x17), o18, o19, o20, o21, o22, o23, o24, o25, o26, o27]) (by rfl) dW_876 (by decide) (by rfl)) ?_
  refine Eq.trans (lj_iload (by rfl) dW_878 (by rfl)) ?_
  refine Eq.trans (lj_iload (by rfl) dW_880 (by rfl)) ?_
  refine Eq.trans (lj_if_ne (t := 889) (by rfl) dW_882 (by rfl)) ?_
  refine lt_ite (fun c1 => ?_) (fun c1 => ?_)
  · refine Eq.trans (lj_iload (by rfl) dW_889 (by rfl)) ?_
    refine Eq.trans (lj_if_eq (t := 905) (by rfl) dW_891 (by rfl)) ?_
    refine lt_ite (fun c2 => ?_) (fun c2 => ?_)
    · rfl
    · refine Eq.trans (lj_iload (by rfl) dW_894 (by rfl)) ?_
      refine Eq.trans (lj_iconst (by rfl) dW_896 ic_3) ?_
      refine Eq.trans (lj_icmp_eq (t := 905) (by rfl) dW_897 (by rfl)) ?_
      refine lt_ite (fun c3 => ?_) (fun c3 => ?_)
      · rfl
      · refine Eq.trans (lj_bipush (by rfl) dW_900 bi_n2) ?_
        refine Eq.trans (lj_goto (t := 920) (by rfl) dW_902 (by rfl)) ?_
        rfl
  · refine Eq.trans (lj_iconst (by rfl) dW_885 ic_n1) ?_
    refine Eq.trans (lj_goto (t := 920) (by rfl) dW_886 (by rfl)) ?_
    rfl
theorem EG_905 (K : lk_K) (d : Nat) (q0 : Option ts_V) (x2 : Int32) (x3 : Int32) (o4 : Option ts_V) (x5 : Int32) (x6 : Int32) (x7 : Int32) (x8 : Int32) (x9 : Int32) (x10 : Int32) (x11 : Int32) (x12 : Int32) (x13 : Int32) (x14 : Int32) (x15 : Int32) (x16 : Int32) (x17 : Int32) (o18 : Option ts_V) (o19 : Option ts_V) (o20 : Option ts_V) (o21 : Option ts_V) (o22 : Option ts_V) (o23 : Option ts_V) (o24 : Option ts_V) (o25 : Option ts_V) (o26 : Option ts_V) (o27 : Option ts_V) (xt0 : Int32) (m : lt_m) : LG_905 K d q0 x2 x3 o4 x5 x6 x7 x8 x9 x10 x11 x12 x13 x14 x15 x16 x17 o18 o19 o20 o21 o22 o23 o24 o25 o26 o27 xt0 m = if ¬ x16 = (1 : Int32) then (LG_920 K d q0 x2 x3 (o4) x5 x6 x7 x8 x9 x10 x11 x12 x13 x14 x15 x16 x17 (o18) (o19) (o20) (o21) (o22) (o23) (o24) (o25) (o26) (o27) (x15 + (1 : Int32)) xt0 m) else (LG_920 K d q0 x2 x3 (o4) x5 x6 x7 x8 x9 x10 x11 x12 x13 x14 x15 x16 x17 (o18) (o19) (o20) (o21) (o22) (o23) (o24) (o25) (o26) (o27) (-3 : Int32) xt0 m) := by
  show lt_rk SG K d YW 905 [q0, some (.inr (.inr (some 0))), some (.inl x2), some (.inl x3), o4, some (.inl x5), some (.inl x6), some (.inl x7), some (.inl x8), some (.inl x9), some (.inl x10), some (.inl x11), some (.inl x12), some (.inl x13), some (.inl x14), some (.inl x15), some (.inl x16), some (.inl x17), o18, o19, o20, o21, o22, o23, o24, o25, o26, o27] [.inl xt0] m = _
  refine Eq.trans (lj_iload (by rfl) dW_905 (by rfl)) ?_
  refine Eq.trans (lj_iconst (by rfl) dW_907 ic_1) ?_
  refine Eq.trans (lj_icmp_ne (t := 916) (by rfl) dW_908 (by rfl)) ?_
  refine lt_ite (fun c1 => ?_) (fun c1 => ?_)
  · refine Eq.trans (lj_iload (by rfl) dW_916 (by rfl)) ?_
    refine Eq.trans (lj_iconst (by rfl) dW_918 ic_1) ?_
    refine Eq.trans (lj_iadd (by rfl) dW_919) ?_
    rfl
  · refine Eq.trans (lj_bipush (by rfl) dW_911 bi_n3) ?_
    refine Eq.trans (lj_goto (t := 920) (by rfl) dW_913 (by rfl)) ?_
    rfl
theorem EG_920 (K : lk_K) (d : Nat) (q0 : Option ts_V) (x2 : Int32) (x3 : Int32) (o4 : Option ts_V) (x5 : Int32) (x6 : Int32) (x7 : Int32) (x8 : Int32) (x9 : Int32) (x10 : Int32) (x11 : Int32) (x12 : Int32) (x13 : Int32) (x14 : Int32) (x15 : Int32) (x16 : Int32) (x17 : Int32) (o18 : Option ts_V) (o19 : Option ts_V) (o20 : Option ts_V) (o21 : Option ts_V) (o22 : Option ts_V) (o23 : Option ts_V) (o24 : Option ts_V) (o25 : Option ts_V) (o26 : Option ts_V) (o27 : Option ts_V) (xt0 : Int32) (xt1 : Int32) (m : lt_m) : LG_920 K d q0 x2 x3 o4 x5 x6 x7 x8 x9 x10 x11 x12 x13 x14 x15 x16 x17 o18 o19 o20 o21 o22 o23 o24 o25 o26 o27 xt0 xt1 m = if xt1 = xt0 then (K 1301 [q0, some (.inr (.inr (some 0))), some (.inl x2), some (.inl x3), o4, some (.inl x5), some (.inl x6), some (.inl x7), some (.inl x8), some (.inl x9), some (.inl x10), some (.inl x11), some (.inl x12), some (.inl x13), some (.inl x14), some (.inl x15), some (.inl x16), some (.inl x17), o18, o19, o20, o21, o22, o23, o24, o25, o26, o27] [] m) else (some (some (.inl (0 : Int32)), m)) := by
  show lt_rk SG K d YW 920 [q0, some (.inr (.inr (some 0))), some (.inl x2), some (.inl x3), o4, some (.inl x5), some (.inl x6), some (.inl x7), some (.inl x8), some (.inl x9), some (.inl x10), some (.inl x11), some (.inl x12), some (.inl x13), some (.inl x14), some (.inl x15), some (.inl x16), some (.inl x17), o18, o19, o20, o21, o22, o23, o24, o25, o26, o27] [.inl xt0, .inl xt1] m = _
  refine Eq.trans (lj_icmp_eq (t := 1301) (by rfl) dW_920 (by rfl)) ?_
  refine lt_ite (fun c1 => ?_) (fun c1 => ?_)
  · exact lk_stop rfl
  · refine Eq.trans (lj_iconst (by rfl) dW_923 ic_0) ?_
    exact lj_zret (by rfl) dW_924 rfl (by decide)
theorem EG_968 (K : lk_K) (d : Nat) (q0 : Option ts_V) (x2 : Int32) (x3 : Int32) (o4 : Option ts_V) (x5 : Int32) (x6 : Int32) (x7 : Int32) (x8 : Int32) (x9 : Int32) (x10 : Int32) (x11 : Int32) (x12 : Int32) (x13 : Int32) (x15 : Int32) (x16 : Int32) (o17 : Option ts_V) (o18 : Option ts_V) (o19 : Option ts_V) (o20 : Option ts_V) (o21 : Option ts_V) (o22 : Option ts_V) (o23 : Option ts_V) (o24 : Option ts_V) (o25 : Option ts_V) (o26 : Option ts_V) (o27 : Option ts_V) (xt0 : Int32) (xt1 : Int32) (m : lt_m) : LG_968 K d q0 x2 x3 o4 x5 x6 x7 x8 x9 x10 x11 x12 x13 x15 x16 o17 o18 o19 o20 o21 o22 o23 o24 o25 o26 o27 xt0 xt1 m = lt_cI (lt_ev d 119 [.inr (.inr (some 0)), .inl xt1, .inl xt0] m) (fun v1 m1 => (if v1 < 0 then (LG_983 K d q0 x2 x3 (o4) x5 x6 x7 x8 x9 x10 x11 x12 x13 x15 x16 v1 (o18) (o19) (o20) (o21) (o22) (o23) (o24) (o25) (o26) (o27) (0 : Int32) m1) else (LG_983 K d q0 x2 x3 (o4) x5 x6 x7 x8 x9 x10 x11 x12 x13 x15 x16 v1 (o18) (o19) (o20) (o21) (o22) (o23) (o24) (o25) (o26) (o27) (1 : Int32) m1))) := by
  show lt_rk SG K d YW 968 [q0, some (.inr (.inr (some 0))), some (.inl x2), some (.inl x3), o4, some (.inl x5), some (.inl x6), some (.inl x7), some (.inl x8), some (.inl x9), some (.inl x10), some (.inl x11), some (.inl x12), some (.inl x13), some (.inl (1 : Int32)), some (.inl x15), some (.inl x16), o17, o18, o19, o20, o21, o22, o23, o24, o25, o26, o27] [.inl xt0, .inl xt1, .inr (.inr (some 0))] m = _
  refine Eq.trans (lj_ivI (by rfl) dW_968 ca_14_143 kd_119 kl_119 (by rfl) (by rfl) s0_11 (Nat.le_of_ble_eq_true rfl) (Nat.le_of_ble_eq_true rfl)) ?_
  refine lt_cI_c (fun v1 m1 => ?_)
  refine Eq.trans (lj_istore (ls' := [q0, some (.inr (.inr (some 0))), some (.inl x2), some (.inl x3), o4, some (.inl x5), some (.inl x6), some (.inl x7), some (.inl x8), some (.inl x9), some (.inl x10), some (.inl x11), some (.inl x12), some (.inl x13), some (.inl (1 : Int32)), some (.inl x15), some (.inl x16), some (.inl v1), o18, o19, o20, o21, o22, o23, o24, o25, o26, o27]) (by rfl) dW_971 (by decide) (by rfl)) ?_
  refine Eq.trans (lj_iload (by rfl) dW_973 (by rfl)) ?_
  refine Eq.trans (lj_if_lt (t := 982) (by rfl) dW_975 (by rfl)) ?_
  refine lt_ite (fun c1 => ?_) (fun c1 => ?_)
  · refine Eq.trans (lj_iconst (by rfl) dW_982 ic_0) ?_
    rfl
  · refine Eq.trans (lj_iconst (by rfl) dW_978 ic_1) ?_
    refine Eq.trans (lj_goto (t := 983) (by rfl) dW_979 (by rfl)) ?_
    rfl
theorem EG_983 (K : lk_K) (d : Nat) (q0 : Option ts_V) (x2 : Int32) (x3 : Int32) (o4 : Option ts_V) (x5 : Int32) (x6 : Int32) (x7 : Int32) (x8 : Int32) (x9 : Int32) (x10 : Int32) (x11 : Int32) (x12 : Int32) (x13 : Int32) (x15 : Int32) (x16 : Int32) (x17 : Int32) (o18 : Option ts_V) (o19 : Option ts_V) (o20 : Option ts_V) (o21 : Option ts_V) (o22 : Option ts_V) (o23 : Option ts_V) (o24 : Option ts_V) (o25 : Option ts_V) (o26 : Option ts_V) (o27 : Option ts_V) (xt0 : Int32) (m : lt_m) : LG_983 K d q0 x2 x3 o4 x5 x6 x7 x8 x9 x10 x11 x12 x13 x15 x16 x17 o18 o19 o20 o21 o22 o23 o24 o25 o26 o27 xt0 m = if ¬ x7 = 0 then (if x13 = (1 : Int32) then (if ¬ (x12 &&& (1 : Int32)) = 0 then (lt_cI (lt_ev d 129 [.inr (.inr (some 0)), .inl x11, .inl (9 : Int32)] m) (fun v1 m1 => (LG_1031 K d q0 x2 x3 (o4) x5 x6 x7 x8 x9 x10 x11 x12 x13 xt0 x15 x16 x17 (o18) (o19) (o20) (o21) (o22) (o23) (o24) (o25) (o26) (o27) (x16 * ((1 : Int32) + v1)) x17 m1))) else (LG_1031 K d q0 x2 x3 (o4) x5 x6 x7 x8 x9 x10 x11 x12 x13 xt0 x15 x16 x17 (o18) (o19) (o20) (o21) (o22) (o23) (o24) (o25) (o26) (o27) (0 : Int32) x17 m)) else (LG_1031 K d q0 x2 x3 (o4) x5 x6 x7 x8 x9 x10 x11 x12 x13 xt0 x15 x16 x17 (o18) (o19) (o20) (o21) (o22) (o23) (o24) (o25) (o26) (o27) (-2 : Int32) x17 m)) else (LG_1031 K d q0 x2 x3 (o4) x5 x6 x7 x8 x9 x10 x11 x12 x13 xt0 x15 x16 x17 (o18) (o19) (o20) (o21) (o22) (o23) (o24) (o25) (o26) (o27) (-1 : Int32) x17 m) := by
  show lt_rk SG K d YW 983 [q0, some (.inr (.inr (some 0))), some (.inl x2), some (.inl x3), o4, some (.inl x5), some (.inl x6), some (.inl x7), some (.inl x8), some (.inl x9), some (.inl x10), some (.inl x11), some (.inl x12), some (.inl x13), some (.inl (1 : Int32)), some (.inl x15), some (.inl x16), some (.inl x17), o18, o19, o20, o21, o22, o23, o24, o25, o26, o27] [.inl xt0] m = _
  refine Eq.trans (lj_istore (ls' := [q0, some (.inr (.inr (some 0))), some (.inl x2), some (.inl x3), o4, some (.inl x5), some (.inl x6), some (.inl x7), some (.inl x8), some (.inl x9), some (.inl x10), some (.inl x11), some (.inl x12), some (.inl x13), some (.inl xt0), some (.inl x15), some (.inl x16), some (.inl x17), o18, o19, o20, o21, o22, o23, o24, o25, o26, o27]) (by rfl) dW_983 (by decide) (by rfl)) ?_
  refine Eq.trans (lj_iload (by rfl) dW_985 (by rfl)) ?_
  refine Eq.trans (lj_iload (by rfl) dW_987 (by rfl)) ?_
  refine Eq.trans (lj_if_ne (t := 996) (by rfl) dW_989 (by rfl)) ?_
  refine lt_ite (fun c1 => ?_) (fun c1 => ?_)
  · refine Eq.trans (lj_iload (by rfl) dW_996 (by rfl)) ?_
    refine Eq.trans (lj_iconst (by rfl) dW_998 ic_1) ?_
    refine Eq.trans (lj_icmp_eq (t := 1007) (by rfl) dW_999 (by rfl)) ?_
    refine lt_ite (fun c2 => ?_) (fun c2 => ?_)
    · refine Eq.trans (lj_iload (by rfl) dW_1007 (by rfl)) ?_
      refine Eq.trans (lj_iconst (by rfl) dW_1009 ic_1) ?_
      refine Eq.trans (lj_iand (by rfl) dW_1010) ?_
      refine Eq.trans (lj_if_ne (t := 1018) (by rfl) dW_1011 (by rfl)) ?_
      refine lt_ite (fun c3 => ?_) (fun c3 => ?_)
      · refine Eq.trans (lj_iload (by rfl) dW_1018 (by rfl)) ?_
        refine Eq.trans (lj_iconst (by rfl) dW_1020 ic_1) ?_
        refine Eq.trans (lj_aload_n (by rfl) dW_1021 (by rfl)) ?_
        refine Eq.trans (lj_iload (by rfl) dW_1022 (by rfl)) ?_
        refine Eq.trans (lj_bipush (by rfl) dW_1024 bi_9) ?_
        refine Eq.trans (lj_ivI (by rfl) dW_1026 ca_14_64 kd_129 kl_129 (by rfl) (by rfl) s0_11 (Nat.le_of_ble_eq_true rfl) (Nat.le_of_ble_eq_true rfl)) ?_
        refine lt_cI_c (fun v1 m1 => ?_)
        refine Eq.trans (lj_iadd (by rfl) dW_1029) ?_
        refine Eq.trans (lj_imul (by rfl) dW_1030) ?_
        rfl
      · refine Eq.trans (lj_iconst (by rfl) dW_1014 ic_0) ?_
        refine Eq.trans (lj_goto (t := 1031) (by rfl) dW_1015 (by rfl)) ?_
        rfl
    · refine Eq.trans (lj_bipush (by rfl) dW_1002 bi_n2) ?_
      refine Eq.trans (lj_goto (t := 1031) (by rfl) dW_1004 (by rfl)) ?_
      rfl
  · refine Eq.trans (lj_iconst (by rfl) dW_992 ic_n1) ?_
    refine Eq.trans (lj_goto (t := 1031) (by rfl) dW_993 (by rfl)) ?_
    rfl
theorem EG_1031 (K : lk_K) (d : Nat) (q0 : Option ts_V) (x2 : Int32) (x3 : Int32) (o4 : Option ts_V) (x5 : Int32) (x6 : Int32) (x7 : Int32) (x8 : Int32) (x9 : Int32) (x10 : Int32) (x11 : Int32) (x12 : Int32) (x13 : Int32) (x14 : Int32) (x15 : Int32) (x16 : Int32) (x17 : Int32) (o18 : Option ts_V) (o19 : Option ts_V) (o20 : Option ts_V) (o21 : Option ts_V) (o22 : Option ts_V) (o23 : Option ts_V) (o24 : Option ts_V) (o25 : Option ts_V) (o26 : Option ts_V) (o27 : Option ts_V) (xt0 : Int32) (xt1 : Int32) (m : lt_m) : LG_1031 K d q0 x2 x3 o4 x5 x6 x7 x8 x9 x10 x11 x12 x13 x14 x15 x16 x17 o18 o19 o20 o21 o22 o23 o24 o25 o26 o27 xt0 xt1 m = if xt1 = xt0 then (if x14 = 0 then (K 1301 [q0, some (.inr (.inr (some 0))), some (.inl x2), some (.inl x3), o4, some (.inl x5), some (.inl x6), some (.inl x7), some (.inl x8), some (.inl x9), some (.inl x10), some (.inl x11), some (.inl x12), some (.inl x13), some (.inl x14), some (.inl x15), some (.inl x16), some (.inl x17), o18, o19, o20, o21, o22, o23, o24, o25, o26, o27] [] m) else (lt_cI (lt_ev d 129 [.inr (.inr (some 0)), .inl x11, .inl (3 : Int32)] m) (fun v1 m1 => (if ¬ x17 = 0 then (LG_1058 K d q0 x2 x3 (o4) x5 x6 x7 x8 x9 x10 x11 x12 x13 x14 x15 x16 x17 (o18) (o19) (o20) (o21) (o22) (o23) (o24) (o25) (o26) (o27) (4 : Int32) v1 m1) else (LG_1058 K d q0 x2 x3 (o4) x5 x6 x7 x8 x9 x10 x11 x12 x13 x14 x15 x16 x17 (o18) (o19) (o20) (o21) (o22) (o23) (o24) (o25) (o26) (o27) (2 : Int32) v1 m1))))) else (some (some (.inl (0 : Int32)), m)) := by
  show lt_rk SG K d YW 1031 [q0, some (.inr (.inr (some 0))), some (.inl x2), some (.inl x3), o4, some (.inl x5), some (.inl x6), some (.inl x7), some (.inl x8), some (.inl x9), some (.inl x10), some (.inl x11), some (.inl x12), some (.inl x13), some (.inl x14), some (.inl x15), some (.inl x16), some (.inl x17), o18, o19, o20, o21, o22, o23, o24, o25, o26, o27] [.inl xt0, .inl xt1] m = _
  refine Eq.trans (lj_icmp_eq (t := 1036) (by rfl) dW_1031 (by rfl)) ?_
  refine lt_ite (fun c1 => ?_) (fun c1 => ?_)
  · refine Eq.trans (lj_iload (by rfl) dW_1036 (by rfl)) ?_
    refine Eq.trans (lj_if_eq (t := 1301) (by rfl) dW_1038 (by rfl)) ?_
    refine lt_ite (fun c2 => ?_) (fun c2 => ?_)
    · exact lk_stop rfl
    · refine Eq.trans (lj_aload_n (by rfl) dW_1041 (by rfl)) ?_
      refine Eq.trans (lj_iload (by rfl) dW_1042 (by rfl)) ?_
      refine Eq.trans (lj_iconst (by rfl) dW_1044 ic_3) ?_
      refine Eq.trans (lj_ivI (by rfl) dW_1045 ca_14_64 kd_129 kl_129 (by rfl) (by rfl) s0_11 (Nat.le_of_ble_eq_true rfl) (Nat.le_of_ble_eq_true rfl)) ?_
      refine lt_cI_c (fun v1 m1 => ?_)
      refine Eq.trans (lj_iload (by rfl) dW_1048 (by rfl)) ?_
      refine Eq.trans (lj_if_ne (t := 1057) (by rfl) dW_1050 (by rfl)) ?_
      refine lt_ite (fun c3 => ?_) (fun c3 => ?_)
      · refine Eq.trans (lj_iconst (by rfl) dW_1057 ic_4) ?_
        rfl
      · refine Eq.trans (lj_iconst (by rfl) dW_1053 ic_2) ?_
        refine Eq.trans (lj_goto (t := 1058) (by rfl) dW_1054 (by rfl)) ?_
        rfl
  · refine Eq.trans (lj_iconst (by rfl) dW_1034 ic_0) ?_
    exact lj_zret (by rfl) dW_1035 rfl (by decide)
theorem EG_1058 (K : lk_K) (d : Nat) (q0 : Option ts_V) (x2 : Int32) (x3 : Int32) (o4 : Option ts_V) (x5 : Int32) (x6 : Int32) (x7 : Int32) (x8 : Int32) (x9 : Int32) (x10 : Int32) (x11 : Int32) (x12 : Int32) (x13 : Int32) (x14 : Int32) (x15 : Int32) (x16 : Int32) (x17 : Int32) (o18 : Option ts_V) (o19 : Option ts_V) (o20 : Option ts_V) (o21 : Option ts_V) (o22 : Option ts_V) (o23 : Option ts_V) (o24 : Option ts_V) (o25 : Option ts_V) (o26 : Option ts_V) (o27 : Option ts_V) (xt0 : Int32) (xt1 : Int32) (m : lt_m) : LG_1058 K d q0 x2 x3 o4 x5 x6 x7 x8 x9 x10 x11 x12 x13 x14 x15 x16 x17 o18 o19 o20 o21 o22 o23 o24 o25 o26 o27 xt0 xt1 m = if xt1 = xt0 then (K 1301 [q0, some (.inr (.inr (some 0))), some (.inl x2), some (.inl x3), o4, some (.inl x5), some (.inl x6), some (.inl x7), some (.inl x8), some (.inl x9), some (.inl x10), some (.inl x11), some (.inl x12), some (.inl x13), some (.inl x14), some (.inl x15), some (.inl x16), some (.inl x17), o18, o19, o20, o21, o22, o23, o24, o25, o26, o27] [] m) else (some (some (.inl (0 : Int32)), m)) := by
  show lt_rk SG K d YW 1058 [q0, some (.inr (.inr (some 0))), some (.inl x2), some (.inl x3), o4, some (.inl x5), some (.inl x6), some (.inl x7), some (.inl x8), some (.inl x9), some (.inl x10), some (.inl x11), some (.inl x12), some (.inl x13), some (.inl x14), some (.inl x15), some (.inl x16), some (.inl x17), o18, o19, o20, o21, o22, o23, o24, o25, o26, o27] [.inl xt0, .inl xt1] m = _
  refine Eq.trans (lj_icmp_eq (t := 1301) (by rfl) dW_1058 (by rfl)) ?_
  refine lt_ite (fun c1 => ?_) (fun c1 => ?_)
  · exact lk_stop rfl
  · refine Eq.trans (lj_iconst (by rfl) dW_1061 ic_0) ?_
    exact lj_zret (by rfl) dW_1062 rfl (by decide)
theorem EG_1085 (K : lk_K) (d : Nat) (q0 : Option ts_V) (x2 : Int32) (x3 : Int32) (o4 : Option ts_V) (x5 : Int32) (x6 : Int32) (x7 : Int32) (x8 : Int32) (x9 : Int32) (x10 : Int32) (x11 : Int32) (x12 : Int32) (x13 : Int32) (o15 : Option ts_V) (o16 : Option ts_V) (o17 : Option ts_V) (o18 : Option ts_V) (o19 : Option ts_V) (o20 : Option ts_V) (o21 : Option ts_V) (o22 : Option ts_V) (o23 : Option ts_V) (o24 : Option ts_V) (o25 : Option ts_V) (o26 : Option ts_V) (o27 : Option ts_V) (xt0 : Int32) (m : lt_m) : LG_1085 K d q0 x2 x3 o4 x5 x6 x7 x8 x9 x10 x11 x12 x13 o15 o16 o17 o18 o19 o20 o21 o22 o23 o24 o25 o26 o27 xt0 m = if xt0 < 0 then (LG_1097 K d q0 x2 x3 (o4) x5 x6 x7 x8 x9 x10 x11 x12 x13 xt0 (o16) (o17) (o18) (o19) (o20) (o21) (o22) (o23) (o24) (o25) (o26) (o27) (0 : Int32) m) else (LG_1097 K d q0 x2 x3 (o4) x5 x6 x7 x8 x9 x10 x11 x12 x13 xt0 (o16) (o17) (o18) (o19) (o20) (o21) (o22) (o23) (o24) (o25) (o26) (o27) (1 : Int32) m) := by
  show lt_rk SG K d YW 1085 [q0, some (.inr (.inr (some 0))), some (.inl x2), some (.inl x3), o4, some (.inl x5), some (.inl x6), some (.inl x7), some (.inl x8), some (.inl x9), some (.inl x10), some (.inl x11), some (.inl x12), some (.inl x13), some (.inl (1 : Int32)), o15, o16, o17, o18, o19, o20, o21, o22, o23, o24, o25, o26, o27] [.inl xt0] m = _
  refine Eq.trans (lj_istore (ls' := [q0, some (.inr (.inr (some 0))), some (.inl x2), some (.inl x3), o4, some (.inl x5), some (.inl x6), some (.inl x7), some (.inl x8), some (.inl x9), some (.inl x10), some (.inl x11), some (.inl x12), some (.inl x13), some (.inl (1 : Int32)), some (.inl xt0), o16, o17, o18, o19, o20, o21, o22, o23, o24, o25, o26, o27]) (by rfl) dW_1085 (by decide) (by rfl)) ?_
  refine Eq.trans (lj_iload (by rfl) dW_1087 (by rfl)) ?_
  refine Eq.trans (lj_if_lt (t := 1096) (by rfl) dW_1089 (by rfl)) ?_
  refine lt_ite (fun c1 => ?_) (fun c1 => ?_)
  · refine Eq.trans (lj_iconst (by rfl) dW_1096 ic_0) ?_
    rfl
  · refine Eq.trans (lj_iconst (by rfl) dW_1092 ic_1) ?_
    refine Eq.trans (lj_goto (t := 1097) (by rfl) dW_1093 (by rfl)) ?_
    rfl
theorem EG_1097 (K : lk_K) (d : Nat) (q0 : Option ts_V) (x2 : Int32) (x3 : Int32) (o4 : Option ts_V) (x5 : Int32) (x6 : Int32) (x7 : Int32) (x8 : Int32) (x9 : Int32) (x10 : Int32) (x11 : Int32) (x12 : Int32) (x13 : Int32) (x15 : Int32) (o16 : Option ts_V) (o17 : Option ts_V) (o18 : Option ts_V) (o19 : Option ts_V) (o20 : Option ts_V) (o21 : Option ts_V) (o22 : Option ts_V) (o23 : Option ts_V) (o24 : Option ts_V) (o25 : Option ts_V) (o26 : Option ts_V) (o27 : Option ts_V) (xt0 : Int32) (m : lt_m) : LG_1097 K d q0 x2 x3 o4 x5 x6 x7 x8 x9 x10 x11 x12 x13 x15 o16 o17 o18 o19 o20 o21 o22 o23 o24 o25 o26 o27 xt0 m = if ¬ x7 = 0 then (if ¬ (x12 &&& (1 : Int32)) = 0 then (if x15 ≤ 0 then (LG_1168 K d q0 x2 x3 (o4) x5 x6 x7 x8 x9 x10 x11 x12 x13 xt0 x15 (o16) (o17) (o18) (o19) (o20) (o21) (o22) (o23) (o24) (o25) (o26) (o27) (0 : Int32) m) else (LG_1168 K d q0 x2 x3 (o4) x5 x6 x7 x8 x9 x10 x11 x12 x13 xt0 x15 (o16) (o17) (o18) (o19) (o20) (o21) (o22) (o23) (o24) (o25) (o26) (o27) (1 : Int32) m)) else (if x15 < 0 then (LG_1130 K d q0 x2 x3 (o4) x5 x6 x7 x8 x9 x10 x11 x12 x13 xt0 x15 (o16) (o17) (o18) (o19) (o20) (o21) (o22) (o23) (o24) (o25) (o26) (o27) (0 : Int32) m) else (LG_1130 K d q0 x2 x3 (o4) x5 x6 x7 x8 x9 x10 x11 x12 x13 xt0 x15 (o16) (o17) (o18) (o19) (o20) (o21) (o22) (o23) (o24) (o25) (o26) (o27) (1 : Int32) m))) else (if x15 = (-1 : Int32) then (LG_1184 K d q0 x2 x3 (o4) x5 x6 x7 x8 x9 x10 x11 x12 x13 xt0 x15 (o16) (o17) (o18) (o19) (o20) (o21) (o22) (o23) (o24) (o25) (o26) (o27) m) else (some (some (.inl (0 : Int32)), m))) := by
  show lt_rk SG K d YW 1097 [q0, some (.inr (.inr (some 0))), some (.inl x2), some (.inl x3), o4, some (.inl x5), some (.inl x6), some (.inl x7), some (.inl x8), some (.inl x9), some (.inl x10), some (.inl x11), some (.inl x12), some (.inl x13), some (.inl (1 : Int32)), some (.inl x15), o16, o17, o18, o19, o20, o21, o22, o23, o24, o25, o26, o27] [.inl xt0] m = _
  refine Eq.trans (lj_istore (ls' := [q0, some (.inr (.inr (some 0))), some (.inl x2), some (.inl x3), o4, some (.inl x5), some (.inl x6), some (.inl x7), some (.inl x8), some (.inl x9), some (.inl x10), some (.inl x11), some (.inl x12), some (.inl x13), some (.inl xt0), some (.inl x15), o16, o17, o18, o19, o20, o21, o22, o23, o24, o25, o26, o27]) (by rfl) dW_1097 (by decide) (by rfl)) ?_
  refine Eq.trans (lj_iload (by rfl) dW_1099 (by rfl)) ?_
  refine Eq.trans (lj_if_ne (t := 1113) (by rfl) dW_1101 (by rfl)) ?_
  refine lt_ite (fun c1 => ?_) (fun c1 => ?_)
  · refine Eq.trans (lj_iload (by rfl) dW_1113 (by rfl)) ?_
    refine Eq.trans (lj_iconst (by rfl) dW_1115 ic_1) ?_
    refine Eq.trans (lj_iand (by rfl) dW_1116) ?_
    refine Eq.trans (lj_if_ne (t := 1158) (by rfl) dW_1117 (by rfl)) ?_
    refine lt_ite (fun c2 => ?_) (fun c2 => ?_)
    · refine Eq.trans (lj_iload (by rfl) dW_1158 (by rfl)) ?_
      refine Eq.trans (lj_if_le (t := 1167) (by rfl) dW_1160 (by rfl)) ?_
      refine lt_ite (fun c3 => ?_) (fun c3 => ?_)
      · refine Eq.trans (lj_iconst (by rfl) dW_1167 ic_0) ?_
        rfl
      · refine Eq.trans (lj_iconst (by rfl) dW_1163 ic_1) ?_
        refine Eq.trans (lj_goto (t := 1168) (by rfl) dW_1164 (by rfl)) ?_
        rfl
    · refine Eq.trans (lj_iload (by rfl) dW_1120 (by rfl)) ?_
      refine Eq.trans (lj_if_lt (t := 1129) (by rfl) dW_1122 (by rfl)) ?_
      refine lt_ite (fun c4 => ?_) (fun c4 => ?_)
      · refine Eq.trans (lj_iconst (by rfl) dW_1129 ic_0) ?_
        rfl
      · refine Eq.trans (lj_iconst (by rfl) dW_1125 ic_1) ?_
        refine Eq.trans (lj_goto (t := 1130) (by rfl) dW_1126 (by rfl)) ?_
        rfl
  · refine Eq.trans (lj_iload (by rfl) dW_1104 (by rfl)) ?_
    refine Eq.trans (lj_iconst (by rfl) dW_1106 ic_n1) ?_
    refine Eq.trans (lj_icmp_eq (t := 1184) (by rfl) dW_1107 (by rfl)) ?_
    refine lt_ite (fun c5 => ?_) (fun c5 => ?_)
    · rfl
    · refine Eq.trans (lj_goto (t := 1182) (by rfl) dW_1110 (by rfl)) ?_
      refine Eq.trans (lj_iconst (by rfl) dW_1182 ic_0) ?_
      exact lj_zret (by rfl) dW_1183 rfl (by decide)
theorem EG_1130 (K : lk_K) (d : Nat) (q0 : Option ts_V) (x2 : Int32) (x3 : Int32) (o4 : Option ts_V) (x5 : Int32) (x6 : Int32) (x7 : Int32) (x8 : Int32) (x9 : Int32) (x10 : Int32) (x11 : Int32) (x12 : Int32) (x13 : Int32) (x14 : Int32) (x15 : Int32) (o16 : Option ts_V) (o17 : Option ts_V) (o18 : Option ts_V) (o19 : Option ts_V) (o20 : Option ts_V) (o21 : Option ts_V) (o22 : Option ts_V) (o23 : Option ts_V) (o24 : Option ts_V) (o25 : Option ts_V) (o26 : Option ts_V) (o27 : Option ts_V) (xt0 : Int32) (m : lt_m) : LG_1130 K d q0 x2 x3 o4 x5 x6 x7 x8 x9 x10 x11 x12 x13 x14 x15 o16 o17 o18 o19 o20 o21 o22 o23 o24 o25 o26 o27 xt0 m = if ¬ x13 = (3 : Int32) then (LG_1152 K d q0 x2 x3 (o4) x5 x6 x7 x8 x9 x10 x11 x12 x13 x14 x15 (o16) (o17) (o18) (o19) (o20) (o21) (o22) (o23) (o24) (o25) (o26) (o27) (0 : Int32) xt0 m) else (lt_cI (lt_ev d 129 [.inr (.inr (some 0)), .inl x11, .inl (9 : Int32)] m) (fun v1 m1 => (if ¬ v1 = 0 then (LG_1152 K d q0 x2 x3 (o4) x5 x6 x7 x8 x9 x10 x11 x12 x13 x14 x15 (o16) (o17) (o18) (o19) (o20) (o21) (o22) (o23) (o24) (o25) (o26) (o27) (0 : Int32) xt0 m1) else (LG_1152 K d q0 x2 x3 (o4) x5 x6 x7 x8 x9 x10 x11 x12 x13 x14 x15 (o16) (o17) (o18) (o19) (o20) (o21) (o22) (o23) (o24) (o25) (o26) (o27) (1 : Int32) xt0 m1)))) := by
  show lt_rk SG K d YW 1130 [q0, some (.inr (.inr (some 0))), some (.inl x2), some (.inl x3), o4, some (.inl x5), some (.inl x6), some (.inl x7), some (.inl x8), some (.inl x9), some (.inl x10), some (.inl x11), some (.inl x12), some (.inl x13), some (.inl x14), some (.inl x15), o16, o17, o18, o19, o20, o21, o22, o23, o24, o25, o26, o27] [.inl xt0] m = _
  refine Eq.trans (lj_iload (by rfl) dW_1130 (by rfl)) ?_
  refine Eq.trans (lj_iconst (by rfl) dW_1132 ic_3) ?_
  refine Eq.trans (lj_icmp_ne (t := 1151) (by rfl) dW_1133 (by rfl)) ?_
  refine lt_ite (fun c1 => ?_) (fun c1 => ?_)
  · refine Eq.trans (lj_iconst (by rfl) dW_1151 ic_0) ?_
    rfl
  · refine Eq.trans (lj_aload_n (by rfl) dW_1136 (by rfl)) ?_
    refine Eq.trans (lj_iload (by rfl) dW_1137 (by rfl)) ?_
    refine Eq.trans (lj_bipush (by rfl) dW_1139 bi_9) ?_
    refine Eq.trans (lj_ivI (by rfl) dW_1141 ca_14_64 kd_129 kl_129 (by rfl) (by rfl) s0_11 (Nat.le_of_ble_eq_true rfl) (Nat.le_of_ble_eq_true rfl)) ?_
    refine lt_cI_c (fun v1 m1 => ?_)
    refine Eq.trans (lj_if_ne (t := 1151) (by rfl) dW_1144 (by rfl)) ?_
    refine lt_ite (fun c2 => ?_) (fun c2 => ?_)
    · refine Eq.trans (lj_iconst (by rfl) dW_1151 ic_0) ?_
      rfl
    · refine Eq.trans (lj_iconst (by rfl) dW_1147 ic_1) ?_
      refine Eq.trans (lj_goto (t := 1152) (by rfl) dW_1148 (by rfl)) ?_
      rfl
theorem EG_1152 (K : lk_K) (d : Nat) (q0 : Option ts_V) (x2 : Int32) (x3 : Int32) (o4 : Option ts_V) (x5 : Int32) (x6 : Int32) (x7 : Int32) (x8 : Int32) (x9 : Int32) (x10 : Int32) (x11 : Int32) (x12 : Int32) (x13 : Int32) (x14 : Int32) (x15 : Int32) (o16 : Option ts_V) (o17 : Option ts_V) (o18 : Option ts_V) (o19 : Option ts_V) (o20 : Option ts_V) (o21 : Option ts_V) (o22 : Option ts_V) (o23 : Option ts_V) (o24 : Option ts_V) (o25 : Option ts_V) (o26 : Option ts_V) (o27 : Option ts_V) (xt0 : Int32) (xt1 : Int32) (m : lt_m) : LG_1152 K d q0 x2 x3 o4 x5 x6 x7 x8 x9 x10 x11 x12 x13 x14 x15 o16 o17 o18 o19 o20 o21 o22 o23 o24 o25 o26 o27 xt0 xt1 m = if xt1 = xt0 then (LG_1184 K d q0 x2 x3 (o4) x5 x6 x7 x8 x9 x10 x11 x12 x13 x14 x15 (o16) (o17) (o18) (o19) (o20) (o21) (o22) (o23) (o24) (o25) (o26) (o27) m) else (some (some (.inl (0 : Int32)), m)) := by
  show lt_rk SG K d YW 1152 [q0, some (.inr (.inr (some 0))), some (.inl x2), some (.inl x3), o4, some (.inl x5), some (.inl x6), some (.inl x7), some (.inl x8), some (.inl x9), some (.inl x10), some (.inl x11), some (.inl x12), some (.inl x13), some (.inl x14), some (.inl x15), o16, o17, o18, o19, o20, o21, o22, o23, o24, o25, o26, o27] [.inl xt0, .inl xt1] m = _
  refine Eq.trans (lj_icmp_eq (t := 1184) (by rfl) dW_1152 (by rfl)) ?_
  refine lt_ite (fun c1 => ?_) (fun c1 => ?_)
  · rfl
  · refine Eq.trans (lj_goto (t := 1182) (by rfl) dW_1155 (by rfl)) ?_
    refine Eq.trans (lj_iconst (by rfl) dW_1182 ic_0) ?_
    exact lj_zret (by rfl) dW_1183 rfl (by decide)
theorem EG_1168 (K : lk_K) (d : Nat) (q0 : Option ts_V) (x2 : Int32) (x3 : Int32) (o4 : Option ts_V) (x5 : Int32) (x6 : Int32) (x7 : Int32) (x8 : Int32) (x9 : Int32) (x10 : Int32) (x11 : Int32) (x12 : Int32) (x13 : Int32) (x14 : Int32) (x15 : Int32) (o16 : Option ts_V) (o17 : Option ts_V) (o18 : Option ts_V) (o19 : Option ts_V) (o20 : Option ts_V) (o21 : Option ts_V) (o22 : Option ts_V) (o23 : Option ts_V) (o24 : Option ts_V) (o25 : Option ts_V) (o26 : Option ts_V) (o27 : Option ts_V) (xt0 : Int32) (m : lt_m) : LG_1168 K d q0 x2 x3 o4 x5 x6 x7 x8 x9 x10 x11 x12 x13 x14 x15 o16 o17 o18 o19 o20 o21 o22 o23 o24 o25 o26 o27 xt0 m = if ¬ x13 = (4 : Int32) then (LG_1179 K d q0 x2 x3 (o4) x5 x6 x7 x8 x9 x10 x11 x12 x13 x14 x15 (o16) (o17) (o18) (o19) (o20) (o21) (o22) (o23) (o24) (o25) (o26) (o27) (0 : Int32) xt0 m) else (LG_1179 K d q0 x2 x3 (o4) x5 x6 x7 x8 x9 x10 x11 x12 x13 x14 x15 (o16) (o17) (o18) (o19) (o20) (o21) (o22) (o23) (o24) (o25) (o26) (o27) (1 : Int32) xt0 m) := by
  show lt_rk SG K d YW 1168 [q0, some (.inr (.inr (some 0))), some (.inl x2), some (.inl x3), o4, some (.inl x5), some (.inl x6), some (.inl x7), some (.inl x8), some (.inl x9), some (.inl x10), some (.inl x11), some (.inl x12), some (.inl x13), some (.inl x14), some (.inl x15), o16, o17, o18, o19, o20, o21, o22, o23, o24, o25, o26, o27] [.inl xt0] m = _
  refine Eq.trans (lj_iload (by rfl) dW_1168 (by rfl)) ?_
  refine Eq.trans (lj_iconst (by rfl) dW_1170 ic_4) ?_
  refine Eq.trans (lj_icmp_ne (t := 1178) (by rfl) dW_1171 (by rfl)) ?_
  refine lt_ite (fun c1 => ?_) (fun c1 => ?_)
  · refine Eq.trans (lj_iconst (by rfl) dW_1178 ic_0) ?_
    rfl
  · refine Eq.trans (lj_iconst (by rfl) dW_1174 ic_1) ?_
    refine Eq.trans (lj_goto (t := 1179) (by rfl) dW_1175 (by rfl)) ?_
    rfl
theorem EG_1179 (K : lk_K) (d : Nat) (q0 : Option ts_V) (x2 : Int32) (x3 : Int32) (o4 : Option ts_V) (x5 : Int32) (x6 : Int32) (x7 : Int32) (x8 : Int32) (x9 : Int32) (x10 : Int32) (x11 : Int32) (x12 : Int32) (x13 : Int32) (x14 : Int32) (x15 : Int32) (o16 : Option ts_V) (o17 : Option ts_V) (o18 : Option ts_V) (o19 : Option ts_V) (o20 : Option ts_V) (o21 : Option ts_V) (o22 : Option ts_V) (o23 : Option ts_V) (o24 : Option ts_V) (o25 : Option ts_V) (o26 : Option ts_V) (o27 : Option ts_V) (xt0 : Int32) (xt1 : Int32) (m : lt_m) : LG_1179 K d q0 x2 x3 o4 x5 x6 x7 x8 x9 x10 x11 x12 x13 x14 x15 o16 o17 o18 o19 o20 o21 o22 o23 o24 o25 o26 o27 xt0 xt1 m = if xt1 = xt0 then (LG_1184 K d q0 x2 x3 (o4) x5 x6 x7 x8 x9 x10 x11 x12 x13 x14 x15 (o16) (o17) (o18) (o19) (o20) (o21) (o22) (o23) (o24) (o25) (o26) (o27) m) else (some (some (.inl (0 : Int32)), m)) := by
  show lt_rk SG K d YW 1179 [q0, some (.inr (.inr (some 0))), some (.inl x2), some (.inl x3), o4, some (.inl x5), some (.inl x6), some (.inl x7), some (.inl x8), some (.inl x9), some (.inl x10), some (.inl x11), some (.inl x12), some (.inl x13), some (.inl x14), some (.inl x15), o16, o17, o18, o19, o20, o21, o22, o23, o24, o25, o26, o27] [.inl xt0, .inl xt1] m = _
  refine Eq.trans (lj_icmp_eq (t := 1184) (by rfl) dW_1179 (by rfl)) ?_
  refine lt_ite (fun c1 => ?_) (fun c1 => ?_)
  · rfl
  · refine Eq.trans (lj_iconst (by rfl) dW_1182 ic_0) ?_
    exact lj_zret (by rfl) dW_1183 rfl (by decide)
theorem EG_1184 (K : lk_K) (d : Nat) (q0 : Option ts_V) (x2 : Int32) (x3 : Int32) (o4 : Option ts_V) (x5 : Int32) (x6 : Int32) (x7 : Int32) (x8 : Int32) (x9 : Int32) (x10 : Int32) (x11 : Int32) (x12 : Int32) (x13 : Int32) (x14 : Int32) (x15 : Int32) (o16 : Option ts_V) (o17 : Option ts_V) (o18 : Option ts_V) (o19 : Option ts_V) (o20 : Option ts_V) (o21 : Option ts_V) (o22 : Option ts_V) (o23 : Option ts_V) (o24 : Option ts_V) (o25 : Option ts_V) (o26 : Option ts_V) (o27 : Option ts_V) (m : lt_m) : LG_1184 K d q0 x2 x3 o4 x5 x6 x7 x8 x9 x10 x11 x12 x13 x14 x15 o16 o17 o18 o19 o20 o21 o22 o23 o24 o25 o26 o27 m = if x14 = 0 then (K 1301 [q0, some (.inr (.inr (some 0))), some (.inl x2), some (.inl x3), o4, some (.inl x5), some (.inl x6), some (.inl x7), some (.inl x8), some (.inl x9), some (.inl x10), some (.inl x11), some (.inl x12), some (.inl x13), some (.inl x14), some (.inl x15), o16, o17, o18, o19, o20, o21, o22, o23, o24, o25, o26, o27] [] m) else (lt_cI (lt_ev d 129 [.inr (.inr (some 0)), .inl x11, .inl (3 : Int32)] m) (fun v1 m1 => (if ¬ (x12 &&& (1 : Int32)) = 0 then (LG_1208 K d q0 x2 x3 (o4) x5 x6 x7 x8 x9 x10 x11 x12 x13 x14 x15 (o16) (o17) (o18) (o19) (o20) (o21) (o22) (o23) (o24) (o25) (o26) (o27) (5 : Int32) v1 m1) else (LG_1208 K d q0 x2 x3 (o4) x5 x6 x7 x8 x9 x10 x11 x12 x13 x14 x15 (o16) (o17) (o18) (o19) (o20) (o21) (o22) (o23) (o24) (o25) (o26) (o27) (2 : Int32) v1 m1)))) := by
  show lt_rk SG K d YW 1184 [q0, some (.inr (.inr (some 0))), some (.inl x2), some (.inl x3), o4, some (.inl x5), some (.inl x6), some (.inl x7), some (.inl x8), some (.inl x9), some (.inl x10), some (.inl x11), some (.inl x12), some (.inl x13), some (.inl x14), some (.inl x15), o16, o17, o18, o19, o20, o21, o22, o23, o24, o25, o26, o27] [] m = _
  refine Eq.trans (lj_iload (by rfl) dW_1184 (by rfl)) ?_
  refine Eq.trans (lj_if_eq (t := 1301) (by rfl) dW_1186 (by rfl)) ?_
  refine lt_ite (fun c1 => ?_) (fun c1 => ?_)
  · exact lk_stop rfl
  · refine Eq.trans (lj_aload_n (by rfl) dW_1189 (by rfl)) ?_
    refine Eq.trans (lj_iload (by rfl) dW_1190 (by rfl)) ?_
    refine Eq.trans (lj_iconst (by rfl) dW_1192 ic_3) ?_
    refine Eq.trans (lj_ivI (by rfl) dW_1193 ca_14_64 kd_129 kl_129 (by rfl) (by rfl) s0_11 (Nat.le_of_ble_eq_true rfl) (Nat.le_of_ble_eq_true rfl)) ?_
    refine lt_cI_c (fun v1 m1 => ?_)
    refine Eq.trans (lj_iload (by rfl) dW_1196 (by rfl)) ?_
    refine Eq.trans (lj_iconst (by rfl) dW_1198 ic_1) ?_
    refine Eq.trans (lj_iand (by rfl) dW_1199) ?_
    refine Eq.trans (lj_if_ne (t := 1207) (by rfl) dW_1200 (by rfl)) ?_
    refine lt_ite (fun c2 => ?_) (fun c2 => ?_)
    · refine Eq.trans (lj_iconst (by rfl) dW_1207 ic_5) ?_
      rfl
    · refine Eq.trans (lj_iconst (by rfl) dW_1203 ic_2) ?_
      refine Eq.trans (lj_goto (t := 1208) (by rfl) dW_1204 (by rfl)) ?_
      rfl
theorem EG_1208 (K : lk_K) (d : Nat) (q0 : Option ts_V) (x2 : Int32) (x3 : Int32) (o4 : Option ts_V) (x5 : Int32) (x6 : Int32) (x7 : Int32) (x8 : Int32) (x9 : Int32) (x10 : Int32) (x11 : Int32) (x12 : Int32) (x13 : Int32) (x14 : Int32) (x15 : Int32) (o16 : Option ts_V) (o17 : Option ts_V) (o18 : Option ts_V) (o19 : Option ts_V) (o20 : Option ts_V) (o21 : Option ts_V) (o22 : Option ts_V) (o23 : Option ts_V) (o24 : Option ts_V) (o25 : Option ts_V) (o26 : Option ts_V) (o27 : Option ts_V) (xt0 : Int32) (xt1 : Int32) (m : lt_m) : LG_1208 K d q0 x2 x3 o4 x5 x6 x7 x8 x9 x10 x11 x12 x13 x14 x15 o16 o17 o18 o19 o20 o21 o22 o23 o24 o25 o26 o27 xt0 xt1 m = if xt1 = xt0 then (K 1301 [q0, some (.inr (.inr (some 0))), some (.inl x2), some (.inl x3), o4, some (.inl x5), some (.inl x6), some (.inl x7), some (.inl x8), some (.inl x9), some (.inl x10), some (.inl x11), some (.inl x12), some (.inl x13), some (.inl x14), some (.inl x15), o16, o17, o18, o19, o20, o21, o22, o23, o24, o25, o26, o27] [] m) else (some (some (.inl (0 : Int32)), m)) := by
  show lt_rk SG K d YW 1208 [q0, some (.inr (.inr (some 0))), some (.inl x2), some (.inl x3), o4, some (.inl x5), some (.inl x6), some (.inl x7), some (.inl x8), some (.inl x9), some (.inl x10), some (.inl x11), some (.inl x12), some (.inl x13), some (.inl x14), some (.inl x15), o16, o17, o18, o19, o20, o21, o22, o23, o24, o25, o26, o27] [.inl xt0, .inl xt1] m = _
  refine Eq.trans (lj_icmp_eq (t := 1301) (by rfl) dW_1208 (by rfl)) ?_
  refine lt_ite (fun c1 => ?_) (fun c1 => ?_)
  · exact lk_stop rfl
  · refine Eq.trans (lj_iconst (by rfl) dW_1211 ic_0) ?_
    exact lj_zret (by rfl) dW_1212 rfl (by decide)

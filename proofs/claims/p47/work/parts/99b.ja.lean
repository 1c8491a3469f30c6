/-! ===== contracts: toString ===== -/
/-- isLatin1 -/
theorem c_isLatin1T (l : Launch) (D : va_G) (cb : ClassId) (A : Nat → Prop) {b0 v0 n0 m0 h0 : Nat} {l0 : Int32} {a0 : Nat → Int32} {s0 : List Value} : jM l D cb A (fun _ _ => True) YJ5_isLatin1_aae02 0 0 0 [.ref b0] [(b0, .inr (0, [.ref v0, .int 0, .int l0, .int (nI (n0))])), (v0, .inl (cb, m0, .inl (a0))), (h0, .inr (1, s0))] (fun v w => v = some (.int 1) ∧ w = [(b0, .inr (0, [.ref v0, .int 0, .int l0, .int (nI (n0))])), (v0, .inl (cb, m0, .inl (a0))), (h0, .inr (1, s0))]) := by
  refine jM_of (by decide) (Nat.le_of_ble_eq_true rfl) ?_
  intro p e R s m args below meth c sl F hnm hret hlk hl hP hD hLf
  obtain ⟨hx, hb, hml, hown, hts, hK, hZ, hA, hRf, hRl, hRc, hRs⟩ := id F
  have hS : va_S A s.heap s.heap [] := va_S.rf
  have hl : lv_has sl 1 [(0, .ref b0)] := hl
  refine va_gets hx hb hZ.1 hS hown (hts _ jg_1108) (fun _ h => h) dJ5_isLatin1_aae02_0 ?_
  refine lv_if_eq (tgt := 17) hx hb dJ5_isLatin1_aae02_3 (by decide) (fun q9 => absurd q9 (by decide)) (fun _ => ?_)
  refine lv_aload_n hx hb dJ5_isLatin1_aae02_6 rfl (lv_at hl 0 rfl) ?_
  refine va_get (D := D) (ci := 0) (v := .int 0) (C := RJ4) (T := TJ4) (N := 4) hx hb (fun w hw => hts w (j_u4 w hw)) (fun _ h => h) hown hK hP 0 rfl rfl 1 (by decide) (hts _ jg_1117) (fun _ h9 => h9) rfl dJ5_isLatin1_aae02_7 ?_
  refine lv_if_ne (tgt := 17) hx hb dJ5_isLatin1_aae02_10 (by decide) (fun q9 => absurd q9 (fun z => z rfl)) (fun _ => ?_)
  refine lv_iconst (v := nI 1) hx hb dJ5_isLatin1_aae02_13 (by decide) ?_
  refine lv_goto (tgt := 18) hx hb dJ5_isLatin1_aae02_14 (by decide) ?_
  exact W.zret hx hb hret (rfl) (fun t9 ht9 hW9 => ⟨some (.int (nI 1)), [(b0, .inr (0, [.ref v0, .int 0, .int l0, .int (nI (n0))])), (v0, .inl (cb, m0, .inl (a0))), (h0, .inr (1, s0))], rfl, by rw [ht9]; exact hP, hD, ⟨rfl, rfl⟩, hS.F ht9⟩) hS.2.2 dJ5_isLatin1_aae02_18
/-- getValue -/
theorem c_getValueT (l : Launch) (D : va_G) (cb : ClassId) (A : Nat → Prop) {b0 v0 n0 m0 h0 : Nat} {l0 : Int32} {a0 : Nat → Int32} {s0 : List Value} : jM l D cb A (fun _ _ => True) YJ5_getValue_6d5f1 0 0 0 [.ref b0] [(b0, .inr (0, [.ref v0, .int 0, .int l0, .int (nI (n0))])), (v0, .inl (cb, m0, .inl (a0))), (h0, .inr (1, s0))] (fun v w => v = some (.ref v0) ∧ w = [(b0, .inr (0, [.ref v0, .int 0, .int l0, .int (nI (n0))])), (v0, .inl (cb, m0, .inl (a0))), (h0, .inr (1, s0))]) := by
  refine jM_of (by decide) (Nat.le_of_ble_eq_true rfl) ?_
  intro p e R s m args below meth c sl F hnm hret hlk hl hP hD hLf
  obtain ⟨hx, hb, hml, hown, hts, hK, hZ, hA, hRf, hRl, hRc, hRs⟩ := id F
  have hS : va_S A s.heap s.heap [] := va_S.rf
  have hl : lv_has sl 1 [(0, .ref b0)] := hl
  refine lv_aload_n hx hb dJ5_getValue_6d5f1_0 rfl (lv_at hl 0 rfl) ?_
  refine va_get (D := D) (ci := 0) (v := .ref v0) (C := RJ4) (T := TJ4) (N := 4) hx hb (fun w hw => hts w (j_u4 w hw)) (fun _ h => h) hown hK hP 0 rfl rfl 0 (by decide) (hts _ jg_1116) (fun _ h9 => h9) rfl dJ5_getValue_6d5f1_1 ?_
  exact W.aret hx hb hret (Or.inr ⟨_, rfl⟩) (Or.inr ⟨_, rfl⟩) (fun t9 ht9 hW9 => ⟨some (.ref v0), [(b0, .inr (0, [.ref v0, .int 0, .int l0, .int (nI (n0))])), (v0, .inl (cb, m0, .inl (a0))), (h0, .inr (1, s0))], rfl, by rw [ht9]; exact hP, hD, ⟨rfl, rfl⟩, hS.F ht9⟩) hS.2.2 dJ5_getValue_6d5f1_4
/-- length -/
theorem c_lengthAT (l : Launch) (D : va_G) (cb : ClassId) (A : Nat → Prop) {b0 v0 n0 m0 h0 : Nat} {l0 : Int32} {a0 : Nat → Int32} {s0 : List Value} : jM l D cb A (fun _ _ => True) YJ5_length_8abf5 0 0 0 [.ref b0] [(b0, .inr (0, [.ref v0, .int 0, .int l0, .int (nI (n0))])), (v0, .inl (cb, m0, .inl (a0))), (h0, .inr (1, s0))] (fun v w => v = some (.int (nI n0)) ∧ w = [(b0, .inr (0, [.ref v0, .int 0, .int l0, .int (nI (n0))])), (v0, .inl (cb, m0, .inl (a0))), (h0, .inr (1, s0))]) := by
  refine jM_of (by decide) (Nat.le_of_ble_eq_true rfl) ?_
  intro p e R s m args below meth c sl F hnm hret hlk hl hP hD hLf
  obtain ⟨hx, hb, hml, hown, hts, hK, hZ, hA, hRf, hRl, hRc, hRs⟩ := id F
  have hS : va_S A s.heap s.heap [] := va_S.rf
  have hl : lv_has sl 1 [(0, .ref b0)] := hl
  refine lv_aload_n hx hb dJ5_length_8abf5_0 rfl (lv_at hl 0 rfl) ?_
  refine va_get (D := D) (ci := 0) (v := .int (nI n0)) (C := RJ4) (T := TJ4) (N := 4) hx hb (fun w hw => hts w (j_u4 w hw)) (fun _ h => h) hown hK hP 0 rfl rfl 3 (by decide) (hts _ jg_1119) (fun _ h9 => h9) rfl dJ5_length_8abf5_1 ?_
  exact W.iret hx hb hret (fun t9 ht9 hW9 => ⟨some (.int (nI n0)), [(b0, .inr (0, [.ref v0, .int 0, .int l0, .int (nI (n0))])), (v0, .inl (cb, m0, .inl (a0))), (h0, .inr (1, s0))], rfl, by rw [ht9]; exact hP, hD, ⟨rfl, rfl⟩, hS.F ht9⟩) hS.2.2 dJ5_length_8abf5_4
/-- StringBuilder.length -/
theorem c_lengthT (l : Launch) (D : va_G) (cb : ClassId) (A : Nat → Prop) {b0 v0 n0 m0 h0 : Nat} {l0 : Int32} {a0 : Nat → Int32} {s0 : List Value} : jM l D cb A (fun _ _ => True) YJ4_length_8abf5 1 0 0 [.ref b0] [(b0, .inr (0, [.ref v0, .int 0, .int l0, .int (nI (n0))])), (v0, .inl (cb, m0, .inl (a0))), (h0, .inr (1, s0))] (fun v w => v = some (.int (nI n0)) ∧ w = [(b0, .inr (0, [.ref v0, .int 0, .int l0, .int (nI (n0))])), (v0, .inl (cb, m0, .inl (a0))), (h0, .inr (1, s0))]) := by
  refine jM_of (by decide) (Nat.le_of_ble_eq_true rfl) ?_
  intro p e R s m args below meth c sl F hnm hret hlk hl hP hD hLf
  obtain ⟨hx, hb, hml, hown, hts, hK, hZ, hA, hRf, hRl, hRc, hRs⟩ := id F
  have hS : va_S A s.heap s.heap [] := va_S.rf
  have hl : lv_has sl 1 [(0, .ref b0)] := hl
  refine lv_aload_n hx hb dJ4_length_8abf5_0 rfl (lv_at hl 0 rfl) ?_
  refine j_callSU (n := 0) (C := RJ4) (cC := D.1 0) (As := []) (rest := []) (hK.1 0 _ rfl).2 F (c_lengthAT l D cb A ) jL_0 trivial hP hD hS jg_1289 jg_1284 jg_1285 jg_1128 jg_37 jg_1290 ⟨by decide, by decide +kernel⟩ (va_recv hK hP (ci := 0) (q0 := 0) rfl rfl) (by decide) (by decide) rfl hl.1 rfl (Nat.le_of_ble_eq_true rfl) dJ4_length_8abf5_1 ⟨by omega, by omega⟩ (fun v9 ws9 H locs hP hD hp9 hS => ?_)
  obtain ⟨rfl, hw9⟩ := hp9
  rw [hw9] at hP hD
  exact W.iret hx hb hret (fun t9 ht9 hW9 => ⟨some (.int (nI n0)), [(b0, .inr (0, [.ref v0, .int 0, .int l0, .int (nI (n0))])), (v0, .inl (cb, m0, .inl (a0))), (h0, .inr (1, s0))], rfl, by rw [ht9]; exact hP, hD, ⟨rfl, rfl⟩, hS.F ht9⟩) hS.2.2 dJ4_length_8abf5_4
/-- Arrays.checkLength -/
theorem c_checkLength (l : Launch) (D : va_G) (cb : ClassId) (A : Nat → Prop) {n0 : Nat} {ws : va_W} (hn : n0 < 2 ^ 31) : jM l D cb A (fun _ _ => True) YJ7_checkLength_df160 0 0 0 [.int (nI 0), .int (nI n0)] ws (fun v w => v = none ∧ w = ws) := by
  refine jM_of (by decide) (Nat.le_of_ble_eq_true rfl) ?_
  intro p e R s m args below meth c sl F hnm hret hlk hl hP hD hLf
  obtain ⟨hx, hb, hml, hown, hts, hK, hZ, hA, hRf, hRl, hRc, hRs⟩ := id F
  have hS : va_S A s.heap s.heap [] := va_S.rf
  have hl : lv_has sl 2 [(0, .int (nI 0)), (1, .int (nI n0))] := hl
  refine lv_iload_n hx hb dJ7_checkLength_df160_0 rfl (lv_at hl 1 rfl) ?_
  refine lv_iload_n hx hb dJ7_checkLength_df160_1 rfl (lv_at hl 0 rfl) ?_
  refine lv_icmp_ge (tgt := 37) hx hb dJ7_checkLength_df160_2 (by decide) (fun _ => ?_) (fun q9 => absurd (nI_le (Nat.zero_le _) (by omega)) q9)
  exact W.vret hx hb hret (fun t9 ht9 hW9 => ⟨none, ws, rfl, by rw [ht9]; exact hP, hD, ⟨rfl, rfl⟩, hS.F ht9⟩) hS.2.2 dJ7_checkLength_df160_37
/-- Arrays.copyOfRangeByte -/
theorem c_copyOfRangeB (l : Launch) (D : va_G) (cb : ClassId) (A : Nat → Prop) {b0 v0 n0 m0 h0 : Nat} {l0 : Int32} {a0 : Nat → Int32} {s0 : List Value} (hn : n0 < m0) (hm : m0 ≤ 122) (hf : ∀ j, fits .byte (.int (a0 j)) = true) : jM l D cb A (fun _ _ => True) YJ7_copyOfRangeByte_39247 1 1 122 [.ref v0, .int (nI 0), .int (nI n0)] [(b0, .inr (0, [.ref v0, .int 0, .int l0, .int (nI (n0))])), (v0, .inl (cb, m0, .inl (a0))), (h0, .inr (1, s0))] (fun v w => ∃ x9, v = some (.ref x9) ∧ w = [(b0, .inr (0, [.ref v0, .int 0, .int l0, .int (nI (n0))])), (v0, .inl (cb, m0, .inl (a0))), (h0, .inr (1, s0)), (x9, .inl (cb, n0, .inl (va_cpy a0 (fun _ => 0) 0 0 n0)))]) := by
  refine jM_of (by decide) (Nat.le_of_ble_eq_true rfl) ?_
  intro p e R s m args below meth c sl F hnm hret hlk hl hP hD hLf
  obtain ⟨hx, hb, hml, hown, hts, hK, hZ, hA, hRf, hRl, hRc, hRs⟩ := id F
  have hS : va_S A s.heap s.heap [] := va_S.rf
  have hl : lv_has sl 5 [(0, .ref v0), (1, .int (nI 0)), (2, .int (nI n0))] := hl
  refine lv_iload_n hx hb dJ7_copyOfRangeByte_39247_0 rfl (lv_at hl 1 rfl) ?_
  refine lv_iload_n hx hb dJ7_copyOfRangeByte_39247_1 rfl (lv_at hl 2 rfl) ?_
  refine j_callS (n := 2) (As := [.int (nI 0), .int (nI n0)]) (rest := []) F (c_checkLength l D cb A (by omega)) jL_0 trivial hP hD hS jg_1298 jg_1299 jg_42 jg_1300 ⟨by decide, by decide, by decide +kernel⟩ (by decide) (by decide) rfl hl.1 rfl (Nat.le_of_ble_eq_true rfl) dJ7_copyOfRangeByte_39247_2 ⟨by omega, by omega⟩ (fun v9 ws9 H locs hP hD hp9 hS => ?_)
  obtain ⟨rfl, hw9⟩ := hp9
  rw [hw9] at hP hD
  refine lv_iload_n hx hb dJ7_copyOfRangeByte_39247_5 rfl (lv_at hl 2 rfl) ?_
  refine lv_iload_n hx hb dJ7_copyOfRangeByte_39247_6 rfl (lv_at hl 1 rfl) ?_
  refine lv_isub hx hb dJ7_copyOfRangeByte_39247_7 ?_
  refine j_top (show ((nI n0) - (nI 0)) = nI n0 from pk_sub (a := n0) (b := 0) (Nat.zero_le _)) ?_
  refine lv_istore_n (lv' := [(3, .int (nI n0)), (0, .ref v0), (1, .int (nI 0)), (2, .int (nI n0))]) hx hb dJ7_copyOfRangeByte_39247_8 rfl hl (by decide) rfl (fun sl hl => ?_)
  refine lv_iload_n hx hb dJ7_copyOfRangeByte_39247_9 rfl (lv_at hl 0 rfl) ?_
  refine j_newa F hP hD hS (by omega) ⟨by omega, by omega⟩ dJ7_copyOfRangeByte_39247_10 (fun x9 H hP hD hS => ?_)
  have hP : va_P D jcl [(b0, .inr (0, [.ref v0, .int 0, .int l0, .int (nI (n0))])), (v0, .inl (cb, m0, .inl (a0))), (h0, .inr (1, s0)), (x9, .inl (cb, n0, .inl (fun _ => 0)))] H := hP
  have hD : va_D A [(b0, .inr (0, [.ref v0, .int 0, .int l0, .int (nI (n0))])), (v0, .inl (cb, m0, .inl (a0))), (h0, .inr (1, s0)), (x9, .inl (cb, n0, .inl (fun _ => 0)))] := hD
  refine lv_astore (lv' := [(4, .ref x9), (3, .int (nI n0)), (0, .ref v0), (1, .int (nI 0)), (2, .int (nI n0))]) hx hb dJ7_copyOfRangeByte_39247_12 hl (by decide) rfl (fun sl hl => ?_)
  refine lv_aload_n hx hb dJ7_copyOfRangeByte_39247_14 rfl (lv_at hl 2 rfl) ?_
  refine lv_iload_n hx hb dJ7_copyOfRangeByte_39247_15 rfl (lv_at hl 3 rfl) ?_
  refine lv_aload hx hb dJ7_copyOfRangeByte_39247_16 (lv_at hl 0 rfl) ?_
  refine lv_iconst (v := nI 0) hx hb dJ7_copyOfRangeByte_39247_18 (by decide) ?_
  refine lv_aload_n hx hb dJ7_copyOfRangeByte_39247_19 rfl (lv_at hl 2 rfl) ?_
  refine va_alen (cA := cb) (x := (m0, .inl (a0))) (ty := .byte) (v := nI (m0)) hx hb hK hP 1 0 rfl rfl rfl dJ7_copyOfRangeByte_39247_20 ?_
  refine lv_iload_n hx hb dJ7_copyOfRangeByte_39247_21 rfl (lv_at hl 3 rfl) ?_
  refine lv_isub hx hb dJ7_copyOfRangeByte_39247_22 ?_
  refine j_top (show ((nI (m0)) - (nI 0)) = nI m0 from pk_sub (a := m0) (b := 0) (Nat.zero_le _)) ?_
  refine lv_iload_n hx hb dJ7_copyOfRangeByte_39247_23 rfl (lv_at hl 1 rfl) ?_
  refine va_mmin hx hb (hml.trans hl.1.symm) hown (hts _ jg_1182) (hts _ jg_346) (hts _ jg_36) (hts _ jg_347) (by omega) (Nat.le_trans (Nat.le_of_ble_eq_true rfl) hRl) (by omega) (by omega) dJ7_copyOfRangeByte_39247_24 ?_
  refine j_top (show (if (nI n0) < (nI m0) then (nI n0) else (nI m0)) = nI (min m0 n0) from j_min (by omega) (by omega)) ?_
  refine j_top (show (nI (min m0 n0)) = nI n0 from congrArg nI (Nat.min_eq_right (by omega))) ?_
  refine va_copyi hx hb (hml.trans hl.1.symm) hown (hts _ jg_1183) (hts _ jg_1185) (hts _ jg_1184) (hts _ jg_43) hK hP hD hS 1 3 0 0 (c0 := cb) (c1 := cb) (n0 := m0) (n1 := n0) (f := a0) (g := fun _ => 0) (ty := .byte) rfl rfl rfl rfl rfl (nI_pos (by omega)) (nI_pos (by omega)) (nI_pos (by omega)) (by rw [nI_clamp (by omega), nI_clamp (by omega)]; omega) (by rw [nI_clamp (by omega), nI_clamp (by omega)]; omega) (fun i _ => hf _) (by omega) (Nat.le_trans (Nat.le_of_ble_eq_true rfl) hRl) dJ7_copyOfRangeByte_39247_27 (fun H locs hP hD hS => ?_)
  rw [nI_clamp (n := 0) (by omega), nI_clamp (n := n0) (by omega)] at hP hD
  have hP : va_P D jcl [(b0, .inr (0, [.ref v0, .int 0, .int l0, .int (nI (n0))])), (v0, .inl (cb, m0, .inl (a0))), (h0, .inr (1, s0)), (x9, .inl (cb, n0, .inl (va_cpy a0 (fun _ => 0) 0 0 n0)))] H := hP
  have hD : va_D A [(b0, .inr (0, [.ref v0, .int 0, .int l0, .int (nI (n0))])), (v0, .inl (cb, m0, .inl (a0))), (h0, .inr (1, s0)), (x9, .inl (cb, n0, .inl (va_cpy a0 (fun _ => 0) 0 0 n0)))] := hD
  refine lv_aload hx hb dJ7_copyOfRangeByte_39247_30 (lv_at hl 0 rfl) ?_
  refine W.widen (k := 1) (n := 122) (by omega) (by omega) ?_
  exact W.aret hx hb hret (Or.inr ⟨_, rfl⟩) (Or.inr ⟨_, rfl⟩) (fun t9 ht9 hW9 => ⟨some (.ref x9), [(b0, .inr (0, [.ref v0, .int 0, .int l0, .int (nI (n0))])), (v0, .inl (cb, m0, .inl (a0))), (h0, .inr (1, s0)), (x9, .inl (cb, n0, .inl (va_cpy a0 (fun _ => 0) 0 0 n0)))], rfl, by rw [ht9]; exact hP, hD, ⟨x9, rfl, rfl⟩, hS.F ht9⟩) hS.2.2 dJ7_copyOfRangeByte_39247_32
/-- Arrays.copyOfRange -/
theorem c_copyOfRange (l : Launch) (D : va_G) (cb : ClassId) (A : Nat → Prop) {b0 v0 n0 m0 h0 : Nat} {l0 : Int32} {a0 : Nat → Int32} {s0 : List Value} (hn : n0 < m0) (hm : m0 ≤ 122) (hf : ∀ j, fits .byte (.int (a0 j)) = true) : jM l D cb A (fun _ _ => True) YJ7_copyOfRange_39247 2 1 122 [.ref v0, .int (nI 0), .int (nI n0)] [(b0, .inr (0, [.ref v0, .int 0, .int l0, .int (nI (n0))])), (v0, .inl (cb, m0, .inl (a0))), (h0, .inr (1, s0))] (fun v w => ∃ x9, v = some (.ref x9) ∧ w = [(b0, .inr (0, [.ref v0, .int 0, .int l0, .int (nI (n0))])), (v0, .inl (cb, m0, .inl (a0))), (h0, .inr (1, s0)), (x9, .inl (cb, n0, .inl (va_cpy a0 (fun _ => 0) 0 0 n0)))]) := by
  refine jM_of (by decide) (Nat.le_of_ble_eq_true rfl) ?_
  intro p e R s m args below meth c sl F hnm hret hlk hl hP hD hLf
  obtain ⟨hx, hb, hml, hown, hts, hK, hZ, hA, hRf, hRl, hRc, hRs⟩ := id F
  have hS : va_S A s.heap s.heap [] := va_S.rf
  have hl : lv_has sl 3 [(0, .ref v0), (1, .int (nI 0)), (2, .int (nI n0))] := hl
  refine lv_iload_n hx hb dJ7_copyOfRange_39247_0 rfl (lv_at hl 1 rfl) ?_
  refine lv_if_ne (tgt := 10) hx hb dJ7_copyOfRange_39247_1 (by decide) (fun q9 => absurd q9 (fun z => z rfl)) (fun _ => ?_)
  refine lv_iload_n hx hb dJ7_copyOfRange_39247_4 rfl (lv_at hl 2 rfl) ?_
  refine lv_aload_n hx hb dJ7_copyOfRange_39247_5 rfl (lv_at hl 0 rfl) ?_
  refine va_alen (cA := cb) (x := (m0, .inl (a0))) (ty := .byte) (v := nI (m0)) hx hb hK hP 1 0 rfl rfl rfl dJ7_copyOfRange_39247_6 ?_
  refine lv_icmp_eq (tgt := 17) hx hb dJ7_copyOfRange_39247_7 (by decide) (fun q9 => absurd q9 (by rw [sp_eqn (by omega) (by omega)]; omega)) (fun _ => ?_)
  refine lv_aload_n hx hb dJ7_copyOfRange_39247_10 rfl (lv_at hl 0 rfl) ?_
  refine lv_iload_n hx hb dJ7_copyOfRange_39247_11 rfl (lv_at hl 1 rfl) ?_
  refine lv_iload_n hx hb dJ7_copyOfRange_39247_12 rfl (lv_at hl 2 rfl) ?_
  refine j_callS (n := 3) (As := [.ref v0, .int (nI 0), .int (nI n0)]) (rest := []) F (c_copyOfRangeB l D cb A hn hm hf) jL_0 trivial hP hD hS jg_1295 jg_1296 jg_42 jg_1297 ⟨by decide, by decide, by decide +kernel⟩ (by decide) (by decide) rfl hl.1 rfl (Nat.le_of_ble_eq_true rfl) dJ7_copyOfRange_39247_13 ⟨by omega, by omega⟩ (fun v9 ws9 H locs hP hD hp9 hS => ?_)
  obtain ⟨x9, rfl, hw9⟩ := hp9
  rw [hw9] at hP hD
  refine W.widen (k := 1) (n := 122) (by omega) (by omega) ?_
  exact W.aret hx hb hret (Or.inr ⟨_, rfl⟩) (Or.inr ⟨_, rfl⟩) (fun t9 ht9 hW9 => ⟨some (.ref x9), [(b0, .inr (0, [.ref v0, .int 0, .int l0, .int (nI (n0))])), (v0, .inl (cb, m0, .inl (a0))), (h0, .inr (1, s0)), (x9, .inl (cb, n0, .inl (va_cpy a0 (fun _ => 0) 0 0 n0)))], rfl, by rw [ht9]; exact hP, hD, ⟨x9, rfl, rfl⟩, hS.F ht9⟩) hS.2.2 dJ7_copyOfRange_39247_16
/-- String(AbstractStringBuilder, Void) -/
theorem c_strInitA (l : Launch) (D : va_G) (cb : ClassId) (A : Nat → Prop) {b0 v0 n0 m0 h0 : Nat} {l0 : Int32} {a0 : Nat → Int32} (hn : n0 < m0) (hm : m0 ≤ 122) (hf : ∀ j, fits .byte (.int (a0 j)) = true) : jM l D cb A (fun _ _ => True) YJ0_init_db425 3 1 122 [.ref h0, .ref b0, .null] [(b0, .inr (0, [.ref v0, .int 0, .int l0, .int (nI (n0))])), (v0, .inl (cb, m0, .inl (a0))), (h0, .inr (1, [.null, .int 0, .int 0, .int 0]))] (fun v w => v = none ∧ ∃ x9, w = [(b0, .inr (0, [.ref v0, .int 0, .int l0, .int (nI (n0))])), (v0, .inl (cb, m0, .inl (a0))), (h0, .inr (1, [.ref x9, .int 0, .int 0, .int 0])), (x9, .inl (cb, n0, .inl (va_cpy a0 (fun _ => 0) 0 0 n0)))]) := by
  refine jM_of (by decide) (Nat.le_of_ble_eq_true rfl) ?_
  intro p e R s m args below meth c sl F hnm hret hlk hl hP hD hLf
  obtain ⟨hx, hb, hml, hown, hts, hK, hZ, hA, hRf, hRl, hRc, hRs⟩ := id F
  have hS : va_S A s.heap s.heap [] := va_S.rf
  have hl : lv_has sl 5 [(0, .ref h0), (1, .ref b0), (2, .null)] := hl
  refine lv_aload_n hx hb dJ0_init_db425_0 rfl (lv_at hl 0 rfl) ?_
  refine W.objInit hx hb hown (hts _ jg_1277) (hts _ jo_58) (hts _ jo_59) rfl (by rw [hml]; exact hl.1) rfl dJ0_init_db425_1 (by omega) (Nat.le_trans (Nat.le_of_ble_eq_true rfl) hRl) ?_
  refine W.eq (g2 := F0 m 4 sl []) rfl ?_
  refine lv_aload_n hx hb dJ0_init_db425_4 rfl (lv_at hl 1 rfl) ?_
  refine j_callU (n := 0) (C := RJ4) (owner := RJ5) (y := yJ5_getValue_6d5f1) (As := []) (rest := []) F (c_getValueT l D cb A ) jL_0 trivial hP hD hS jg_1278 jg_1279 (hts _ jg_1281) jg_1280 jg_1279 jg_1282 jg_37 jg_1282 ⟨by decide, by decide, by decide +kernel⟩ (va_recv hK hP (ci := 0) (q0 := 0) rfl rfl) (by decide) (by decide) rfl hl.1 rfl (Nat.le_of_ble_eq_true rfl) dJ0_init_db425_5 ⟨by omega, by omega⟩ (fun v9 ws9 H locs hP hD hp9 hS => ?_)
  obtain ⟨rfl, hw9⟩ := hp9
  rw [hw9] at hP hD
  refine lv_astore_n (lv' := [(3, .ref v0), (0, .ref h0), (1, .ref b0), (2, .null)]) hx hb dJ0_init_db425_8 rfl hl (by decide) rfl (fun sl hl => ?_)
  refine lv_aload_n hx hb dJ0_init_db425_9 rfl (lv_at hl 2 rfl) ?_
  refine j_callU (n := 0) (C := RJ4) (owner := RJ5) (y := yJ5_length_8abf5) (As := []) (rest := []) F (c_lengthT l D cb A ) jL_0 trivial hP hD hS jg_1283 jg_1287 (hts _ jg_1286) jg_1285 jg_1284 jg_1290 jg_38 jg_1288 ⟨by decide, by decide, by decide +kernel⟩ (va_recv hK hP (ci := 0) (q0 := 0) rfl rfl) (by decide) (by decide) rfl hl.1 rfl (Nat.le_of_ble_eq_true rfl) dJ0_init_db425_10 ⟨by omega, by omega⟩ (fun v9 ws9 H locs hP hD hp9 hS => ?_)
  obtain ⟨rfl, hw9⟩ := hp9
  rw [hw9] at hP hD
  refine lv_istore (lv' := [(4, .int (nI n0)), (3, .ref v0), (0, .ref h0), (1, .ref b0), (2, .null)]) hx hb dJ0_init_db425_13 hl (by decide) rfl (fun sl hl => ?_)
  refine lv_aload_n hx hb dJ0_init_db425_15 rfl (lv_at hl 3 rfl) ?_
  refine j_callU (n := 0) (C := RJ4) (owner := RJ5) (y := yJ5_isLatin1_aae02) (As := []) (rest := []) F (c_isLatin1T l D cb A ) jL_0 trivial hP hD hS jg_1291 jg_1187 (hts _ jg_1189) jg_1188 jg_1187 jg_1190 jg_37 jg_1190 ⟨by decide, by decide, by decide +kernel⟩ (va_recv hK hP (ci := 0) (q0 := 0) rfl rfl) (by decide) (by decide) rfl hl.1 rfl (Nat.le_of_ble_eq_true rfl) dJ0_init_db425_16 ⟨by omega, by omega⟩ (fun v9 ws9 H locs hP hD hp9 hS => ?_)
  obtain ⟨rfl, hw9⟩ := hp9
  rw [hw9] at hP hD
  refine lv_if_eq (tgt := 41) hx hb dJ0_init_db425_19 (by decide) (fun q9 => absurd q9 (by decide)) (fun _ => ?_)
  refine lv_aload_n hx hb dJ0_init_db425_22 rfl (lv_at hl 2 rfl) ?_
  refine lv_iconst (v := nI 0) hx hb dJ0_init_db425_23 (by decide) ?_
  refine va_putF (D := D) (ci := 1) (v := .int (nI 0)) (ty := .byte) (C := RJ0) (T := TJ0) (N := 4) hx hb (fun w hw => hts w (j_u0 w hw)) (fun _ h => h) tyJ0 tyJ0_ok nmJ0 hown hK hP hD hS 2 rfl rfl 1 (by decide) (hts _ jg_1312) (fun _ h9 => h9) rfl hnm rfl (by decide +kernel) rfl rfl (Nat.le_of_ble_eq_true rfl) dJ0_init_db425_24 (fun H locs hP hD hS => ?_)
  have hP : va_P D jcl [(b0, .inr (0, [.ref v0, .int 0, .int l0, .int (nI (n0))])), (v0, .inl (cb, m0, .inl (a0))), (h0, .inr (1, [.null, .int 0, .int 0, .int 0]))] H := hP
  have hD : va_D A [(b0, .inr (0, [.ref v0, .int 0, .int l0, .int (nI (n0))])), (v0, .inl (cb, m0, .inl (a0))), (h0, .inr (1, [.null, .int 0, .int 0, .int 0]))] := hD
  refine lv_aload_n hx hb dJ0_init_db425_27 rfl (lv_at hl 2 rfl) ?_
  refine lv_aload_n hx hb dJ0_init_db425_28 rfl (lv_at hl 1 rfl) ?_
  refine lv_iconst (v := nI 0) hx hb dJ0_init_db425_29 (by decide) ?_
  refine lv_iload hx hb dJ0_init_db425_30 (lv_at hl 0 rfl) ?_
  refine j_callS (n := 3) (As := [.ref v0, .int (nI 0), .int (nI n0)]) (rest := [.ref h0]) F (c_copyOfRange l D cb A hn hm hf) jL_0 trivial hP hD hS jg_1292 jg_1293 jg_42 jg_1294 ⟨by decide, by decide, by decide +kernel⟩ (by decide) (by decide) rfl hl.1 rfl (Nat.le_of_ble_eq_true rfl) dJ0_init_db425_32 ⟨by omega, by omega⟩ (fun v9 ws9 H locs hP hD hp9 hS => ?_)
  obtain ⟨x9, rfl, hw9⟩ := hp9
  rw [hw9] at hP hD
  refine va_putF (D := D) (ci := 1) (v := .ref x9) (ty := .array .byte) (C := RJ0) (T := TJ0) (N := 4) hx hb (fun w hw => hts w (j_u0 w hw)) (fun _ h => h) tyJ0 tyJ0_ok nmJ0 hown hK hP hD hS 2 rfl rfl 0 (by decide) (hts _ jg_1311) (fun _ h9 => h9) rfl hnm rfl (by decide +kernel) rfl rfl (Nat.le_of_ble_eq_true rfl) dJ0_init_db425_35 (fun H locs hP hD hS => ?_)
  have hP : va_P D jcl [(b0, .inr (0, [.ref v0, .int 0, .int l0, .int (nI (n0))])), (v0, .inl (cb, m0, .inl (a0))), (h0, .inr (1, [.ref x9, .int 0, .int 0, .int 0])), (x9, .inl (cb, n0, .inl (va_cpy a0 (fun _ => 0) 0 0 n0)))] H := hP
  have hD : va_D A [(b0, .inr (0, [.ref v0, .int 0, .int l0, .int (nI (n0))])), (v0, .inl (cb, m0, .inl (a0))), (h0, .inr (1, [.ref x9, .int 0, .int 0, .int 0])), (x9, .inl (cb, n0, .inl (va_cpy a0 (fun _ => 0) 0 0 n0)))] := hD
  refine lv_goto (tgt := 97) hx hb dJ0_init_db425_38 (by decide) ?_
  refine W.widen (k := 1) (n := 122) (by omega) (by omega) ?_
  exact W.vret hx hb hret (fun t9 ht9 hW9 => ⟨none, [(b0, .inr (0, [.ref v0, .int 0, .int l0, .int (nI (n0))])), (v0, .inl (cb, m0, .inl (a0))), (h0, .inr (1, [.ref x9, .int 0, .int 0, .int 0])), (x9, .inl (cb, n0, .inl (va_cpy a0 (fun _ => 0) 0 0 n0)))], rfl, by rw [ht9]; exact hP, hD, ⟨rfl, x9, rfl⟩, hS.F ht9⟩) hS.2.2 dJ0_init_db425_97
/-- String(StringBuilder) -/
theorem c_strInit (l : Launch) (D : va_G) (cb : ClassId) (A : Nat → Prop) {b0 v0 n0 m0 h0 : Nat} {l0 : Int32} {a0 : Nat → Int32} (hn : n0 < m0) (hm : m0 ≤ 122) (hf : ∀ j, fits .byte (.int (a0 j)) = true) : jM l D cb A (fun _ _ => True) YJ0_init_81219 4 1 122 [.ref h0, .ref b0] [(b0, .inr (0, [.ref v0, .int 0, .int l0, .int (nI (n0))])), (v0, .inl (cb, m0, .inl (a0))), (h0, .inr (1, [.null, .int 0, .int 0, .int 0]))] (fun v w => v = none ∧ ∃ x9, w = [(b0, .inr (0, [.ref v0, .int 0, .int l0, .int (nI (n0))])), (v0, .inl (cb, m0, .inl (a0))), (h0, .inr (1, [.ref x9, .int 0, .int 0, .int 0])), (x9, .inl (cb, n0, .inl (va_cpy a0 (fun _ => 0) 0 0 n0)))]) := by
  refine jM_of (by decide) (Nat.le_of_ble_eq_true rfl) ?_
  intro p e R s m args below meth c sl F hnm hret hlk hl hP hD hLf
  obtain ⟨hx, hb, hml, hown, hts, hK, hZ, hA, hRf, hRl, hRc, hRs⟩ := id F
  have hS : va_S A s.heap s.heap [] := va_S.rf
  have hl : lv_has sl 2 [(0, .ref h0), (1, .ref b0)] := hl
  refine lv_aload_n hx hb dJ0_init_81219_0 rfl (lv_at hl 0 rfl) ?_
  refine lv_aload_n hx hb dJ0_init_81219_1 rfl (lv_at hl 1 rfl) ?_
  refine lv_null hx hb dJ0_init_81219_2 ?_
  refine j_callI (n := 2) (As := [.ref b0, .null]) (rest := []) F (c_strInitA l D cb A hn hm hf) jL_0 trivial hP hD hS jg_1274 jg_1275 jg_39 jg_1276 ⟨by decide, by decide, by decide +kernel⟩ rfl rfl (by decide) (by decide) rfl hl.1 rfl (Nat.le_of_ble_eq_true rfl) dJ0_init_81219_3 ⟨by omega, by omega⟩ (fun v9 ws9 H locs hP hD hp9 hS => ?_)
  obtain ⟨rfl, x9, hw9⟩ := hp9
  rw [hw9] at hP hD
  refine W.widen (k := 1) (n := 122) (by omega) (by omega) ?_
  exact W.vret hx hb hret (fun t9 ht9 hW9 => ⟨none, [(b0, .inr (0, [.ref v0, .int 0, .int l0, .int (nI (n0))])), (v0, .inl (cb, m0, .inl (a0))), (h0, .inr (1, [.ref x9, .int 0, .int 0, .int 0])), (x9, .inl (cb, n0, .inl (va_cpy a0 (fun _ => 0) 0 0 n0)))], rfl, by rw [ht9]; exact hP, hD, ⟨rfl, x9, rfl⟩, hS.F ht9⟩) hS.2.2 dJ0_init_81219_6
/-- StringBuilder.toString -/
theorem c_toString (l : Launch) (D : va_G) (cb : ClassId) (A : Nat → Prop) {b0 v0 n0 m0 : Nat} {l0 : Int32} {a0 : Nat → Int32} (hn : n0 < m0) (hm : m0 ≤ 122) (hf : ∀ j, fits .byte (.int (a0 j)) = true) : jM l D cb A (fun _ _ => True) YJ4_toString_0e30d 5 2 130 [.ref b0] [(b0, .inr (0, [.ref v0, .int 0, .int l0, .int (nI (n0))])), (v0, .inl (cb, m0, .inl (a0)))] (fun v w => ∃ h0 x9, v = some (.ref h0) ∧ w = [(b0, .inr (0, [.ref v0, .int 0, .int l0, .int (nI (n0))])), (v0, .inl (cb, m0, .inl (a0))), (h0, .inr (1, [.ref x9, .int 0, .int 0, .int 0])), (x9, .inl (cb, n0, .inl (va_cpy a0 (fun _ => 0) 0 0 n0)))]) := by
  refine jM_of (by decide) (Nat.le_of_ble_eq_true rfl) ?_
  intro p e R s m args below meth c sl F hnm hret hlk hl hP hD hLf
  obtain ⟨hx, hb, hml, hown, hts, hK, hZ, hA, hRf, hRl, hRc, hRs⟩ := id F
  have hS : va_S A s.heap s.heap [] := va_S.rf
  have hl : lv_has sl 1 [(0, .ref b0)] := hl
  refine va_new (D := D) (ci := 1) (fs := [.null, .int 0, .int 0, .int 0]) (C := RJ0) (T := TJ0) (N := 4) hx hb (fun w hw => hts w (j_u0 w hw)) (fun _ h => h) tyJ0 tyJ0_ok hown (hts _ jg_1269) (hts _ jg_1270) (hts _ jg_39) hK hP hD hS hA rfl (fun j hj => by rcases (show j = 0 ∨ j = 1 ∨ j = 2 ∨ j = 3 by omega) with rfl | rfl | rfl | rfl <;> rfl) (by omega) (by omega) dJ4_toString_0e30d_0 (fun h0 H hP hD hS => ?_)
  have hP : va_P D jcl [(b0, .inr (0, [.ref v0, .int 0, .int l0, .int (nI (n0))])), (v0, .inl (cb, m0, .inl (a0))), (h0, .inr (1, [.null, .int 0, .int 0, .int 0]))] H := hP
  have hD : va_D A [(b0, .inr (0, [.ref v0, .int 0, .int l0, .int (nI (n0))])), (v0, .inl (cb, m0, .inl (a0))), (h0, .inr (1, [.null, .int 0, .int 0, .int 0]))] := hD
  refine lv_dup hx hb dJ4_toString_0e30d_3 rfl ?_
  refine lv_aload_n hx hb dJ4_toString_0e30d_4 rfl (lv_at hl 0 rfl) ?_
  refine j_callI (n := 1) (As := [.ref b0]) (rest := [.ref h0]) F (c_strInit l D cb A hn hm hf) jL_0 trivial hP hD hS jg_1271 jg_1272 jg_39 jg_1273 ⟨by decide, by decide, by decide +kernel⟩ rfl rfl (by decide) (by decide) rfl hl.1 rfl (Nat.le_of_ble_eq_true rfl) dJ4_toString_0e30d_5 ⟨by omega, by omega⟩ (fun v9 ws9 H locs hP hD hp9 hS => ?_)
  obtain ⟨rfl, x9, hw9⟩ := hp9
  rw [hw9] at hP hD
  refine W.widen (k := 2) (n := 130) (by omega) (by omega) ?_
  exact W.aret hx hb hret (Or.inl ⟨_, rfl⟩) (Or.inr ⟨_, rfl⟩) (fun t9 ht9 hW9 => ⟨some (.ref h0), [(b0, .inr (0, [.ref v0, .int 0, .int l0, .int (nI (n0))])), (v0, .inl (cb, m0, .inl (a0))), (h0, .inr (1, [.ref x9, .int 0, .int 0, .int 0])), (x9, .inl (cb, n0, .inl (va_cpy a0 (fun _ => 0) 0 0 n0)))], rfl, by rw [ht9]; exact hP, hD, ⟨h0, x9, rfl, rfl⟩, hS.F ht9⟩) hS.2.2 dJ4_toString_0e30d_8

/-! ===== contracts: StringBuilder, its array ===== -/
/-- AbstractStringBuilder.isLatin1 -/
theorem c_isLatin1B (l : Launch) (D : va_G) (cb : ClassId) (A : Nat → Prop) {b0 v0 n0 m0 : Nat} {l0 : Int32} {a0 : Nat → Int32} : jM l D cb A (fun _ _ => True) YJ5_isLatin1_aae02 0 0 0 [.ref b0] [(b0, .inr (0, [.ref v0, .int 0, .int l0, .int (nI (n0))])), (v0, .inl (cb, m0, .inl (a0)))] (fun v w => v = some (.int 1) ∧ w = [(b0, .inr (0, [.ref v0, .int 0, .int l0, .int (nI (n0))])), (v0, .inl (cb, m0, .inl (a0)))]) := by
  refine jM_of (by decide) (Nat.le_of_ble_eq_true rfl) ?_
  intro p e R s m args below meth c sl F hnm hret hlk hl hP hD hLf
  obtain ⟨hx, hb, hml, hown, hts, hK, hZ, hA, hRf, hRl, hRc, hRs⟩ := id F
  have hS : va_S A s.heap s.heap [] := va_S.rf
  have hl : lv_has sl 1 [(0, .ref b0)] := hl
  refine va_gets hx hb hZ.1 hS hown (hts _ jg_1108) (fun _ h => h) dJ5_isLatin1_aae02_0 ?_
  refine lv_if_eq (tgt := 17) hx hb dJ5_isLatin1_aae02_3 (by decide) (fun q9 => absurd q9 (by decide)) (fun _ => ?_)
  refine lv_aload_n hx hb dJ5_isLatin1_aae02_6 rfl (lv_at hl 0 rfl) ?_
  refine va_get (D := D) (ci := 0) (v := .int 0) (C := RJ4) (T := TJ4) (N := 4) hx hb (fun w hw => hts w (j_u4 w hw)) (fun _ h => h) hown hK hP 0 rfl rfl 1 (by decide) (hts _ jg_1117) (fun _ h9 => h9) rfl dJ5_isLatin1_aae02_7 ?_
  refine lv_if_ne (tgt := 17) hx hb dJ5_isLatin1_aae02_10 (by decide) (fun q9 => absurd q9 (fun z => z rfl)) (fun _ => ?_)
  refine lv_iconst (v := nI 1) hx hb dJ5_isLatin1_aae02_13 (by decide) ?_
  refine lv_goto (tgt := 18) hx hb dJ5_isLatin1_aae02_14 (by decide) ?_
  exact W.zret hx hb hret (rfl) (fun t9 ht9 hW9 => ⟨some (.int (nI 1)), [(b0, .inr (0, [.ref v0, .int 0, .int l0, .int (nI (n0))])), (v0, .inl (cb, m0, .inl (a0)))], rfl, by rw [ht9]; exact hP, hD, ⟨rfl, rfl⟩, hS.F ht9⟩) hS.2.2 dJ5_isLatin1_aae02_18
/-- AbstractStringBuilder.getValue -/
theorem c_getValue (l : Launch) (D : va_G) (cb : ClassId) (A : Nat → Prop) {b0 v0 n0 m0 : Nat} {l0 : Int32} {a0 : Nat → Int32} : jM l D cb A (fun _ _ => True) YJ5_getValue_6d5f1 0 0 0 [.ref b0] [(b0, .inr (0, [.ref v0, .int 0, .int l0, .int (nI (n0))])), (v0, .inl (cb, m0, .inl (a0)))] (fun v w => v = some (.ref v0) ∧ w = [(b0, .inr (0, [.ref v0, .int 0, .int l0, .int (nI (n0))])), (v0, .inl (cb, m0, .inl (a0)))]) := by
  refine jM_of (by decide) (Nat.le_of_ble_eq_true rfl) ?_
  intro p e R s m args below meth c sl F hnm hret hlk hl hP hD hLf
  obtain ⟨hx, hb, hml, hown, hts, hK, hZ, hA, hRf, hRl, hRc, hRs⟩ := id F
  have hS : va_S A s.heap s.heap [] := va_S.rf
  have hl : lv_has sl 1 [(0, .ref b0)] := hl
  refine lv_aload_n hx hb dJ5_getValue_6d5f1_0 rfl (lv_at hl 0 rfl) ?_
  refine va_get (D := D) (ci := 0) (v := .ref v0) (C := RJ4) (T := TJ4) (N := 4) hx hb (fun w hw => hts w (j_u4 w hw)) (fun _ h => h) hown hK hP 0 rfl rfl 0 (by decide) (hts _ jg_1116) (fun _ h9 => h9) rfl dJ5_getValue_6d5f1_1 ?_
  exact W.aret hx hb hret (Or.inr ⟨_, rfl⟩) (Or.inr ⟨_, rfl⟩) (fun t9 ht9 hW9 => ⟨some (.ref v0), [(b0, .inr (0, [.ref v0, .int 0, .int l0, .int (nI (n0))])), (v0, .inl (cb, m0, .inl (a0)))], rfl, by rw [ht9]; exact hP, hD, ⟨rfl, rfl⟩, hS.F ht9⟩) hS.2.2 dJ5_getValue_6d5f1_4
/-- AbstractStringBuilder.length -/
theorem c_lengthA (l : Launch) (D : va_G) (cb : ClassId) (A : Nat → Prop) {b0 v0 n0 m0 : Nat} {l0 : Int32} {a0 : Nat → Int32} : jM l D cb A (fun _ _ => True) YJ5_length_8abf5 0 0 0 [.ref b0] [(b0, .inr (0, [.ref v0, .int 0, .int l0, .int (nI (n0))])), (v0, .inl (cb, m0, .inl (a0)))] (fun v w => v = some (.int (nI n0)) ∧ w = [(b0, .inr (0, [.ref v0, .int 0, .int l0, .int (nI (n0))])), (v0, .inl (cb, m0, .inl (a0)))]) := by
  refine jM_of (by decide) (Nat.le_of_ble_eq_true rfl) ?_
  intro p e R s m args below meth c sl F hnm hret hlk hl hP hD hLf
  obtain ⟨hx, hb, hml, hown, hts, hK, hZ, hA, hRf, hRl, hRc, hRs⟩ := id F
  have hS : va_S A s.heap s.heap [] := va_S.rf
  have hl : lv_has sl 1 [(0, .ref b0)] := hl
  refine lv_aload_n hx hb dJ5_length_8abf5_0 rfl (lv_at hl 0 rfl) ?_
  refine va_get (D := D) (ci := 0) (v := .int (nI n0)) (C := RJ4) (T := TJ4) (N := 4) hx hb (fun w hw => hts w (j_u4 w hw)) (fun _ h => h) hown hK hP 0 rfl rfl 3 (by decide) (hts _ jg_1119) (fun _ h9 => h9) rfl dJ5_length_8abf5_1 ?_
  exact W.iret hx hb hret (fun t9 ht9 hW9 => ⟨some (.int (nI n0)), [(b0, .inr (0, [.ref v0, .int 0, .int l0, .int (nI (n0))])), (v0, .inl (cb, m0, .inl (a0)))], rfl, by rw [ht9]; exact hP, hD, ⟨rfl, rfl⟩, hS.F ht9⟩) hS.2.2 dJ5_length_8abf5_4
theorem j_max {a b : Nat} (ha : a < 2 ^ 31) (hb : b < 2 ^ 31) : (if nI a < nI b then nI b else nI a) = nI (max a b) := by
  by_cases h : a < b
  · rw [if_pos (nI_lt h hb), Nat.max_eq_right (by omega)]
  · rw [if_neg (nI_nlt (by omega) ha), Nat.max_eq_left (by omega)]
theorem j_min {a b : Nat} (ha : a < 2 ^ 31) (hb : b < 2 ^ 31) : (if nI b < nI a then nI b else nI a) = nI (min a b) := by
  by_cases h : b < a
  · rw [if_pos (nI_lt h ha), Nat.min_eq_right (by omega)]
  · rw [if_neg (nI_nlt (by omega) hb), Nat.min_eq_left (by omega)]
/-- ArraysSupport.newLength -/
theorem c_newLength (l : Launch) (D : va_G) (cb : ClassId) (A : Nat → Prop) {m0 g0 p0 : Nat} {ws : va_W} (hm : m0 ≤ 1000) (hg : g0 ≤ 1000) (hp : p0 ≤ 1000) (h0 : 0 < p0) : jM l D cb A (fun _ _ => True) YJ8_newLength_cabcc 1 0 0 [.int (nI m0), .int (nI g0), .int (nI p0)] ws (fun v w => v = some (.int (nI (m0 + max g0 p0))) ∧ w = ws) := by
  refine jM_of (by decide) (Nat.le_of_ble_eq_true rfl) ?_
  intro p e R s m args below meth c sl F hnm hret hlk hl hP hD hLf
  obtain ⟨hx, hb, hml, hown, hts, hK, hZ, hA, hRf, hRl, hRc, hRs⟩ := id F
  have hS : va_S A s.heap s.heap [] := va_S.rf
  have hl : lv_has sl 4 [(0, .int (nI m0)), (1, .int (nI g0)), (2, .int (nI p0))] := hl
  refine lv_iload_n hx hb dJ8_newLength_cabcc_0 rfl (lv_at hl 0 rfl) ?_
  refine lv_iload_n hx hb dJ8_newLength_cabcc_1 rfl (lv_at hl 1 rfl) ?_
  refine lv_iload_n hx hb dJ8_newLength_cabcc_2 rfl (lv_at hl 2 rfl) ?_
  refine va_mmax hx hb (hml.trans hl.1.symm) hown (hts _ jg_1167) (hts _ jg_1087) (hts _ jg_36) (hts _ jg_1088) (by omega) (Nat.le_trans (Nat.le_of_ble_eq_true rfl) hRl) (by omega) (by omega) dJ8_newLength_cabcc_3 ?_
  refine j_top (show (if (nI g0) < (nI p0) then (nI p0) else (nI g0)) = nI (max g0 p0) from j_max (by omega) (by omega)) ?_
  refine lv_iadd hx hb dJ8_newLength_cabcc_6 ?_
  refine j_top (show ((nI m0) + (nI (max g0 p0))) = nI (m0 + max g0 p0) from nI_add _ _) ?_
  refine lv_istore_n (lv' := [(3, .int (nI (m0 + max g0 p0))), (0, .int (nI m0)), (1, .int (nI g0)), (2, .int (nI p0))]) hx hb dJ8_newLength_cabcc_7 rfl hl (by decide) rfl (fun sl hl => ?_)
  refine lv_iconst (v := nI 0) hx hb dJ8_newLength_cabcc_8 (by decide) ?_
  refine lv_iload_n hx hb dJ8_newLength_cabcc_9 rfl (lv_at hl 0 rfl) ?_
  refine lv_icmp_ge (tgt := 21) hx hb dJ8_newLength_cabcc_10 (by decide) (fun q9 => absurd q9 (by rw [sp_len (by omega) (by omega)]; omega)) (fun _ => ?_)
  refine lv_iload_n hx hb dJ8_newLength_cabcc_13 rfl (lv_at hl 0 rfl) ?_
  refine lv_ldc (v := nI 2147483639) hx hb hown (hts _ jg_1168) dJ8_newLength_cabcc_14 ?_
  refine lv_icmp_gt (tgt := 21) hx hb dJ8_newLength_cabcc_16 (by decide) (fun q9 => absurd q9 (by rw [sp_ltn (by omega) (by omega)]; omega)) (fun _ => ?_)
  refine lv_iload_n hx hb dJ8_newLength_cabcc_19 rfl (lv_at hl 0 rfl) ?_
  exact W.iret hx hb hret (fun t9 ht9 hW9 => ⟨some (.int (nI (m0 + max g0 p0))), ws, rfl, by rw [ht9]; exact hP, hD, ⟨rfl, rfl⟩, hS.F ht9⟩) hS.2.2 dJ8_newLength_cabcc_20
/-- AbstractStringBuilder.newCapacity -/
theorem c_newCapacity (l : Launch) (D : va_G) (cb : ClassId) (A : Nat → Prop) {b0 v0 n0 m0 : Nat} {l0 : Int32} {a0 : Nat → Int32} {q0 : Nat} (hm : m0 ≤ 300) (hq : m0 < q0) (hq2 : q0 ≤ 300) : jM l D cb A (fun _ _ => True) YJ5_newCapacity_0f7a4 2 0 0 [.ref b0, .int (nI q0)] [(b0, .inr (0, [.ref v0, .int 0, .int l0, .int (nI (n0))])), (v0, .inl (cb, m0, .inl (a0)))] (fun v w => v = some (.int (nI (m0 + max (q0 - m0) (m0 + 2)))) ∧ w = [(b0, .inr (0, [.ref v0, .int 0, .int l0, .int (nI (n0))])), (v0, .inl (cb, m0, .inl (a0)))]) := by
  refine jM_of (by decide) (Nat.le_of_ble_eq_true rfl) ?_
  intro p e R s m args below meth c sl F hnm hret hlk hl hP hD hLf
  obtain ⟨hx, hb, hml, hown, hts, hK, hZ, hA, hRf, hRl, hRc, hRs⟩ := id F
  have hS : va_S A s.heap s.heap [] := va_S.rf
  have hl : lv_has sl 6 [(0, .ref b0), (1, .int (nI q0))] := hl
  refine lv_aload_n hx hb dJ5_newCapacity_0f7a4_0 rfl (lv_at hl 0 rfl) ?_
  refine va_get (D := D) (ci := 0) (v := .ref v0) (C := RJ4) (T := TJ4) (N := 4) hx hb (fun w hw => hts w (j_u4 w hw)) (fun _ h => h) hown hK hP 0 rfl rfl 0 (by decide) (hts _ jg_1116) (fun _ h9 => h9) rfl dJ5_newCapacity_0f7a4_1 ?_
  refine va_alen (cA := cb) (x := (m0, .inl (a0))) (ty := .byte) (v := nI (m0)) hx hb hK hP 1 0 rfl rfl rfl dJ5_newCapacity_0f7a4_4 ?_
  refine lv_istore_n (lv' := [(2, .int (nI (m0))), (0, .ref b0), (1, .int (nI q0))]) hx hb dJ5_newCapacity_0f7a4_5 rfl hl (by decide) rfl (fun sl hl => ?_)
  refine lv_iload_n hx hb dJ5_newCapacity_0f7a4_6 rfl (lv_at hl 2 rfl) ?_
  refine lv_aload_n hx hb dJ5_newCapacity_0f7a4_7 rfl (lv_at hl 1 rfl) ?_
  refine va_get (D := D) (ci := 0) (v := .int 0) (C := RJ4) (T := TJ4) (N := 4) hx hb (fun w hw => hts w (j_u4 w hw)) (fun _ h => h) hown hK hP 0 rfl rfl 1 (by decide) (hts _ jg_1117) (fun _ h9 => h9) rfl dJ5_newCapacity_0f7a4_8 ?_
  refine lv_ishl hx hb dJ5_newCapacity_0f7a4_11 ?_
  refine j_top (show ((nI q0) <<< (0 &&& 31)) = nI q0 from j_shl0 _) ?_
  refine lv_istore_n (lv' := [(3, .int (nI q0)), (2, .int (nI (m0))), (0, .ref b0), (1, .int (nI q0))]) hx hb dJ5_newCapacity_0f7a4_12 rfl hl (by decide) rfl (fun sl hl => ?_)
  refine lv_iload_n hx hb dJ5_newCapacity_0f7a4_13 rfl (lv_at hl 0 rfl) ?_
  refine lv_iload_n hx hb dJ5_newCapacity_0f7a4_14 rfl (lv_at hl 1 rfl) ?_
  refine lv_isub hx hb dJ5_newCapacity_0f7a4_15 ?_
  refine j_top (show ((nI q0) - (nI (m0))) = nI (q0 - m0) from pk_sub (by omega)) ?_
  refine lv_istore (lv' := [(4, .int (nI (q0 - m0))), (3, .int (nI q0)), (2, .int (nI (m0))), (0, .ref b0), (1, .int (nI q0))]) hx hb dJ5_newCapacity_0f7a4_16 hl (by decide) rfl (fun sl hl => ?_)
  refine lv_iload_n hx hb dJ5_newCapacity_0f7a4_18 rfl (lv_at hl 2 rfl) ?_
  refine lv_iload hx hb dJ5_newCapacity_0f7a4_19 (lv_at hl 0 rfl) ?_
  refine lv_iload_n hx hb dJ5_newCapacity_0f7a4_21 rfl (lv_at hl 2 rfl) ?_
  refine lv_iconst (v := nI 2) hx hb dJ5_newCapacity_0f7a4_22 (by decide) ?_
  refine lv_aload_n hx hb dJ5_newCapacity_0f7a4_23 rfl (lv_at hl 3 rfl) ?_
  refine va_get (D := D) (ci := 0) (v := .int 0) (C := RJ4) (T := TJ4) (N := 4) hx hb (fun w hw => hts w (j_u4 w hw)) (fun _ h => h) hown hK hP 0 rfl rfl 1 (by decide) (hts _ jg_1117) (fun _ h9 => h9) rfl dJ5_newCapacity_0f7a4_24 ?_
  refine lv_ishl hx hb dJ5_newCapacity_0f7a4_27 ?_
  refine j_top (show ((nI 2) <<< (0 &&& 31)) = nI 2 from j_shl0 _) ?_
  refine lv_iadd hx hb dJ5_newCapacity_0f7a4_28 ?_
  refine j_top (show ((nI (m0)) + (nI 2)) = nI (m0 + 2) from nI_add _ _) ?_
  refine j_callS (n := 3) (As := [.int (nI (m0)), .int (nI (q0 - m0)), .int (nI (m0 + 2))]) (rest := []) F (c_newLength l D cb A (by omega) (by omega) (by omega) (by omega)) jL_0 trivial hP hD hS jg_1164 jg_1165 jg_41 jg_1166 ⟨by decide, by decide, by decide +kernel⟩ (by decide) (by decide) rfl hl.1 rfl (Nat.le_of_ble_eq_true rfl) dJ5_newCapacity_0f7a4_29 ⟨by omega, by omega⟩ (fun v9 ws9 H locs hP hD hp9 hS => ?_)
  obtain ⟨rfl, hw9⟩ := hp9
  rw [hw9] at hP hD
  refine lv_istore (lv' := [(5, .int (nI (m0 + max (q0 - m0) (m0 + 2)))), (4, .int (nI (q0 - m0))), (3, .int (nI q0)), (2, .int (nI (m0))), (0, .ref b0), (1, .int (nI q0))]) hx hb dJ5_newCapacity_0f7a4_32 hl (by decide) rfl (fun sl hl => ?_)
  refine lv_iload hx hb dJ5_newCapacity_0f7a4_34 (lv_at hl 0 rfl) ?_
  refine lv_ldc (v := nI 2147483647) hx hb hown (hts _ jg_1138) dJ5_newCapacity_0f7a4_36 ?_
  refine lv_icmp_ne (tgt := 51) hx hb dJ5_newCapacity_0f7a4_38 (by decide) (fun _ => ?_) (fun q9 => absurd q9 (by rw [sp_eqn (by omega) (by omega)]; omega))
  refine lv_iload hx hb dJ5_newCapacity_0f7a4_51 (lv_at hl 0 rfl) ?_
  refine lv_aload_n hx hb dJ5_newCapacity_0f7a4_53 rfl (lv_at hl 4 rfl) ?_
  refine va_get (D := D) (ci := 0) (v := .int 0) (C := RJ4) (T := TJ4) (N := 4) hx hb (fun w hw => hts w (j_u4 w hw)) (fun _ h => h) hown hK hP 0 rfl rfl 1 (by decide) (hts _ jg_1117) (fun _ h9 => h9) rfl dJ5_newCapacity_0f7a4_54 ?_
  refine lv_ishr hx hb dJ5_newCapacity_0f7a4_57 ?_
  refine j_top (show ((nI (m0 + max (q0 - m0) (m0 + 2))) >>> (0 &&& 31)) = nI (m0 + max (q0 - m0) (m0 + 2)) from j_shr0 (by omega)) ?_
  exact W.iret hx hb hret (fun t9 ht9 hW9 => ⟨some (.int (nI (m0 + max (q0 - m0) (m0 + 2)))), [(b0, .inr (0, [.ref v0, .int 0, .int l0, .int (nI (n0))])), (v0, .inl (cb, m0, .inl (a0)))], rfl, by rw [ht9]; exact hP, hD, ⟨rfl, rfl⟩, hS.F ht9⟩) hS.2.2 dJ5_newCapacity_0f7a4_58

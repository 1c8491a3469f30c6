/-! ===== contracts: Strings read ===== -/
section JTOP
variable {p : Program} {l : Launch} {e : Env} {R : Room} {s : State} {m : MethodId} {args : Array Value} {below : List Frame} {meth : Method} {c : Code} {H : Heap} {locs : List Loc} {cells slots : Nat} {Q : State → Prop}
theorem j_top {pc : Nat} {sl : Array Slot} {rest : List Value} {x y : Int32} (h : x = y) (k : W p l e R s m args below meth c H locs cells slots Q (F0 m pc sl (.int y :: rest))) : W p l e R s m args below meth c H locs cells slots Q (F0 m pc sl (.int x :: rest)) := by rw [h]; exact k
end JTOP
theorem j_shr0 {n : Nat} (h : n < 2 ^ 31) : nI n >>> ((0 : Int32) &&& 31) = nI n := (pk_shrN h _ 0 (by decide)).trans (by rw [Nat.pow_zero, Nat.div_one])
theorem j_i2c : ∀ q, q < 128 → ((nI q).toUInt32 % 65536).toInt32 = nI q := by decide +kernel
theorem j_shl0 (x : Int32) : x <<< ((0 : Int32) &&& 31) = x := by
  apply Int32.toBitVec_inj.mp
  show x.toBitVec <<< (((0 : Int32) &&& 31).toBitVec.smod 32) = _
  rw [show (((0 : Int32) &&& 31).toBitVec.smod 32) = 0#32 from by decide]
  simp
/-- String.coder -/
theorem c_coder (l : Launch) (D : va_G) (cb : ClassId) (A : Nat → Prop) {h : Nat} {t : List Nat} {ws : va_W} : jM l D cb A (jStr A h t) YJ0_coder_7d493 0 0 0 [.ref h] ws (fun v w => v = some (.int 0) ∧ w = ws) := by
  refine jM_of (by decide) (Nat.le_of_ble_eq_true rfl) ?_
  intro p e R s m args below meth c sl F hnm hret hlk hl hP hD hLf
  obtain ⟨hx, hb, hml, hown, hts, hK, hZ, hA, hRf, hRl, hRc, hRs⟩ := id F
  have hS : va_S A s.heap s.heap [] := va_S.rf
  have hl : lv_has sl 1 [(0, .ref h)] := hl
  obtain ⟨v, hO, hC, hV, hT⟩ := id hLf
  refine va_gets hx hb hZ.1 hS hown (hts _ jg_973) (fun _ h => h) dJ0_coder_7d493_0 ?_
  refine lv_if_eq (tgt := 13) hx hb dJ0_coder_7d493_3 (by decide) (fun q9 => absurd q9 (by decide)) (fun _ => ?_)
  refine lv_aload_n hx hb dJ0_coder_7d493_6 rfl (lv_at hl 0 rfl) ?_
  refine vk_getf hx hb hC hS hown (hts _ jg_1312) (fun _ h => h) dJ0_coder_7d493_7 ?_
  refine lv_goto (tgt := 14) hx hb dJ0_coder_7d493_10 (by decide) ?_
  exact W.zret hx hb hret (rfl) (fun t9 ht9 hW9 => ⟨some (.int (0 : Int32)), ws, rfl, by rw [ht9]; exact hP, hD, ⟨rfl, rfl⟩, hS.F ht9⟩) hS.2.2 dJ0_coder_7d493_14
/-- String.isLatin1 -/
theorem c_isLatin1 (l : Launch) (D : va_G) (cb : ClassId) (A : Nat → Prop) {h : Nat} {t : List Nat} {ws : va_W} : jM l D cb A (jStr A h t) YJ0_isLatin1_aae02 0 0 0 [.ref h] ws (fun v w => v = some (.int 1) ∧ w = ws) := by
  refine jM_of (by decide) (Nat.le_of_ble_eq_true rfl) ?_
  intro p e R s m args below meth c sl F hnm hret hlk hl hP hD hLf
  obtain ⟨hx, hb, hml, hown, hts, hK, hZ, hA, hRf, hRl, hRc, hRs⟩ := id F
  have hS : va_S A s.heap s.heap [] := va_S.rf
  have hl : lv_has sl 1 [(0, .ref h)] := hl
  obtain ⟨v, hO, hC, hV, hT⟩ := id hLf
  refine va_gets hx hb hZ.1 hS hown (hts _ jg_973) (fun _ h => h) dJ0_isLatin1_aae02_0 ?_
  refine lv_if_eq (tgt := 17) hx hb dJ0_isLatin1_aae02_3 (by decide) (fun q9 => absurd q9 (by decide)) (fun _ => ?_)
  refine lv_aload_n hx hb dJ0_isLatin1_aae02_6 rfl (lv_at hl 0 rfl) ?_
  refine vk_getf hx hb hC hS hown (hts _ jg_1312) (fun _ h => h) dJ0_isLatin1_aae02_7 ?_
  refine lv_if_ne (tgt := 17) hx hb dJ0_isLatin1_aae02_10 (by decide) (fun q9 => absurd q9 (fun z => z rfl)) (fun _ => ?_)
  refine lv_iconst (v := nI 1) hx hb dJ0_isLatin1_aae02_13 (by decide) ?_
  refine lv_goto (tgt := 18) hx hb dJ0_isLatin1_aae02_14 (by decide) ?_
  exact W.zret hx hb hret (rfl) (fun t9 ht9 hW9 => ⟨some (.int (nI 1)), ws, rfl, by rw [ht9]; exact hP, hD, ⟨rfl, rfl⟩, hS.F ht9⟩) hS.2.2 dJ0_isLatin1_aae02_18
/-- String.length -/
theorem c_length (l : Launch) (D : va_G) (cb : ClassId) (A : Nat → Prop) {h : Nat} {t : List Nat} {ws : va_W} (hn : t.length < 2 ^ 28) : jM l D cb A (jStr A h t) YJ0_length_8abf5 1 0 0 [.ref h] ws (fun v w => v = some (.int (nI t.length)) ∧ w = ws) := by
  refine jM_of (by decide) (Nat.le_of_ble_eq_true rfl) ?_
  intro p e R s m args below meth c sl F hnm hret hlk hl hP hD hLf
  obtain ⟨hx, hb, hml, hown, hts, hK, hZ, hA, hRf, hRl, hRc, hRs⟩ := id F
  have hS : va_S A s.heap s.heap [] := va_S.rf
  have hl : lv_has sl 1 [(0, .ref h)] := hl
  obtain ⟨v, hO, hC, hV, hT⟩ := id hLf
  refine lv_aload_n hx hb dJ0_length_8abf5_0 rfl (lv_at hl 0 rfl) ?_
  refine vk_getf hx hb hV hS hown (hts _ jg_1311) (fun _ h => h) dJ0_length_8abf5_1 ?_
  refine va_tlen hx hb hT hS (v := nI t.length) rfl dJ0_length_8abf5_4 ?_
  refine lv_aload_n hx hb dJ0_length_8abf5_5 rfl (lv_at hl 0 rfl) ?_
  refine j_callV (n := 0) (As := []) (rest := [.int (nI t.length)]) F (c_coder l D cb A (h := h) (t := t)) jL_str hLf hP hD hS jg_969 jg_970 jg_971 jg_39 jg_972 ⟨by decide, by decide, by decide +kernel⟩ (va_Orecv hO hS) (by decide) (by decide) rfl hl.1 rfl (Nat.le_of_ble_eq_true rfl) dJ0_length_8abf5_6 ⟨by omega, by omega⟩ (fun v9 ws9 H locs hP hD hp9 hS => ?_)
  obtain ⟨rfl, hw9⟩ := hp9
  rw [hw9] at hP hD
  refine lv_ishr hx hb dJ0_length_8abf5_9 ?_
  refine j_top (show ((nI t.length) >>> (0 &&& 31)) = nI t.length from j_shr0 (by omega)) ?_
  exact W.iret hx hb hret (fun t9 ht9 hW9 => ⟨some (.int (nI t.length)), ws, rfl, by rw [ht9]; exact hP, hD, ⟨rfl, rfl⟩, hS.F ht9⟩) hS.2.2 dJ0_length_8abf5_10
/-- Preconditions.checkIndex -/
theorem c_check3 (l : Launch) (D : va_G) (cb : ClassId) (A : Nat → Prop) {i n : Nat} {z : Value} {ws : va_W} (hz : z = .null ∨ ∃ a, z = .ref a) (hi : i < n) (hn : n < 2 ^ 31) : jM l D cb A (fun _ _ => True) YJ3_checkIndex_8e157 0 0 0 [.int (nI i), .int (nI n), z] ws (fun v w => v = some (.int (nI i)) ∧ w = ws) := by
  refine jM_of (by decide) (by rcases hz with rfl | ⟨a, rfl⟩ <;> exact Nat.le_of_ble_eq_true rfl) ?_
  intro p e R s m args below meth c sl F hnm hret hlk hl hP hD hLf
  obtain ⟨hx, hb, hml, hown, hts, hK, hZ, hA, hRf, hRl, hRc, hRs⟩ := id F
  have hS : va_S A s.heap s.heap [] := va_S.rf
  have hl : lv_has sl 3 [(0, .int (nI i)), (1, .int (nI n)), (2, z)] := hl
  refine lv_iload_n hx hb dJ3_checkIndex_8e157_0 rfl (lv_at hl 0 rfl) ?_
  refine lv_if_lt (tgt := 9) hx hb dJ3_checkIndex_8e157_1 (by decide) (fun q9 => absurd q9 (nI_pos (by omega))) (fun _ => ?_)
  refine lv_iload_n hx hb dJ3_checkIndex_8e157_4 rfl (lv_at hl 0 rfl) ?_
  refine lv_iload_n hx hb dJ3_checkIndex_8e157_5 rfl (lv_at hl 1 rfl) ?_
  refine lv_icmp_lt (tgt := 16) hx hb dJ3_checkIndex_8e157_6 (by decide) (fun _ => ?_) (fun q9 => absurd (nI_lt hi (by omega)) q9)
  refine lv_iload_n hx hb dJ3_checkIndex_8e157_16 rfl (lv_at hl 0 rfl) ?_
  exact W.iret hx hb hret (fun t9 ht9 hW9 => ⟨some (.int (nI i)), ws, rfl, by rw [ht9]; exact hP, hD, ⟨rfl, rfl⟩, hS.F ht9⟩) hS.2.2 dJ3_checkIndex_8e157_17
/-- String.checkIndex -/
theorem c_check2 (l : Launch) (D : va_G) (cb : ClassId) (A : Nat → Prop) {i n : Nat} {ws : va_W} (hi : i < n) (hn : n < 2 ^ 31) : jM l D cb A (fun _ _ => True) YJ0_checkIndex_df160 1 0 0 [.int (nI i), .int (nI n)] ws (fun v w => v = none ∧ w = ws) := by
  refine jM_of (by decide) (Nat.le_of_ble_eq_true rfl) ?_
  intro p e R s m args below meth c sl F hnm hret hlk hl hP hD hLf
  obtain ⟨hx, hb, hml, hown, hts, hK, hZ, hA, hRf, hRl, hRc, hRs⟩ := id F
  have hS : va_S A s.heap s.heap [] := va_S.rf
  have hl : lv_has sl 2 [(0, .int (nI i)), (1, .int (nI n))] := hl
  obtain ⟨z, hz, hzv⟩ : ∃ z, va_Z RJ3 "SIOOBE_FORMATTER" "Ljava/util/function/BiFunction;" z A s s.heap ∧ (z = .null ∨ ∃ a, z = .ref a) := hZ.2.2.2.elim (fun q => ⟨_, q, Or.inl rfl⟩) (fun q => ⟨_, q.choose_spec, Or.inr ⟨_, rfl⟩⟩)
  refine lv_iload_n hx hb dJ0_checkIndex_df160_0 rfl (lv_at hl 0 rfl) ?_
  refine lv_iload_n hx hb dJ0_checkIndex_df160_1 rfl (lv_at hl 1 rfl) ?_
  refine va_gets hx hb hz hS hown (hts _ jg_989) (fun _ h => h) dJ0_checkIndex_df160_2 ?_
  refine j_callS (n := 3) (As := [.int (nI i), .int (nI n), z]) (rest := []) F (c_check3 l D cb A hzv hi hn) jL_0 trivial hP hD hS jg_991 jg_992 jg_44 jg_993 ⟨by decide, by decide, by decide +kernel⟩ (by decide) (by decide) rfl hl.1 rfl (Nat.le_of_ble_eq_true rfl) dJ0_checkIndex_df160_5 ⟨by omega, by omega⟩ (fun v9 ws9 H locs hP hD hp9 hS => ?_)
  obtain ⟨rfl, hw9⟩ := hp9
  rw [hw9] at hP hD
  refine lv_pop hx hb dJ0_checkIndex_df160_8 rfl ?_
  exact W.vret hx hb hret (fun t9 ht9 hW9 => ⟨none, ws, rfl, by rw [ht9]; exact hP, hD, ⟨rfl, rfl⟩, hS.F ht9⟩) hS.2.2 dJ0_checkIndex_df160_9
/-- StringLatin1.charAt -/
theorem c_charAt1 (l : Launch) (D : va_G) (cb : ClassId) (A : Nat → Prop) {v i : Nat} {t : List Nat} {ws : va_W} (hi : i < t.length) (hn : t.length < 2 ^ 28) (hc : t.getD i 0 < 128) : jM l D cb A (fun U H => va_T .byte v t.length (fun j => .int (nI (t.getD j 0))) A U H) YJ1_charAt_3b067 2 0 0 [.ref v, .int (nI i)] ws (fun v w => v = some (.int (nI (t.getD i 0))) ∧ w = ws) := by
  refine jM_of (by decide) (Nat.le_of_ble_eq_true rfl) ?_
  intro p e R s m args below meth c sl F hnm hret hlk hl hP hD hLf
  obtain ⟨hx, hb, hml, hown, hts, hK, hZ, hA, hRf, hRl, hRc, hRs⟩ := id F
  have hS : va_S A s.heap s.heap [] := va_S.rf
  have hl : lv_has sl 2 [(0, .ref v), (1, .int (nI i))] := hl
  refine lv_iload_n hx hb dJ1_charAt_3b067_0 rfl (lv_at hl 1 rfl) ?_
  refine lv_aload_n hx hb dJ1_charAt_3b067_1 rfl (lv_at hl 0 rfl) ?_
  refine va_tlen hx hb hLf hS (v := nI t.length) rfl dJ1_charAt_3b067_2 ?_
  refine j_callS (n := 2) (As := [.int (nI i), .int (nI t.length)]) (rest := []) F (c_check2 l D cb A hi (by omega)) jL_0 trivial hP hD hS jg_986 jg_987 jg_39 jg_988 ⟨by decide, by decide, by decide +kernel⟩ (by decide) (by decide) rfl hl.1 rfl (Nat.le_of_ble_eq_true rfl) dJ1_charAt_3b067_3 ⟨by omega, by omega⟩ (fun v9 ws9 H locs hP hD hp9 hS => ?_)
  obtain ⟨rfl, hw9⟩ := hp9
  rw [hw9] at hP hD
  refine lv_aload_n hx hb dJ1_charAt_3b067_6 rfl (lv_at hl 0 rfl) ?_
  refine lv_iload_n hx hb dJ1_charAt_3b067_7 rfl (lv_at hl 1 rfl) ?_
  refine va_tb hx hb hLf hS (vp_in_nI hi (by omega)) (v := .int (nI (t.getD i 0))) (by rw [nI_clamp (by omega)]) dJ1_charAt_3b067_8 ?_
  refine lv_sipush (v := nI 255) hx hb dJ1_charAt_3b067_9 (by decide) ?_
  refine lv_iand hx hb dJ1_charAt_3b067_12 ?_
  refine j_top (show ((nI (t.getD i 0)) &&& (nI 255)) = nI (t.getD i 0) from (pk_andN (by omega) 8 (by decide)).trans (congrArg nI (Nat.mod_eq_of_lt (by omega)))) ?_
  refine lv_i2c (v := nI (t.getD i 0)) hx hb dJ1_charAt_3b067_13 (j_i2c _ hc) ?_
  exact W.zret hx hb hret ((pk_charN (by omega)).1) (fun t9 ht9 hW9 => ⟨some (.int (nI (t.getD i 0))), ws, rfl, by rw [ht9]; exact hP, hD, ⟨rfl, rfl⟩, hS.F ht9⟩) hS.2.2 dJ1_charAt_3b067_14
/-- String.charAt -/
theorem c_charAt (l : Launch) (D : va_G) (cb : ClassId) (A : Nat → Prop) {h i : Nat} {t : List Nat} {ws : va_W} (hi : i < t.length) (hn : t.length < 2 ^ 28) (hc : t.getD i 0 < 128) : jM l D cb A (jStr A h t) YJ0_charAt_5068e 3 0 0 [.ref h, .int (nI i)] ws (fun v w => v = some (.int (nI (t.getD i 0))) ∧ w = ws) := by
  refine jM_of (by decide) (Nat.le_of_ble_eq_true rfl) ?_
  intro p e R s m args below meth c sl F hnm hret hlk hl hP hD hLf
  obtain ⟨hx, hb, hml, hown, hts, hK, hZ, hA, hRf, hRl, hRc, hRs⟩ := id F
  have hS : va_S A s.heap s.heap [] := va_S.rf
  have hl : lv_has sl 2 [(0, .ref h), (1, .int (nI i))] := hl
  obtain ⟨v, hO, hC, hV, hT⟩ := id hLf
  refine lv_aload_n hx hb dJ0_charAt_5068e_0 rfl (lv_at hl 0 rfl) ?_
  refine j_callV (n := 0) (As := []) (rest := []) F (c_isLatin1 l D cb A (h := h) (t := t)) jL_str hLf hP hD hS jg_979 jg_980 jg_981 jg_39 jg_982 ⟨by decide, by decide, by decide +kernel⟩ (va_Orecv hO hS) (by decide) (by decide) rfl hl.1 rfl (Nat.le_of_ble_eq_true rfl) dJ0_charAt_5068e_1 ⟨by omega, by omega⟩ (fun v9 ws9 H locs hP hD hp9 hS => ?_)
  obtain ⟨rfl, hw9⟩ := hp9
  rw [hw9] at hP hD
  refine lv_if_eq (tgt := 16) hx hb dJ0_charAt_5068e_4 (by decide) (fun q9 => absurd q9 (by decide)) (fun _ => ?_)
  refine lv_aload_n hx hb dJ0_charAt_5068e_7 rfl (lv_at hl 0 rfl) ?_
  refine vk_getf hx hb hV hS hown (hts _ jg_1311) (fun _ h => h) dJ0_charAt_5068e_8 ?_
  refine lv_iload_n hx hb dJ0_charAt_5068e_11 rfl (lv_at hl 1 rfl) ?_
  refine j_callS (n := 2) (As := [.ref v, .int (nI i)]) (rest := []) F (c_charAt1 l D cb A hi hn hc) jL_T hT hP hD hS jg_983 jg_984 jg_45 jg_985 ⟨by decide, by decide, by decide +kernel⟩ (by decide) (by decide) rfl hl.1 rfl (Nat.le_of_ble_eq_true rfl) dJ0_charAt_5068e_12 ⟨by omega, by omega⟩ (fun v9 ws9 H locs hP hD hp9 hS => ?_)
  obtain ⟨rfl, hw9⟩ := hp9
  rw [hw9] at hP hD
  exact W.zret hx hb hret ((pk_charN (by omega)).1) (fun t9 ht9 hW9 => ⟨some (.int (nI (t.getD i 0))), ws, rfl, by rw [ht9]; exact hP, hD, ⟨rfl, rfl⟩, hS.F ht9⟩) hS.2.2 dJ0_charAt_5068e_15

/-! ===== contracts: append(int), toString ===== -/
theorem j_textI {t1 t : List Nat} {a0 a1 a2 : Nat → Int32} {m0 : Nat} (hn : t1.length ≤ m0) (ha : ∀ j, j < t1.length → a0 j = nI (t1.getD j 0)) (h1 : ∀ j, j < m0 → a1 j = a0 j) (h2 : ∀ j, j < t1.length + t.length - t.length → a2 j = a1 j) (h3 : ∀ i, i < t.length → a2 (t1.length + t.length - t.length + i) = nI (t.getD i 0)) : ∀ j, j < (t1 ++ t).length → a2 j = nI ((t1 ++ t).getD j 0) := by
  intro j hj
  rw [List.length_append] at hj
  rw [Nat.add_sub_cancel] at h2 h3
  by_cases c : j < t1.length
  · rw [h2 j c, h1 j (by omega), ha j c, List.getD_eq_getElem?_getD, List.getD_eq_getElem?_getD, List.getElem?_append_left c]
  · have := h3 (j - t1.length) (by omega)
    rw [show t1.length + (j - t1.length) = j by omega] at this
    rw [this, List.getD_eq_getElem?_getD, List.getD_eq_getElem?_getD, List.getElem?_append_right (by omega)]
/-- AbstractStringBuilder.append(int) -/
theorem c_appendAI (l : Launch) (D : va_G) (cb : ClassId) (A : Nat → Prop) {b0 m0 x0 : Nat} {t1 : List Nat} {ws : va_W} (hw : jBld cb b0 m0 t1 ws) (hv : x0 < 100) (hlen : t1.length + 2 ≤ 60) : jM l D cb A (fun _ _ => True) YJ5_append_c97b9 4 1 122 [.ref b0, .int (nI x0)] ws (fun v w => v = some (.ref b0) ∧ jBld cb b0 (jcap m0 (t1.length + (dgL x0).length)) (t1 ++ dgL x0) w) := by
  obtain ⟨v0, l0, a0, rfl, hn, hm, ha, hf⟩ := hw
  refine jM_of (by decide) (Nat.le_of_ble_eq_true rfl) ?_
  intro p e R s m args below meth c sl F hnm hret hlk hl hP hD hLf
  obtain ⟨hx, hb, hml, hown, hts, hK, hZ, hA, hRf, hRl, hRc, hRs⟩ := id F
  have hS : va_S A s.heap s.heap [] := va_S.rf
  have hl : lv_has sl 4 [(0, .ref b0), (1, .int (nI x0))] := hl
  have hdl : (dgL x0).length ≤ 2 := by rw [j_dl hv]; split <;> omega
  refine lv_aload_n hx hb dJ5_append_c97b9_0 rfl (lv_at hl 0 rfl) ?_
  refine va_get (D := D) (ci := 0) (v := .int (nI t1.length)) (C := RJ4) (T := TJ4) (N := 4) hx hb (fun w hw => hts w (j_u4 w hw)) (fun _ h => h) hown hK hP 0 rfl rfl 3 (by decide) (hts _ jg_1119) (fun _ h9 => h9) rfl dJ5_append_c97b9_1 ?_
  refine lv_istore_n (lv' := [(2, .int (nI t1.length)), (0, .ref b0), (1, .int (nI x0))]) hx hb dJ5_append_c97b9_4 rfl hl (by decide) rfl (fun sl hl => ?_)
  refine lv_iload_n hx hb dJ5_append_c97b9_5 rfl (lv_at hl 0 rfl) ?_
  refine lv_iload_n hx hb dJ5_append_c97b9_6 rfl (lv_at hl 2 rfl) ?_
  refine j_callS (n := 1) (As := [.int (nI x0)]) (rest := [.int (nI t1.length)]) F (c_stringSize l D cb A hv) jL_0 trivial hP hD hS jg_1247 jg_1248 jg_47 jg_1249 ⟨by decide, by decide, by decide +kernel⟩ (by decide) (by decide) rfl hl.1 rfl (Nat.le_of_ble_eq_true rfl) dJ5_append_c97b9_7 ⟨by omega, by omega⟩ (fun v9 ws9 H locs hP hD hp9 hS => ?_)
  obtain ⟨rfl, hw9⟩ := hp9
  rw [hw9] at hP hD
  refine lv_iadd hx hb dJ5_append_c97b9_10 ?_
  refine j_top (show ((nI t1.length) + (nI (dgL x0).length)) = nI (t1.length + (dgL x0).length) from nI_add _ _) ?_
  refine lv_istore_n (lv' := [(3, .int (nI (t1.length + (dgL x0).length))), (2, .int (nI t1.length)), (0, .ref b0), (1, .int (nI x0))]) hx hb dJ5_append_c97b9_11 rfl hl (by decide) rfl (fun sl hl => ?_)
  refine lv_aload_n hx hb dJ5_append_c97b9_12 rfl (lv_at hl 2 rfl) ?_
  refine lv_iload_n hx hb dJ5_append_c97b9_13 rfl (lv_at hl 0 rfl) ?_
  refine j_callU (n := 1) (C := RJ4) (owner := RJ5) (y := yJ5_ensureCapacityInternal_d00df) (As := [.int (nI (t1.length + (dgL x0).length))]) (rest := []) F (c_ensure l D cb A hm (by omega) hf) jL_0 trivial hP hD hS jg_1156 jg_1158 (hts _ jp_0) jg_1330 jg_1158 jg_1159 jg_37 jg_1159 ⟨by decide, by decide, by decide +kernel⟩ (va_recv hK hP (ci := 0) (q0 := 0) rfl rfl) (by decide) (by decide) rfl hl.1 rfl (Nat.le_of_ble_eq_true rfl) dJ5_append_c97b9_14 ⟨by omega, by omega⟩ (fun v9 ws9 H locs hP hD hp9 hS => ?_)
  obtain ⟨rfl, v1, a1, hw9, ha1, hf1⟩ := hp9
  have hq1 := jcap_ge (m := m0) (q := t1.length + (dgL x0).length)
  have hm1 := jcap_le (m := m0) (q := t1.length + (dgL x0).length) hm (by omega)
  obtain ⟨m1, em1⟩ : ∃ m1, jcap m0 (t1.length + (dgL x0).length) = m1 := ⟨_, rfl⟩
  rw [em1] at hw9 hq1 hm1
  rw [hw9] at hP hD
  refine lv_aload_n hx hb dJ5_append_c97b9_17 rfl (lv_at hl 2 rfl) ?_
  refine j_callU (n := 0) (C := RJ4) (owner := RJ5) (y := yJ5_isLatin1_aae02) (As := []) (rest := []) F (c_isLatin1B l D cb A ) jL_0 trivial hP hD hS jg_1186 jg_1187 (hts _ jg_1189) jg_1188 jg_1187 jg_1190 jg_37 jg_1190 ⟨by decide, by decide, by decide +kernel⟩ (va_recv hK hP (ci := 0) (q0 := 0) rfl rfl) (by decide) (by decide) rfl hl.1 rfl (Nat.le_of_ble_eq_true rfl) dJ5_append_c97b9_18 ⟨by omega, by omega⟩ (fun v9 ws9 H locs hP hD hp9 hS => ?_)
  obtain ⟨rfl, hw9⟩ := hp9
  rw [hw9] at hP hD
  refine lv_if_eq (tgt := 37) hx hb dJ5_append_c97b9_21 (by decide) (fun q9 => absurd q9 (by decide)) (fun _ => ?_)
  refine lv_iload_n hx hb dJ5_append_c97b9_24 rfl (lv_at hl 3 rfl) ?_
  refine lv_iload_n hx hb dJ5_append_c97b9_25 rfl (lv_at hl 0 rfl) ?_
  refine lv_aload_n hx hb dJ5_append_c97b9_26 rfl (lv_at hl 2 rfl) ?_
  refine va_get (D := D) (ci := 0) (v := .ref v1) (C := RJ4) (T := TJ4) (N := 4) hx hb (fun w hw => hts w (j_u4 w hw)) (fun _ h => h) hown hK hP 0 rfl rfl 0 (by decide) (hts _ jg_1116) (fun _ h9 => h9) rfl dJ5_append_c97b9_27 ?_
  refine j_callS (n := 3) (As := [.int (nI x0), .int (nI (t1.length + (dgL x0).length)), .ref v1]) (rest := []) F (c_getChars l D cb A hv (Nat.le_add_left _ _) hq1 (by omega) hf1) jL_0 trivial hP hD hS jg_1250 jg_1251 jg_47 jg_1252 ⟨by decide, by decide, by decide +kernel⟩ (by decide) (by decide) rfl hl.1 rfl (Nat.le_of_ble_eq_true rfl) dJ5_append_c97b9_30 ⟨by omega, by omega⟩ (fun v9 ws9 H locs hP hD hp9 hS => ?_)
  obtain ⟨r9, a2, rfl, hw9, hg1, hg2, hg3⟩ := hp9
  rw [hw9] at hP hD
  refine lv_pop hx hb dJ5_append_c97b9_33 rfl ?_
  refine lv_goto (tgt := 48) hx hb dJ5_append_c97b9_34 (by decide) ?_
  refine lv_aload_n hx hb dJ5_append_c97b9_48 rfl (lv_at hl 2 rfl) ?_
  refine lv_iload_n hx hb dJ5_append_c97b9_49 rfl (lv_at hl 0 rfl) ?_
  refine va_put (D := D) (ci := 0) (v := .int (nI (t1.length + (dgL x0).length))) (ty := .int) (C := RJ4) (T := TJ4) (N := 4) hx hb (fun w hw => hts w (j_u4 w hw)) (fun _ h => h) tyJ4 tyJ4_ok nmJ4 hown hK hP hD hS 0 rfl rfl 3 (by decide) (hts _ jg_1119) (fun _ h9 => h9) rfl (by decide +kernel) rfl rfl (Nat.le_of_ble_eq_true rfl) dJ5_append_c97b9_50 (fun H locs hP hD hS => ?_)
  have hP : va_P D jcl [(b0, .inr (0, [.ref v1, .int 0, .int l0, .int (nI (t1.length + (dgL x0).length))])), (v1, .inl (cb, m1, .inl (a2)))] H := hP
  have hD : va_D A [(b0, .inr (0, [.ref v1, .int 0, .int l0, .int (nI (t1.length + (dgL x0).length))])), (v1, .inl (cb, m1, .inl (a2)))] := hD
  refine lv_aload_n hx hb dJ5_append_c97b9_53 rfl (lv_at hl 2 rfl) ?_
  refine W.widen (k := 1) (n := 122) (by omega) (by omega) ?_
  exact W.aret hx hb hret (Or.inl ⟨_, rfl⟩) (Or.inr ⟨_, rfl⟩) (fun t9 ht9 hW9 => ⟨some (.ref b0), [(b0, .inr (0, [.ref v1, .int 0, .int l0, .int (nI (t1.length + (dgL x0).length))])), (v1, .inl (cb, m1, .inl (a2)))], rfl, by rw [ht9]; exact hP, hD, ⟨rfl, v1, l0, a2, by rw [List.length_append, em1], by rw [List.length_append, em1]; exact hq1, by rw [em1]; exact hm1, j_textI (by omega) ha ha1 hg1 hg2, hg3⟩, hS.F ht9⟩) hS.2.2 dJ5_append_c97b9_54
/-- StringBuilder.append(int) -/
theorem c_appendI (l : Launch) (D : va_G) (cb : ClassId) (A : Nat → Prop) {b0 m0 x0 : Nat} {t1 : List Nat} {ws : va_W} (hw : jBld cb b0 m0 t1 ws) (hv : x0 < 100) (hlen : t1.length + 2 ≤ 60) : jM l D cb A (fun _ _ => True) YJ4_append_bf812 5 1 122 [.ref b0, .int (nI x0)] ws (fun v w => v = some (.ref b0) ∧ jBld cb b0 (jcap m0 (t1.length + (dgL x0).length)) (t1 ++ dgL x0) w) := by
  refine jM_of (by decide) (Nat.le_of_ble_eq_true rfl) ?_
  intro p e R s m args below meth c sl F hnm hret hlk hl hP hD hLf
  obtain ⟨hx, hb, hml, hown, hts, hK, hZ, hA, hRf, hRl, hRc, hRs⟩ := id F
  have hS : va_S A s.heap s.heap [] := va_S.rf
  have hl : lv_has sl 2 [(0, .ref b0), (1, .int (nI x0))] := hl
  have hrc : ∃ cellB : Cell, s.heap[b0]? = some cellB ∧ cellB.vm.isStatics = false ∧ s.vm.findClass RJ4 = some cellB.cls := by obtain ⟨v0, l0, a0, rfl, -⟩ := id hw; exact va_recv hK hP (ci := 0) (q0 := 0) rfl rfl
  refine lv_aload_n hx hb dJ4_append_bf812_0 rfl (lv_at hl 0 rfl) ?_
  refine lv_iload_n hx hb dJ4_append_bf812_1 rfl (lv_at hl 1 rfl) ?_
  refine j_callSU (n := 1) (C := RJ4) (cC := D.1 0) (As := [.int (nI x0)]) (rest := []) (hK.1 0 _ rfl).2 F (c_appendAI l D cb A hw hv hlen) jL_0 trivial hP hD hS jg_1244 jg_1245 jg_1335 jg_1128 jg_37 jg_1246 ⟨by decide, by decide +kernel⟩ hrc (by decide) (by decide) rfl hl.1 rfl (Nat.le_of_ble_eq_true rfl) dJ4_append_bf812_2 ⟨by omega, by omega⟩ (fun v9 ws9 H locs hP hD hp9 hS => ?_)
  obtain ⟨rfl, hw9⟩ := hp9
  refine lv_pop hx hb dJ4_append_bf812_5 rfl ?_
  refine lv_aload_n hx hb dJ4_append_bf812_6 rfl (lv_at hl 0 rfl) ?_
  refine W.widen (k := 1) (n := 122) (by omega) (by omega) ?_
  exact W.aret hx hb hret (Or.inl ⟨_, rfl⟩) (Or.inr ⟨_, rfl⟩) (fun t9 ht9 hW9 => ⟨some (.ref b0), ws9, rfl, by rw [ht9]; exact hP, hD, ⟨rfl, hw9⟩, hS.F ht9⟩) hS.2.2 dJ4_append_bf812_7

/-! ===== contracts: append(String), the constructors ===== -/
theorem j_text {t1 t : List Nat} {a0 a1 : Nat → Int32} {m0 : Nat} (hn : t1.length ≤ m0) (ha : ∀ j, j < t1.length → a0 j = nI (t1.getD j 0)) (h1 : ∀ j, j < m0 → a1 j = a0 j) : ∀ j, j < (t1 ++ t).length → va_cpy (fun j => nI (t.getD j 0)) a1 0 t1.length t.length j = nI ((t1 ++ t).getD j 0) := by
  intro j hj
  rw [List.length_append] at hj
  by_cases c : j < t1.length
  · rw [j_cpyO (Or.inl c), h1 j (by omega), ha j c, List.getD_eq_getElem?_getD, List.getD_eq_getElem?_getD, List.getElem?_append_left c]
  · rw [j_cpy (by omega) (by omega), List.getD_eq_getElem?_getD, List.getD_eq_getElem?_getD, List.getElem?_append_right (by omega)]
/-- AbstractStringBuilder.append(String) -/
theorem c_appendA (l : Launch) (D : va_G) (cb : ClassId) (A : Nat → Prop) {b0 m0 h : Nat} {t1 t : List Nat} {ws : va_W} (hw : jBld cb b0 m0 t1 ws) (hc : ∀ j, t.getD j 0 < 128) (hlen : t1.length + t.length ≤ 60) : jM l D cb A (jStr A h t) YJ5_append_cf1ce 4 1 122 [.ref b0, .ref h] ws (fun v w => v = some (.ref b0) ∧ jBld cb b0 (jcap m0 (t1.length + t.length)) (t1 ++ t) w) := by
  obtain ⟨v0, l0, a0, rfl, hn, hm, ha, hf⟩ := hw
  refine jM_of (by decide) (Nat.le_of_ble_eq_true rfl) ?_
  intro p e R s m args below meth c sl F hnm hret hlk hl hP hD hLf
  obtain ⟨hx, hb, hml, hown, hts, hK, hZ, hA, hRf, hRl, hRc, hRs⟩ := id F
  have hS : va_S A s.heap s.heap [] := va_S.rf
  have hl : lv_has sl 3 [(0, .ref b0), (1, .ref h)] := hl
  obtain ⟨v, hO, hC, hV, hT⟩ := id hLf
  refine lv_aload_n hx hb dJ5_append_cf1ce_0 rfl (lv_at hl 1 rfl) ?_
  refine lv_ifnonnull (tgt := 9) hx hb dJ5_append_cf1ce_1 (by decide) ?_
  refine lv_aload_n hx hb dJ5_append_cf1ce_9 rfl (lv_at hl 1 rfl) ?_
  refine j_callV (n := 0) (As := []) (rest := []) F (c_length l D cb A (h := h) (t := t) (by omega)) jL_str hLf hP hD hS jg_1136 jg_966 jg_967 jg_39 jg_968 ⟨by decide, by decide, by decide +kernel⟩ (va_Orecv hO hS) (by decide) (by decide) rfl hl.1 rfl (Nat.le_of_ble_eq_true rfl) dJ5_append_cf1ce_10 ⟨by omega, by omega⟩ (fun v9 ws9 H locs hP hD hp9 hS => ?_)
  obtain ⟨rfl, hw9⟩ := hp9
  rw [hw9] at hP hD
  refine lv_istore_n (lv' := [(2, .int (nI t.length)), (0, .ref b0), (1, .ref h)]) hx hb dJ5_append_cf1ce_13 rfl hl (by decide) rfl (fun sl hl => ?_)
  refine lv_aload_n hx hb dJ5_append_cf1ce_14 rfl (lv_at hl 1 rfl) ?_
  refine lv_aload_n hx hb dJ5_append_cf1ce_15 rfl (lv_at hl 1 rfl) ?_
  refine va_get (D := D) (ci := 0) (v := .int (nI t1.length)) (C := RJ4) (T := TJ4) (N := 4) hx hb (fun w hw => hts w (j_u4 w hw)) (fun _ h => h) hown hK hP 0 rfl rfl 3 (by decide) (hts _ jg_1119) (fun _ h9 => h9) rfl dJ5_append_cf1ce_16 ?_
  refine lv_iload_n hx hb dJ5_append_cf1ce_19 rfl (lv_at hl 0 rfl) ?_
  refine lv_iadd hx hb dJ5_append_cf1ce_20 ?_
  refine j_top (show ((nI t1.length) + (nI t.length)) = nI (t1.length + t.length) from nI_add _ _) ?_
  refine j_callU (n := 1) (C := RJ4) (owner := RJ5) (y := yJ5_ensureCapacityInternal_d00df) (As := [.int (nI (t1.length + t.length))]) (rest := []) F (c_ensure l D cb A hm hlen hf) jL_0 trivial hP hD hS jg_1156 jg_1158 (hts _ jp_0) jg_1330 jg_1158 jg_1159 jg_37 jg_1159 ⟨by decide, by decide, by decide +kernel⟩ (va_recv hK hP (ci := 0) (q0 := 0) rfl rfl) (by decide) (by decide) rfl hl.1 rfl (Nat.le_of_ble_eq_true rfl) dJ5_append_cf1ce_21 ⟨by omega, by omega⟩ (fun v9 ws9 H locs hP hD hp9 hS => ?_)
  obtain ⟨rfl, v1, a1, hw9, ha1, hf1⟩ := hp9
  have hq1 := jcap_ge (m := m0) (q := t1.length + t.length)
  have hm1 := jcap_le (m := m0) (q := t1.length + t.length) hm hlen
  obtain ⟨m1, em1⟩ : ∃ m1, jcap m0 (t1.length + t.length) = m1 := ⟨_, rfl⟩
  rw [em1] at hw9 hq1 hm1
  rw [hw9] at hP hD
  refine lv_aload_n hx hb dJ5_append_cf1ce_24 rfl (lv_at hl 1 rfl) ?_
  refine lv_aload_n hx hb dJ5_append_cf1ce_25 rfl (lv_at hl 1 rfl) ?_
  refine va_get (D := D) (ci := 0) (v := .int (nI t1.length)) (C := RJ4) (T := TJ4) (N := 4) hx hb (fun w hw => hts w (j_u4 w hw)) (fun _ h => h) hown hK hP 0 rfl rfl 3 (by decide) (hts _ jg_1119) (fun _ h9 => h9) rfl dJ5_append_cf1ce_26 ?_
  refine lv_aload_n hx hb dJ5_append_cf1ce_29 rfl (lv_at hl 2 rfl) ?_
  refine j_callU (n := 2) (C := RJ4) (owner := RJ5) (y := yJ5_putStringAt_47b60) (As := [.int (nI t1.length), .ref h]) (rest := []) F (c_putString l D cb A hc hq1 (by omega)) jL_str hLf hP hD hS jg_1206 jg_1208 (hts _ jp_2) jg_1332 jg_1208 jg_1209 jg_37 jg_1209 ⟨by decide, by decide, by decide +kernel⟩ (va_recv hK hP (ci := 0) (q0 := 0) rfl rfl) (by decide) (by decide) rfl hl.1 rfl (Nat.le_of_ble_eq_true rfl) dJ5_append_cf1ce_30 ⟨by omega, by omega⟩ (fun v9 ws9 H locs hP hD hp9 hS => ?_)
  obtain ⟨rfl, hw9⟩ := hp9
  rw [hw9] at hP hD
  have hP : va_P D jcl [(b0, .inr (0, [.ref v1, .int 0, .int l0, .int (nI (t1.length))])), (v1, .inl (cb, m1, .inl (va_cpy (fun j => nI (t.getD j 0)) a1 0 t1.length t.length)))] H := hP
  have hD : va_D A [(b0, .inr (0, [.ref v1, .int 0, .int l0, .int (nI (t1.length))])), (v1, .inl (cb, m1, .inl (va_cpy (fun j => nI (t.getD j 0)) a1 0 t1.length t.length)))] := hD
  refine lv_aload_n hx hb dJ5_append_cf1ce_33 rfl (lv_at hl 1 rfl) ?_
  refine lv_dup hx hb dJ5_append_cf1ce_34 rfl ?_
  refine va_get (D := D) (ci := 0) (v := .int (nI t1.length)) (C := RJ4) (T := TJ4) (N := 4) hx hb (fun w hw => hts w (j_u4 w hw)) (fun _ h => h) hown hK hP 0 rfl rfl 3 (by decide) (hts _ jg_1119) (fun _ h9 => h9) rfl dJ5_append_cf1ce_35 ?_
  refine lv_iload_n hx hb dJ5_append_cf1ce_38 rfl (lv_at hl 0 rfl) ?_
  refine lv_iadd hx hb dJ5_append_cf1ce_39 ?_
  refine j_top (show ((nI t1.length) + (nI t.length)) = nI (t1.length + t.length) from nI_add _ _) ?_
  refine va_put (D := D) (ci := 0) (v := .int (nI (t1.length + t.length))) (ty := .int) (C := RJ4) (T := TJ4) (N := 4) hx hb (fun w hw => hts w (j_u4 w hw)) (fun _ h => h) tyJ4 tyJ4_ok nmJ4 hown hK hP hD hS 0 rfl rfl 3 (by decide) (hts _ jg_1119) (fun _ h9 => h9) rfl (by decide +kernel) rfl rfl (Nat.le_of_ble_eq_true rfl) dJ5_append_cf1ce_40 (fun H locs hP hD hS => ?_)
  have hP : va_P D jcl [(b0, .inr (0, [.ref v1, .int 0, .int l0, .int (nI (t1.length + t.length))])), (v1, .inl (cb, m1, .inl (va_cpy (fun j => nI (t.getD j 0)) a1 0 t1.length t.length)))] H := hP
  have hD : va_D A [(b0, .inr (0, [.ref v1, .int 0, .int l0, .int (nI (t1.length + t.length))])), (v1, .inl (cb, m1, .inl (va_cpy (fun j => nI (t.getD j 0)) a1 0 t1.length t.length)))] := hD
  refine lv_aload_n hx hb dJ5_append_cf1ce_43 rfl (lv_at hl 1 rfl) ?_
  refine W.widen (k := 1) (n := 122) (by omega) (by omega) ?_
  exact W.aret hx hb hret (Or.inl ⟨_, rfl⟩) (Or.inr ⟨_, rfl⟩) (fun t9 ht9 hW9 => ⟨some (.ref b0), [(b0, .inr (0, [.ref v1, .int 0, .int l0, .int (nI (t1.length + t.length))])), (v1, .inl (cb, m1, .inl (va_cpy (fun j => nI (t.getD j 0)) a1 0 t1.length t.length)))], rfl, by rw [ht9]; exact hP, hD, ⟨rfl, v1, l0, _, by rw [List.length_append, em1], by rw [List.length_append, em1]; exact hq1, by rw [em1]; exact hm1, j_text (by omega) ha ha1, j_cpyF (fun j _ => j_fitsB (hc j)) hf1⟩, hS.F ht9⟩) hS.2.2 dJ5_append_cf1ce_44
/-- StringBuilder.append(String) -/
theorem c_append (l : Launch) (D : va_G) (cb : ClassId) (A : Nat → Prop) {b0 m0 h : Nat} {t1 t : List Nat} {ws : va_W} (hw : jBld cb b0 m0 t1 ws) (hc : ∀ j, t.getD j 0 < 128) (hlen : t1.length + t.length ≤ 60) : jM l D cb A (jStr A h t) YJ4_append_15ec4 5 1 122 [.ref b0, .ref h] ws (fun v w => v = some (.ref b0) ∧ jBld cb b0 (jcap m0 (t1.length + t.length)) (t1 ++ t) w) := by
  refine jM_of (by decide) (Nat.le_of_ble_eq_true rfl) ?_
  intro p e R s m args below meth c sl F hnm hret hlk hl hP hD hLf
  obtain ⟨hx, hb, hml, hown, hts, hK, hZ, hA, hRf, hRl, hRc, hRs⟩ := id F
  have hS : va_S A s.heap s.heap [] := va_S.rf
  have hl : lv_has sl 2 [(0, .ref b0), (1, .ref h)] := hl
  have hrc : ∃ cellB : Cell, s.heap[b0]? = some cellB ∧ cellB.vm.isStatics = false ∧ s.vm.findClass RJ4 = some cellB.cls := by obtain ⟨v0, l0, a0, rfl, -⟩ := id hw; exact va_recv hK hP (ci := 0) (q0 := 0) rfl rfl
  refine lv_aload_n hx hb dJ4_append_15ec4_0 rfl (lv_at hl 0 rfl) ?_
  refine lv_aload_n hx hb dJ4_append_15ec4_1 rfl (lv_at hl 1 rfl) ?_
  refine j_callSU (n := 1) (C := RJ4) (cC := D.1 0) (As := [.ref h]) (rest := []) (hK.1 0 _ rfl).2 F (c_appendA l D cb A hw hc hlen) jL_str hLf hP hD hS jg_1150 jg_1141 jg_1142 jg_1128 jg_37 jg_1151 ⟨by decide, by decide +kernel⟩ hrc (by decide) (by decide) rfl hl.1 rfl (Nat.le_of_ble_eq_true rfl) dJ4_append_15ec4_2 ⟨by omega, by omega⟩ (fun v9 ws9 H locs hP hD hp9 hS => ?_)
  obtain ⟨rfl, hw9⟩ := hp9
  refine lv_pop hx hb dJ4_append_15ec4_5 rfl ?_
  refine lv_aload_n hx hb dJ4_append_15ec4_6 rfl (lv_at hl 0 rfl) ?_
  refine W.widen (k := 1) (n := 122) (by omega) (by omega) ?_
  exact W.aret hx hb hret (Or.inl ⟨_, rfl⟩) (Or.inr ⟨_, rfl⟩) (fun t9 ht9 hW9 => ⟨some (.ref b0), ws9, rfl, by rw [ht9]; exact hP, hD, ⟨rfl, hw9⟩, hS.F ht9⟩) hS.2.2 dJ4_append_15ec4_7
/-- StringBuilder.append(String), as AbstractStringBuilder names it -/
theorem c_bridge (l : Launch) (D : va_G) (cb : ClassId) (A : Nat → Prop) {b0 m0 h : Nat} {t1 t : List Nat} {ws : va_W} (hw : jBld cb b0 m0 t1 ws) (hc : ∀ j, t.getD j 0 < 128) (hlen : t1.length + t.length ≤ 60) : jM l D cb A (jStr A h t) YJ4_append_cf1ce 6 1 122 [.ref b0, .ref h] ws (fun v w => v = some (.ref b0) ∧ jBld cb b0 (jcap m0 (t1.length + t.length)) (t1 ++ t) w) := by
  refine jM_of (by decide) (Nat.le_of_ble_eq_true rfl) ?_
  intro p e R s m args below meth c sl F hnm hret hlk hl hP hD hLf
  obtain ⟨hx, hb, hml, hown, hts, hK, hZ, hA, hRf, hRl, hRc, hRs⟩ := id F
  have hS : va_S A s.heap s.heap [] := va_S.rf
  have hl : lv_has sl 2 [(0, .ref b0), (1, .ref h)] := hl
  have hrc : ∃ cellB : Cell, s.heap[b0]? = some cellB ∧ cellB.vm.isStatics = false ∧ s.vm.findClass RJ4 = some cellB.cls := by obtain ⟨v0, l0, a0, rfl, -⟩ := id hw; exact va_recv hK hP (ci := 0) (q0 := 0) rfl rfl
  refine lv_aload_n hx hb dJ4_append_cf1ce_0 rfl (lv_at hl 0 rfl) ?_
  refine lv_aload_n hx hb dJ4_append_cf1ce_1 rfl (lv_at hl 1 rfl) ?_
  refine j_callV (n := 1) (As := [.ref h]) (rest := []) F (c_append l D cb A hw hc hlen) jL_str hLf hP hD hS jg_1146 jg_1147 jg_1148 jg_38 jg_1149 ⟨by decide, by decide, by decide +kernel⟩ hrc (by decide) (by decide) rfl hl.1 rfl (Nat.le_of_ble_eq_true rfl) dJ4_append_cf1ce_2 ⟨by omega, by omega⟩ (fun v9 ws9 H locs hP hD hp9 hS => ?_)
  obtain ⟨rfl, hw9⟩ := hp9
  refine W.widen (k := 1) (n := 122) (by omega) (by omega) ?_
  exact W.aret hx hb hret (Or.inl ⟨_, rfl⟩) (Or.inr ⟨_, rfl⟩) (fun t9 ht9 hW9 => ⟨some (.ref b0), ws9, rfl, by rw [ht9]; exact hP, hD, ⟨rfl, hw9⟩, hS.F ht9⟩) hS.2.2 dJ4_append_cf1ce_5

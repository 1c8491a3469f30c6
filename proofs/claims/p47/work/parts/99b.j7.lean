/-! ===== contracts: the constructors ===== -/
theorem jo_58 : jgd (Jvm.Cond.instanceMethod ({ cls := "java/lang/Object", name := "<init>", desc := "()V" } : Jvm.MethodName)) := ⟨List.mem_append_left _ (List.mem_of_getElem? (i := 58) (by decide +kernel)), by decide +kernel⟩
theorem jo_59 : jgd (Jvm.Cond.code ({ cls := "java/lang/Object", name := "<init>", desc := "()V" } : Jvm.MethodName) object_method_1_code (1 : Nat) (Option.none : Option Jvm.ClassFile.FieldType)) := ⟨List.mem_append_left _ (List.mem_of_getElem? (i := 59) (by decide +kernel)), by decide +kernel⟩
theorem j_bld0 {cb : ClassId} {b0 x m0 : Nat} (hm : m0 ≤ 122) : jBld cb b0 m0 [] [(b0, .inr (0, [.ref x, .int 0, .int 0, .int 0])), (x, .inl (cb, m0, .inl fun _ => 0))] :=
  ⟨x, 0, fun _ => 0, rfl, Nat.zero_le _, hm, fun j hj => absurd hj (Nat.not_lt_zero j), fun _ => (by decide : fits .byte (.int 0) = true)⟩
/-- AbstractStringBuilder(int) -/
theorem c_initA (l : Launch) (D : va_G) (cb : ClassId) (A : Nat → Prop) {b0 q0 : Nat} (hq : q0 ≤ 122) : jM l D cb A (fun _ _ => True) YJ5_init_d00df 1 1 122 [.ref b0, .int (nI q0)] [(b0, .inr (0, [.null, .int 0, .int 0, .int 0]))] (fun v w => v = none ∧ jBld cb b0 q0 [] w) := by
  refine jM_of (by decide) (Nat.le_of_ble_eq_true rfl) ?_
  intro p e R s m args below meth c sl F hnm hret hlk hl hP hD hLf
  obtain ⟨hx, hb, hml, hown, hts, hK, hZ, hA, hRf, hRl, hRc, hRs⟩ := id F
  have hS : va_S A s.heap s.heap [] := va_S.rf
  have hl : lv_has sl 2 [(0, .ref b0), (1, .int (nI q0))] := hl
  refine lv_aload_n hx hb dJ5_init_d00df_0 rfl (lv_at hl 0 rfl) ?_
  refine W.objInit hx hb hown (hts _ jg_1107) (hts _ jo_58) (hts _ jo_59) rfl (by rw [hml]; exact hl.1) rfl dJ5_init_d00df_1 (by omega) (Nat.le_trans (Nat.le_of_ble_eq_true rfl) hRl) ?_
  refine W.eq (g2 := F0 m 4 sl []) rfl ?_
  refine va_gets hx hb hZ.1 hS hown (hts _ jg_1108) (fun _ h => h) dJ5_init_d00df_4 ?_
  refine lv_if_eq (tgt := 25) hx hb dJ5_init_d00df_7 (by decide) (fun q9 => absurd q9 (by decide)) (fun _ => ?_)
  refine lv_aload_n hx hb dJ5_init_d00df_10 rfl (lv_at hl 0 rfl) ?_
  refine lv_iload_n hx hb dJ5_init_d00df_11 rfl (lv_at hl 1 rfl) ?_
  refine j_newa F hP hD hS (by omega) ⟨by omega, by omega⟩ dJ5_init_d00df_12 (fun x9 H hP hD hS => ?_)
  have hP : va_P D jcl [(b0, .inr (0, [.null, .int 0, .int 0, .int 0])), (x9, .inl (cb, q0, .inl fun _ => 0))] H := hP
  have hD : va_D A [(b0, .inr (0, [.null, .int 0, .int 0, .int 0])), (x9, .inl (cb, q0, .inl fun _ => 0))] := hD
  refine va_put (D := D) (ci := 0) (v := .ref x9) (ty := .array .byte) (C := RJ4) (T := TJ4) (N := 4) hx hb (fun w hw => hts w (j_u4 w hw)) (fun _ h => h) tyJ4 tyJ4_ok nmJ4 hown hK hP hD hS 0 rfl rfl 0 (by decide) (hts _ jg_1116) (fun _ h9 => h9) rfl (by decide +kernel) rfl rfl (Nat.le_of_ble_eq_true rfl) dJ5_init_d00df_14 (fun H locs hP hD hS => ?_)
  have hP : va_P D jcl [(b0, .inr (0, [.ref x9, .int 0, .int 0, .int 0])), (x9, .inl (cb, q0, .inl fun _ => 0))] H := hP
  have hD : va_D A [(b0, .inr (0, [.ref x9, .int 0, .int 0, .int 0])), (x9, .inl (cb, q0, .inl fun _ => 0))] := hD
  refine lv_aload_n hx hb dJ5_init_d00df_17 rfl (lv_at hl 0 rfl) ?_
  refine lv_iconst (v := nI 0) hx hb dJ5_init_d00df_18 (by decide) ?_
  refine va_put (D := D) (ci := 0) (v := .int (nI 0)) (ty := .byte) (C := RJ4) (T := TJ4) (N := 4) hx hb (fun w hw => hts w (j_u4 w hw)) (fun _ h => h) tyJ4 tyJ4_ok nmJ4 hown hK hP hD hS 0 rfl rfl 1 (by decide) (hts _ jg_1117) (fun _ h9 => h9) rfl (by decide +kernel) rfl rfl (Nat.le_of_ble_eq_true rfl) dJ5_init_d00df_19 (fun H locs hP hD hS => ?_)
  have hP : va_P D jcl [(b0, .inr (0, [.ref x9, .int 0, .int 0, .int 0])), (x9, .inl (cb, q0, .inl fun _ => 0))] H := hP
  have hD : va_D A [(b0, .inr (0, [.ref x9, .int 0, .int 0, .int 0])), (x9, .inl (cb, q0, .inl fun _ => 0))] := hD
  refine lv_goto (tgt := 38) hx hb dJ5_init_d00df_22 (by decide) ?_
  refine W.widen (k := 1) (n := 122) (by omega) (by omega) ?_
  exact W.vret hx hb hret (fun t9 ht9 hW9 => ⟨none, [(b0, .inr (0, [.ref x9, .int 0, .int 0, .int 0])), (x9, .inl (cb, q0, .inl fun _ => 0))], rfl, by rw [ht9]; exact hP, hD, ⟨rfl, j_bld0 hq⟩, hS.F ht9⟩) hS.2.2 dJ5_init_d00df_38
/-- StringBuilder() -/
theorem c_init (l : Launch) (D : va_G) (cb : ClassId) (A : Nat → Prop) {b0 : Nat} : jM l D cb A (fun _ _ => True) YJ4_init_da8c8 2 1 122 [.ref b0] [(b0, .inr (0, [.null, .int 0, .int 0, .int 0]))] (fun v w => v = none ∧ jBld cb b0 16 [] w) := by
  refine jM_of (by decide) (Nat.le_of_ble_eq_true rfl) ?_
  intro p e R s m args below meth c sl F hnm hret hlk hl hP hD hLf
  obtain ⟨hx, hb, hml, hown, hts, hK, hZ, hA, hRf, hRl, hRc, hRs⟩ := id F
  have hS : va_S A s.heap s.heap [] := va_S.rf
  have hl : lv_has sl 1 [(0, .ref b0)] := hl
  refine lv_aload_n hx hb dJ4_init_da8c8_0 rfl (lv_at hl 0 rfl) ?_
  refine lv_bipush (v := nI 16) hx hb dJ4_init_da8c8_1 (by decide) ?_
  refine j_callI (n := 1) (As := [.int (nI 16)]) (rest := []) F (c_initA l D cb A (by decide)) jL_0 trivial hP hD hS jg_1104 jg_1105 jg_37 jg_1106 ⟨by decide, by decide, by decide +kernel⟩ rfl rfl (by decide) (by decide) rfl hl.1 rfl (Nat.le_of_ble_eq_true rfl) dJ4_init_da8c8_3 ⟨by omega, by omega⟩ (fun v9 ws9 H locs hP hD hp9 hS => ?_)
  obtain ⟨rfl, hw9⟩ := hp9
  refine W.widen (k := 1) (n := 122) (by omega) (by omega) ?_
  exact W.vret hx hb hret (fun t9 ht9 hW9 => ⟨none, ws9, rfl, by rw [ht9]; exact hP, hD, ⟨rfl, hw9⟩, hS.F ht9⟩) hS.2.2 dJ4_init_da8c8_6
/-- AbstractStringBuilder(String) -/
theorem c_initAS (l : Launch) (D : va_G) (cb : ClassId) (A : Nat → Prop) {b0 h : Nat} {t : List Nat} (hc : ∀ j, t.getD j 0 < 128) (hlen : t.length ≤ 60) : jM l D cb A (jStr A h t) YJ5_init_a7421 7 2 200 [.ref b0, .ref h] [(b0, .inr (0, [.null, .int 0, .int 0, .int 0]))] (fun v w => v = none ∧ jBld cb b0 (t.length + 16) t w) := by
  refine jM_of (by decide) (Nat.le_of_ble_eq_true rfl) ?_
  intro p e R s m args below meth c sl F hnm hret hlk hl hP hD hLf
  obtain ⟨hx, hb, hml, hown, hts, hK, hZ, hA, hRf, hRl, hRc, hRs⟩ := id F
  have hS : va_S A s.heap s.heap [] := va_S.rf
  have hl : lv_has sl 5 [(0, .ref b0), (1, .ref h)] := hl
  obtain ⟨v, hO, hC, hV, hT⟩ := id hLf
  refine lv_aload_n hx hb dJ5_init_a7421_0 rfl (lv_at hl 0 rfl) ?_
  refine W.objInit hx hb hown (hts _ jg_1107) (hts _ jo_58) (hts _ jo_59) rfl (by rw [hml]; exact hl.1) rfl dJ5_init_a7421_1 (by omega) (Nat.le_trans (Nat.le_of_ble_eq_true rfl) hRl) ?_
  refine W.eq (g2 := F0 m 4 sl []) rfl ?_
  refine lv_aload_n hx hb dJ5_init_a7421_4 rfl (lv_at hl 1 rfl) ?_
  refine j_callV (n := 0) (As := []) (rest := []) F (c_length l D cb A (h := h) (t := t) (by omega)) jL_str hLf hP hD hS jg_1136 jg_966 jg_967 jg_39 jg_968 ⟨by decide, by decide, by decide +kernel⟩ (va_Orecv hO hS) (by decide) (by decide) rfl hl.1 rfl (Nat.le_of_ble_eq_true rfl) dJ5_init_a7421_5 ⟨by omega, by omega⟩ (fun v9 ws9 H locs hP hD hp9 hS => ?_)
  obtain ⟨rfl, hw9⟩ := hp9
  rw [hw9] at hP hD
  refine lv_istore_n (lv' := [(2, .int (nI t.length)), (0, .ref b0), (1, .ref h)]) hx hb dJ5_init_a7421_8 rfl hl (by decide) rfl (fun sl hl => ?_)
  refine lv_iload_n hx hb dJ5_init_a7421_9 rfl (lv_at hl 0 rfl) ?_
  refine lv_ldc (v := nI 2147483631) hx hb hown (hts _ jg_1137) dJ5_init_a7421_10 ?_
  refine lv_icmp_ge (tgt := 22) hx hb dJ5_init_a7421_12 (by decide) (fun q9 => absurd q9 (by rw [sp_len (by omega) (by omega)]; omega)) (fun _ => ?_)
  refine lv_iload_n hx hb dJ5_init_a7421_15 rfl (lv_at hl 0 rfl) ?_
  refine lv_bipush (v := nI 16) hx hb dJ5_init_a7421_16 (by decide) ?_
  refine lv_iadd hx hb dJ5_init_a7421_18 ?_
  refine j_top (show ((nI t.length) + (nI 16)) = nI (t.length + 16) from nI_add _ _) ?_
  refine lv_goto (tgt := 24) hx hb dJ5_init_a7421_19 (by decide) ?_
  refine lv_istore_n (lv' := [(3, .int (nI (t.length + 16))), (2, .int (nI t.length)), (0, .ref b0), (1, .ref h)]) hx hb dJ5_init_a7421_24 rfl hl (by decide) rfl (fun sl hl => ?_)
  refine lv_aload_n hx hb dJ5_init_a7421_25 rfl (lv_at hl 3 rfl) ?_
  refine j_callV (n := 0) (As := []) (rest := []) F (c_coder l D cb A (h := h) (t := t)) jL_str hLf hP hD hS jg_1139 jg_970 jg_971 jg_39 jg_972 ⟨by decide, by decide, by decide +kernel⟩ (va_Orecv hO hS) (by decide) (by decide) rfl hl.1 rfl (Nat.le_of_ble_eq_true rfl) dJ5_init_a7421_26 ⟨by omega, by omega⟩ (fun v9 ws9 H locs hP hD hp9 hS => ?_)
  obtain ⟨rfl, hw9⟩ := hp9
  rw [hw9] at hP hD
  refine lv_istore (lv' := [(4, .int 0), (3, .int (nI (t.length + 16))), (2, .int (nI t.length)), (0, .ref b0), (1, .ref h)]) hx hb dJ5_init_a7421_29 hl (by decide) rfl (fun sl hl => ?_)
  refine lv_aload_n hx hb dJ5_init_a7421_31 rfl (lv_at hl 3 rfl) ?_
  refine lv_iload hx hb dJ5_init_a7421_32 (lv_at hl 0 rfl) ?_
  refine va_put (D := D) (ci := 0) (v := .int 0) (ty := .byte) (C := RJ4) (T := TJ4) (N := 4) hx hb (fun w hw => hts w (j_u4 w hw)) (fun _ h => h) tyJ4 tyJ4_ok nmJ4 hown hK hP hD hS 0 rfl rfl 1 (by decide) (hts _ jg_1117) (fun _ h9 => h9) rfl (by decide +kernel) rfl rfl (Nat.le_of_ble_eq_true rfl) dJ5_init_a7421_34 (fun H locs hP hD hS => ?_)
  have hP : va_P D jcl [(b0, .inr (0, [.null, .int 0, .int 0, .int 0]))] H := hP
  have hD : va_D A [(b0, .inr (0, [.null, .int 0, .int 0, .int 0]))] := hD
  refine lv_aload_n hx hb dJ5_init_a7421_37 rfl (lv_at hl 3 rfl) ?_
  refine lv_iload hx hb dJ5_init_a7421_38 (lv_at hl 0 rfl) ?_
  refine lv_if_ne (tgt := 49) hx hb dJ5_init_a7421_40 (by decide) (fun q9 => absurd q9 (fun z => z rfl)) (fun _ => ?_)
  refine lv_iload_n hx hb dJ5_init_a7421_43 rfl (lv_at hl 1 rfl) ?_
  refine j_newa F hP hD hS (by omega) ⟨by omega, by omega⟩ dJ5_init_a7421_44 (fun x9 H hP hD hS => ?_)
  have hP : va_P D jcl [(b0, .inr (0, [.null, .int 0, .int 0, .int 0])), (x9, .inl (cb, t.length + 16, .inl fun _ => 0))] H := hP
  have hD : va_D A [(b0, .inr (0, [.null, .int 0, .int 0, .int 0])), (x9, .inl (cb, t.length + 16, .inl fun _ => 0))] := hD
  refine lv_goto (tgt := 53) hx hb dJ5_init_a7421_46 (by decide) ?_
  refine va_put (D := D) (ci := 0) (v := .ref x9) (ty := .array .byte) (C := RJ4) (T := TJ4) (N := 4) hx hb (fun w hw => hts w (j_u4 w hw)) (fun _ h => h) tyJ4 tyJ4_ok nmJ4 hown hK hP hD hS 0 rfl rfl 0 (by decide) (hts _ jg_1116) (fun _ h9 => h9) rfl (by decide +kernel) rfl rfl (Nat.le_of_ble_eq_true rfl) dJ5_init_a7421_53 (fun H locs hP hD hS => ?_)
  have hP : va_P D jcl [(b0, .inr (0, [.ref x9, .int 0, .int 0, .int 0])), (x9, .inl (cb, t.length + 16, .inl fun _ => 0))] H := hP
  have hD : va_D A [(b0, .inr (0, [.ref x9, .int 0, .int 0, .int 0])), (x9, .inl (cb, t.length + 16, .inl fun _ => 0))] := hD
  refine lv_aload_n hx hb dJ5_init_a7421_56 rfl (lv_at hl 3 rfl) ?_
  refine lv_aload_n hx hb dJ5_init_a7421_57 rfl (lv_at hl 4 rfl) ?_
  refine j_callU (n := 1) (C := RJ4) (owner := RJ5) (y := yJ5_append_cf1ce) (As := [.ref h]) (rest := []) F (c_bridge l D cb A (j_bld0 (by omega)) hc (by rw [List.length_nil]; omega)) jL_str hLf hP hD hS jg_1140 jg_1144 (hts _ jg_1143) jg_1142 jg_1141 jg_1151 jg_38 jg_1145 ⟨by decide, by decide, by decide +kernel⟩ (va_recv hK hP (ci := 0) (q0 := 0) rfl rfl) (by decide) (by decide) rfl hl.1 rfl (Nat.le_of_ble_eq_true rfl) dJ5_init_a7421_58 ⟨by omega, by omega⟩ (fun v9 ws9 H locs hP hD hp9 hS => ?_)
  obtain ⟨rfl, hw9⟩ := hp9
  rw [show jcap (t.length + 16) (([] : List Nat).length + t.length) = t.length + 16 from if_pos (by rw [List.length_nil]; omega)] at hw9
  refine lv_pop hx hb dJ5_init_a7421_61 rfl ?_
  refine W.widen (k := 2) (n := 200) (by omega) (by omega) ?_
  exact W.vret hx hb hret (fun t9 ht9 hW9 => ⟨none, ws9, rfl, by rw [ht9]; exact hP, hD, ⟨rfl, hw9⟩, hS.F ht9⟩) hS.2.2 dJ5_init_a7421_62
/-- StringBuilder(String) -/
theorem c_initS (l : Launch) (D : va_G) (cb : ClassId) (A : Nat → Prop) {b0 h : Nat} {t : List Nat} (hc : ∀ j, t.getD j 0 < 128) (hlen : t.length ≤ 60) : jM l D cb A (jStr A h t) YJ4_init_a7421 8 2 200 [.ref b0, .ref h] [(b0, .inr (0, [.null, .int 0, .int 0, .int 0]))] (fun v w => v = none ∧ jBld cb b0 (t.length + 16) t w) := by
  refine jM_of (by decide) (Nat.le_of_ble_eq_true rfl) ?_
  intro p e R s m args below meth c sl F hnm hret hlk hl hP hD hLf
  obtain ⟨hx, hb, hml, hown, hts, hK, hZ, hA, hRf, hRl, hRc, hRs⟩ := id F
  have hS : va_S A s.heap s.heap [] := va_S.rf
  have hl : lv_has sl 2 [(0, .ref b0), (1, .ref h)] := hl
  refine lv_aload_n hx hb dJ4_init_a7421_0 rfl (lv_at hl 0 rfl) ?_
  refine lv_aload_n hx hb dJ4_init_a7421_1 rfl (lv_at hl 1 rfl) ?_
  refine j_callI (n := 1) (As := [.ref h]) (rest := []) F (c_initAS l D cb A hc hlen) jL_str hLf hP hD hS jg_1133 jg_1134 jg_37 jg_1135 ⟨by decide, by decide, by decide +kernel⟩ rfl rfl (by decide) (by decide) rfl hl.1 rfl (Nat.le_of_ble_eq_true rfl) dJ4_init_a7421_2 ⟨by omega, by omega⟩ (fun v9 ws9 H locs hP hD hp9 hS => ?_)
  obtain ⟨rfl, hw9⟩ := hp9
  refine W.widen (k := 2) (n := 200) (by omega) (by omega) ?_
  exact W.vret hx hb hret (fun t9 ht9 hW9 => ⟨none, ws9, rfl, by rw [ht9]; exact hP, hD, ⟨rfl, hw9⟩, hS.F ht9⟩) hS.2.2 dJ4_init_a7421_5

/-! ===== contracts: room, Strings appended ===== -/
theorem j_cpy {f g : Nat → Int32} {dp n j : Nat} (h1 : dp ≤ j) (h2 : j < dp + n) : va_cpy f g 0 dp n j = f (j - dp) := by
  rw [pk_cpy_in h1 h2, Nat.zero_add]
theorem j_cpyO {f g : Nat → Int32} {dp n j : Nat} (h : j < dp ∨ dp + n ≤ j) : va_cpy f g 0 dp n j = g j := pk_cpy_out h
theorem j_cpyF {f g : Nat → Int32} {dp n : Nat} (hf : ∀ j, j < n → fits .byte (.int (f j)) = true) (hg : ∀ j, fits .byte (.int (g j)) = true) : ∀ j, fits .byte (.int (va_cpy f g 0 dp n j)) = true := by
  intro j
  by_cases c : dp ≤ j ∧ j < dp + n
  · rw [j_cpy c.1 c.2]; exact hf _ (by omega)
  · rw [j_cpyO (by omega)]; exact hg j
/-- the room behind a request -/
def jcap (m q : Nat) : Nat := if q ≤ m then m else m + max (q - m) (m + 2)
theorem jcap_ge {m q : Nat} : q ≤ jcap m q := by unfold jcap; split <;> omega
theorem jcap_le {m q : Nat} (hm : m ≤ 122) (hq : q ≤ 60) : jcap m q ≤ 122 := by unfold jcap; split <;> omega
/-- a builder that holds a text, in an array of m0 -/
def jBld (cb : ClassId) (b0 m0 : Nat) (t : List Nat) (w : va_W) : Prop := ∃ (v0 : Nat) (l0 : Int32) (a0 : Nat → Int32), w = [(b0, .inr (0, [.ref v0, .int 0, .int l0, .int (nI t.length)])), (v0, .inl (cb, m0, .inl a0))] ∧ t.length ≤ m0 ∧ m0 ≤ 122 ∧ (∀ j, j < t.length → a0 j = nI (t.getD j 0)) ∧ ∀ j, fits .byte (.int (a0 j)) = true
/-- AbstractStringBuilder.ensureCapacityInternal -/
theorem c_ensure (l : Launch) (D : va_G) (cb : ClassId) (A : Nat → Prop) {b0 v0 n0 m0 : Nat} {l0 : Int32} {a0 : Nat → Int32} {q0 : Nat} (hm : m0 ≤ 122) (hq2 : q0 ≤ 60) (hf : ∀ j, fits .byte (.int (a0 j)) = true) : jM l D cb A (fun _ _ => True) YJ5_ensureCapacityInternal_d00df 3 1 122 [.ref b0, .int (nI q0)] [(b0, .inr (0, [.ref v0, .int 0, .int l0, .int (nI (n0))])), (v0, .inl (cb, m0, .inl (a0)))] (fun v w => v = none ∧ ∃ (v1 : Nat) (a1 : Nat → Int32), w = [(b0, .inr (0, [.ref v1, .int 0, .int l0, .int (nI (n0))])), (v1, .inl (cb, jcap m0 q0, .inl (a1)))] ∧ (∀ j, j < m0 → a1 j = a0 j) ∧ ∀ j, fits .byte (.int (a1 j)) = true) := by
  refine jM_of (by decide) (Nat.le_of_ble_eq_true rfl) ?_
  intro p e R s m args below meth c sl F hnm hret hlk hl hP hD hLf
  obtain ⟨hx, hb, hml, hown, hts, hK, hZ, hA, hRf, hRl, hRc, hRs⟩ := id F
  have hS : va_S A s.heap s.heap [] := va_S.rf
  have hl : lv_has sl 3 [(0, .ref b0), (1, .int (nI q0))] := hl
  refine lv_aload_n hx hb dJ5_ensureCapacityInternal_d00df_0 rfl (lv_at hl 0 rfl) ?_
  refine va_get (D := D) (ci := 0) (v := .ref v0) (C := RJ4) (T := TJ4) (N := 4) hx hb (fun w hw => hts w (j_u4 w hw)) (fun _ h => h) hown hK hP 0 rfl rfl 0 (by decide) (hts _ jg_1116) (fun _ h9 => h9) rfl dJ5_ensureCapacityInternal_d00df_1 ?_
  refine va_alen (cA := cb) (x := (m0, .inl (a0))) (ty := .byte) (v := nI (m0)) hx hb hK hP 1 0 rfl rfl rfl dJ5_ensureCapacityInternal_d00df_4 ?_
  refine lv_aload_n hx hb dJ5_ensureCapacityInternal_d00df_5 rfl (lv_at hl 0 rfl) ?_
  refine va_get (D := D) (ci := 0) (v := .int 0) (C := RJ4) (T := TJ4) (N := 4) hx hb (fun w hw => hts w (j_u4 w hw)) (fun _ h => h) hown hK hP 0 rfl rfl 1 (by decide) (hts _ jg_1117) (fun _ h9 => h9) rfl dJ5_ensureCapacityInternal_d00df_6 ?_
  refine lv_ishr hx hb dJ5_ensureCapacityInternal_d00df_9 ?_
  refine j_top (show ((nI (m0)) >>> (0 &&& 31)) = nI m0 from j_shr0 (by omega)) ?_
  refine lv_istore_n (lv' := [(2, .int (nI m0)), (0, .ref b0), (1, .int (nI q0))]) hx hb dJ5_ensureCapacityInternal_d00df_10 rfl hl (by decide) rfl (fun sl hl => ?_)
  refine lv_iload_n hx hb dJ5_ensureCapacityInternal_d00df_11 rfl (lv_at hl 2 rfl) ?_
  refine lv_iload_n hx hb dJ5_ensureCapacityInternal_d00df_12 rfl (lv_at hl 0 rfl) ?_
  refine lv_isub hx hb dJ5_ensureCapacityInternal_d00df_13 ?_
  by_cases hq : q0 ≤ m0
  · skip
    refine lv_if_le (tgt := 38) hx hb dJ5_ensureCapacityInternal_d00df_14 (by decide) (fun _ => ?_) (fun q9 => absurd (by rw [Int32.le_iff_toInt_le, pk_sub_toInt (by omega) (by omega), Int32.toInt_zero]; omega) q9)
    have e9 : jcap m0 q0 = m0 := if_pos hq
    refine W.widen (k := 1) (n := 122) (by omega) (by omega) ?_
    exact W.vret hx hb hret (fun t9 ht9 hW9 => ⟨none, [(b0, .inr (0, [.ref v0, .int 0, .int l0, .int (nI (n0))])), (v0, .inl (cb, m0, .inl (a0)))], rfl, by rw [ht9]; exact hP, hD, ⟨rfl, v0, a0, by rw [e9], fun _ _ => rfl, hf⟩, hS.F ht9⟩) hS.2.2 dJ5_ensureCapacityInternal_d00df_38
  · skip
    refine lv_if_le (tgt := 38) hx hb dJ5_ensureCapacityInternal_d00df_14 (by decide) (fun q9 => absurd q9 (by rw [Int32.le_iff_toInt_le, pk_sub_toInt (by omega) (by omega), Int32.toInt_zero]; omega)) (fun _ => ?_)
    refine lv_aload_n hx hb dJ5_ensureCapacityInternal_d00df_17 rfl (lv_at hl 1 rfl) ?_
    refine lv_aload_n hx hb dJ5_ensureCapacityInternal_d00df_18 rfl (lv_at hl 1 rfl) ?_
    refine va_get (D := D) (ci := 0) (v := .ref v0) (C := RJ4) (T := TJ4) (N := 4) hx hb (fun w hw => hts w (j_u4 w hw)) (fun _ h => h) hown hK hP 0 rfl rfl 0 (by decide) (hts _ jg_1116) (fun _ h9 => h9) rfl dJ5_ensureCapacityInternal_d00df_19 ?_
    refine lv_aload_n hx hb dJ5_ensureCapacityInternal_d00df_22 rfl (lv_at hl 1 rfl) ?_
    refine lv_iload_n hx hb dJ5_ensureCapacityInternal_d00df_23 rfl (lv_at hl 2 rfl) ?_
    refine j_callU (n := 1) (C := RJ4) (owner := RJ5) (y := yJ5_newCapacity_0f7a4) (As := [.int (nI q0)]) (rest := [.ref v0, .ref b0]) F (c_newCapacity l D cb A (by omega) (by omega) (by omega)) jL_0 trivial hP hD hS jg_1160 jg_1162 (hts _ jp_1) jg_1331 jg_1162 jg_1163 jg_37 jg_1163 ⟨by decide, by decide, by decide +kernel⟩ (va_recv hK hP (ci := 0) (q0 := 0) rfl rfl) (by decide) (by decide) rfl hl.1 rfl (Nat.le_of_ble_eq_true rfl) dJ5_ensureCapacityInternal_d00df_24 ⟨by omega, by omega⟩ (fun v9 ws9 H locs hP hD hp9 hS => ?_)
    obtain ⟨rfl, hw9⟩ := hp9
    rw [hw9] at hP hD
    refine lv_aload_n hx hb dJ5_ensureCapacityInternal_d00df_27 rfl (lv_at hl 1 rfl) ?_
    refine va_get (D := D) (ci := 0) (v := .int 0) (C := RJ4) (T := TJ4) (N := 4) hx hb (fun w hw => hts w (j_u4 w hw)) (fun _ h => h) hown hK hP 0 rfl rfl 1 (by decide) (hts _ jg_1117) (fun _ h9 => h9) rfl dJ5_ensureCapacityInternal_d00df_28 ?_
    refine lv_ishl hx hb dJ5_ensureCapacityInternal_d00df_31 ?_
    refine j_top (show ((nI (m0 + max (q0 - m0) (m0 + 2))) <<< (0 &&& 31)) = nI (m0 + max (q0 - m0) (m0 + 2)) from j_shl0 _) ?_
    refine j_callS (n := 2) (As := [.ref v0, .int (nI (m0 + max (q0 - m0) (m0 + 2)))]) (rest := [.ref b0]) F (c_copyOf l D cb A (by omega) (by omega) (by omega) hf) jL_0 trivial hP hD hS jg_1172 jg_1173 jg_42 jg_1174 ⟨by decide, by decide, by decide +kernel⟩ (by decide) (by decide) rfl hl.1 rfl (Nat.le_of_ble_eq_true rfl) dJ5_ensureCapacityInternal_d00df_32 ⟨by omega, by omega⟩ (fun v9 ws9 H locs hP hD hp9 hS => ?_)
    obtain ⟨x9, rfl, hw9⟩ := hp9
    rw [hw9] at hP hD
    have hP : va_P D jcl [(b0, .inr (0, [.ref v0, .int 0, .int l0, .int (nI (n0))])), (v0, .inl (cb, m0, .inl (a0))), (x9, .inl (cb, m0 + max (q0 - m0) (m0 + 2), .inl (va_cpy a0 (fun _ => 0) 0 0 m0)))] H := hP
    have hD : va_D A [(b0, .inr (0, [.ref v0, .int 0, .int l0, .int (nI (n0))])), (v0, .inl (cb, m0, .inl (a0))), (x9, .inl (cb, m0 + max (q0 - m0) (m0 + 2), .inl (va_cpy a0 (fun _ => 0) 0 0 m0)))] := hD
    refine va_put (D := D) (ci := 0) (v := .ref x9) (ty := .array .byte) (C := RJ4) (T := TJ4) (N := 4) hx hb (fun w hw => hts w (j_u4 w hw)) (fun _ h => h) tyJ4 tyJ4_ok nmJ4 hown hK hP hD hS 0 rfl rfl 0 (by decide) (hts _ jg_1116) (fun _ h9 => h9) rfl (by decide +kernel) rfl rfl (Nat.le_of_ble_eq_true rfl) dJ5_ensureCapacityInternal_d00df_35 (fun H locs hP hD hS => ?_)
    have hP : va_P D jcl [(b0, .inr (0, [.ref x9, .int 0, .int l0, .int (nI (n0))])), (v0, .inl (cb, m0, .inl (a0))), (x9, .inl (cb, m0 + max (q0 - m0) (m0 + 2), .inl (va_cpy a0 (fun _ => 0) 0 0 m0)))] H := hP
    have hD : va_D A [(b0, .inr (0, [.ref x9, .int 0, .int l0, .int (nI (n0))])), (v0, .inl (cb, m0, .inl (a0))), (x9, .inl (cb, m0 + max (q0 - m0) (m0 + 2), .inl (va_cpy a0 (fun _ => 0) 0 0 m0)))] := hD
    have hP := hP.sub (ws' := [(b0, .inr (0, [.ref x9, .int 0, .int l0, .int (nI (n0))])), (x9, .inl (cb, m0 + max (q0 - m0) (m0 + 2), .inl (va_cpy a0 (fun _ => 0) 0 0 m0)))]) [0, 2] rfl
    have hD := hD.sub (ws' := [(b0, .inr (0, [.ref x9, .int 0, .int l0, .int (nI (n0))])), (x9, .inl (cb, m0 + max (q0 - m0) (m0 + 2), .inl (va_cpy a0 (fun _ => 0) 0 0 m0)))]) [0, 2] (by decide) rfl
    have e9 : jcap m0 q0 = m0 + max (q0 - m0) (m0 + 2) := if_neg hq
    refine W.widen (k := 1) (n := 122) (by omega) (by omega) ?_
    exact W.vret hx hb hret (fun t9 ht9 hW9 => ⟨none, [(b0, .inr (0, [.ref x9, .int 0, .int l0, .int (nI (n0))])), (x9, .inl (cb, m0 + max (q0 - m0) (m0 + 2), .inl (va_cpy a0 (fun _ => 0) 0 0 m0)))], rfl, by rw [ht9]; exact hP, hD, ⟨rfl, x9, _, by rw [e9], fun j hj => j_cpy (Nat.zero_le _) (by omega), j_cpyF (fun j _ => hf j) (fun _ => by decide)⟩, hS.F ht9⟩) hS.2.2 dJ5_ensureCapacityInternal_d00df_38
/-- AbstractStringBuilder.inflateIfNeededFor -/
theorem c_inflate (l : Launch) (D : va_G) (cb : ClassId) (A : Nat → Prop) {b0 v0 n0 m0 : Nat} {l0 : Int32} {a0 : Nat → Int32} {h : Nat} {t : List Nat} : jM l D cb A (jStr A h t) YJ5_inflateIfNeededFor_a7421 1 0 0 [.ref b0, .ref h] [(b0, .inr (0, [.ref v0, .int 0, .int l0, .int (nI (n0))])), (v0, .inl (cb, m0, .inl (a0)))] (fun v w => v = none ∧ w = [(b0, .inr (0, [.ref v0, .int 0, .int l0, .int (nI (n0))])), (v0, .inl (cb, m0, .inl (a0)))]) := by
  refine jM_of (by decide) (Nat.le_of_ble_eq_true rfl) ?_
  intro p e R s m args below meth c sl F hnm hret hlk hl hP hD hLf
  obtain ⟨hx, hb, hml, hown, hts, hK, hZ, hA, hRf, hRl, hRc, hRs⟩ := id F
  have hS : va_S A s.heap s.heap [] := va_S.rf
  have hl : lv_has sl 2 [(0, .ref b0), (1, .ref h)] := hl
  obtain ⟨v, hO, hC, hV, hT⟩ := id hLf
  refine va_gets hx hb hZ.1 hS hown (hts _ jg_1108) (fun _ h => h) dJ5_inflateIfNeededFor_a7421_0 ?_
  refine lv_if_eq (tgt := 21) hx hb dJ5_inflateIfNeededFor_a7421_3 (by decide) (fun q9 => absurd q9 (by decide)) (fun _ => ?_)
  refine lv_aload_n hx hb dJ5_inflateIfNeededFor_a7421_6 rfl (lv_at hl 0 rfl) ?_
  refine va_get (D := D) (ci := 0) (v := .int 0) (C := RJ4) (T := TJ4) (N := 4) hx hb (fun w hw => hts w (j_u4 w hw)) (fun _ h => h) hown hK hP 0 rfl rfl 1 (by decide) (hts _ jg_1117) (fun _ h9 => h9) rfl dJ5_inflateIfNeededFor_a7421_7 ?_
  refine lv_aload_n hx hb dJ5_inflateIfNeededFor_a7421_10 rfl (lv_at hl 1 rfl) ?_
  refine j_callV (n := 0) (As := []) (rest := [.int 0]) F (c_coder l D cb A (h := h) (t := t)) jL_str hLf hP hD hS jg_1139 jg_970 jg_971 jg_39 jg_972 ⟨by decide, by decide, by decide +kernel⟩ (va_Orecv hO hS) (by decide) (by decide) rfl hl.1 rfl (Nat.le_of_ble_eq_true rfl) dJ5_inflateIfNeededFor_a7421_11 ⟨by omega, by omega⟩ (fun v9 ws9 H locs hP hD hp9 hS => ?_)
  obtain ⟨rfl, hw9⟩ := hp9
  rw [hw9] at hP hD
  refine lv_icmp_eq (tgt := 21) hx hb dJ5_inflateIfNeededFor_a7421_14 (by decide) (fun _ => ?_) (fun q9 => absurd rfl q9)
  exact W.vret hx hb hret (fun t9 ht9 hW9 => ⟨none, [(b0, .inr (0, [.ref v0, .int 0, .int l0, .int (nI (n0))])), (v0, .inl (cb, m0, .inl (a0)))], rfl, by rw [ht9]; exact hP, hD, ⟨rfl, rfl⟩, hS.F ht9⟩) hS.2.2 dJ5_inflateIfNeededFor_a7421_21
/-- String.getBytes -/
theorem c_getBytes (l : Launch) (D : va_G) (cb : ClassId) (A : Nat → Prop) {b0 v0 n0 m0 : Nat} {l0 : Int32} {a0 : Nat → Int32} {h p0 : Nat} {t : List Nat} (hc : ∀ j, t.getD j 0 < 128) (hp : p0 + t.length ≤ m0) (hm : m0 ≤ 300) : jM l D cb A (jStr A h t) YJ0_getBytes_840e7 1 0 0 [.ref h, .ref v0, .int (nI p0), .int (nI 0)] [(b0, .inr (0, [.ref v0, .int 0, .int l0, .int (nI (n0))])), (v0, .inl (cb, m0, .inl (a0)))] (fun v w => v = none ∧ w = [(b0, .inr (0, [.ref v0, .int 0, .int l0, .int (nI (n0))])), (v0, .inl (cb, m0, .inl (va_cpy (fun j => nI (t.getD j 0)) a0 0 p0 t.length)))]) := by
  refine jM_of (by decide) (Nat.le_of_ble_eq_true rfl) ?_
  intro p e R s m args below meth c sl F hnm hret hlk hl hP hD hLf
  obtain ⟨hx, hb, hml, hown, hts, hK, hZ, hA, hRf, hRl, hRc, hRs⟩ := id F
  have hS : va_S A s.heap s.heap [] := va_S.rf
  have hl : lv_has sl 4 [(0, .ref h), (1, .ref v0), (2, .int (nI p0)), (3, .int (nI 0))] := hl
  obtain ⟨v, hO, hC, hV, hT⟩ := id hLf
  refine lv_aload_n hx hb dJ0_getBytes_840e7_0 rfl (lv_at hl 0 rfl) ?_
  refine j_callV (n := 0) (As := []) (rest := []) F (c_coder l D cb A (h := h) (t := t)) jL_str hLf hP hD hS jg_969 jg_970 jg_971 jg_39 jg_972 ⟨by decide, by decide, by decide +kernel⟩ (va_Orecv hO hS) (by decide) (by decide) rfl hl.1 rfl (Nat.le_of_ble_eq_true rfl) dJ0_getBytes_840e7_1 ⟨by omega, by omega⟩ (fun v9 ws9 H locs hP hD hp9 hS => ?_)
  obtain ⟨rfl, hw9⟩ := hp9
  rw [hw9] at hP hD
  refine lv_iload_n hx hb dJ0_getBytes_840e7_4 rfl (lv_at hl 3 rfl) ?_
  refine lv_icmp_ne (tgt := 28) hx hb dJ0_getBytes_840e7_5 (by decide) (fun q9 => absurd q9 (fun z => z rfl)) (fun _ => ?_)
  refine lv_aload_n hx hb dJ0_getBytes_840e7_8 rfl (lv_at hl 0 rfl) ?_
  refine vk_getf hx hb hV hS hown (hts _ jg_1311) (fun _ h => h) dJ0_getBytes_840e7_9 ?_
  refine lv_iconst (v := nI 0) hx hb dJ0_getBytes_840e7_12 (by decide) ?_
  refine lv_aload_n hx hb dJ0_getBytes_840e7_13 rfl (lv_at hl 1 rfl) ?_
  refine lv_iload_n hx hb dJ0_getBytes_840e7_14 rfl (lv_at hl 2 rfl) ?_
  refine lv_iload_n hx hb dJ0_getBytes_840e7_15 rfl (lv_at hl 3 rfl) ?_
  refine lv_ishl hx hb dJ0_getBytes_840e7_16 ?_
  refine j_top (show ((nI p0) <<< ((nI 0) &&& 31)) = nI p0 from j_shl0 _) ?_
  refine lv_aload_n hx hb dJ0_getBytes_840e7_17 rfl (lv_at hl 0 rfl) ?_
  refine vk_getf hx hb hV hS hown (hts _ jg_1311) (fun _ h => h) dJ0_getBytes_840e7_18 ?_
  refine va_tlen hx hb hT hS (v := nI t.length) rfl dJ0_getBytes_840e7_21 ?_
  refine j_copyT (q1 := 1) (n1 := m0) (g := a0) (f := fun j => nI (t.getD j 0)) F hl.1 jg_1237 jg_1185 jg_1184 jg_43 hP hD hS hT (fun j _ => j_fitsB (hc j)) rfl (Nat.le_refl _) hp (by omega) (by omega) (Nat.le_of_ble_eq_true rfl) dJ0_getBytes_840e7_22 (fun H locs hP hD hS => ?_)
  have hP : va_P D jcl [(b0, .inr (0, [.ref v0, .int 0, .int l0, .int (nI (n0))])), (v0, .inl (cb, m0, .inl (va_cpy (fun j => nI (t.getD j 0)) a0 0 p0 t.length)))] H := hP
  have hD : va_D A [(b0, .inr (0, [.ref v0, .int 0, .int l0, .int (nI (n0))])), (v0, .inl (cb, m0, .inl (va_cpy (fun j => nI (t.getD j 0)) a0 0 p0 t.length)))] := hD
  refine lv_goto (tgt := 43) hx hb dJ0_getBytes_840e7_25 (by decide) ?_
  exact W.vret hx hb hret (fun t9 ht9 hW9 => ⟨none, [(b0, .inr (0, [.ref v0, .int 0, .int l0, .int (nI (n0))])), (v0, .inl (cb, m0, .inl (va_cpy (fun j => nI (t.getD j 0)) a0 0 p0 t.length)))], rfl, by rw [ht9]; exact hP, hD, ⟨rfl, rfl⟩, hS.F ht9⟩) hS.2.2 dJ0_getBytes_840e7_43
/-- AbstractStringBuilder.putStringAt -/
theorem c_putString (l : Launch) (D : va_G) (cb : ClassId) (A : Nat → Prop) {b0 v0 n0 m0 : Nat} {l0 : Int32} {a0 : Nat → Int32} {h p0 : Nat} {t : List Nat} (hc : ∀ j, t.getD j 0 < 128) (hp : p0 + t.length ≤ m0) (hm : m0 ≤ 300) : jM l D cb A (jStr A h t) YJ5_putStringAt_47b60 2 0 0 [.ref b0, .int (nI p0), .ref h] [(b0, .inr (0, [.ref v0, .int 0, .int l0, .int (nI (n0))])), (v0, .inl (cb, m0, .inl (a0)))] (fun v w => v = none ∧ w = [(b0, .inr (0, [.ref v0, .int 0, .int l0, .int (nI (n0))])), (v0, .inl (cb, m0, .inl (va_cpy (fun j => nI (t.getD j 0)) a0 0 p0 t.length)))]) := by
  refine jM_of (by decide) (Nat.le_of_ble_eq_true rfl) ?_
  intro p e R s m args below meth c sl F hnm hret hlk hl hP hD hLf
  obtain ⟨hx, hb, hml, hown, hts, hK, hZ, hA, hRf, hRl, hRc, hRs⟩ := id F
  have hS : va_S A s.heap s.heap [] := va_S.rf
  have hl : lv_has sl 3 [(0, .ref b0), (1, .int (nI p0)), (2, .ref h)] := hl
  obtain ⟨v, hO, hC, hV, hT⟩ := id hLf
  refine lv_aload_n hx hb dJ5_putStringAt_47b60_0 rfl (lv_at hl 0 rfl) ?_
  refine lv_aload_n hx hb dJ5_putStringAt_47b60_1 rfl (lv_at hl 2 rfl) ?_
  refine j_callU (n := 1) (C := RJ4) (owner := RJ5) (y := yJ5_inflateIfNeededFor_a7421) (As := [.ref h]) (rest := []) F (c_inflate l D cb A ) jL_str hLf hP hD hS jg_1210 jg_1212 (hts _ jp_3) jg_1333 jg_1212 jg_1213 jg_37 jg_1213 ⟨by decide, by decide, by decide +kernel⟩ (va_recv hK hP (ci := 0) (q0 := 0) rfl rfl) (by decide) (by decide) rfl hl.1 rfl (Nat.le_of_ble_eq_true rfl) dJ5_putStringAt_47b60_2 ⟨by omega, by omega⟩ (fun v9 ws9 H locs hP hD hp9 hS => ?_)
  obtain ⟨rfl, hw9⟩ := hp9
  rw [hw9] at hP hD
  refine lv_aload_n hx hb dJ5_putStringAt_47b60_5 rfl (lv_at hl 2 rfl) ?_
  refine lv_aload_n hx hb dJ5_putStringAt_47b60_6 rfl (lv_at hl 0 rfl) ?_
  refine va_get (D := D) (ci := 0) (v := .ref v0) (C := RJ4) (T := TJ4) (N := 4) hx hb (fun w hw => hts w (j_u4 w hw)) (fun _ h => h) hown hK hP 0 rfl rfl 0 (by decide) (hts _ jg_1116) (fun _ h9 => h9) rfl dJ5_putStringAt_47b60_7 ?_
  refine lv_iload_n hx hb dJ5_putStringAt_47b60_10 rfl (lv_at hl 1 rfl) ?_
  refine lv_aload_n hx hb dJ5_putStringAt_47b60_11 rfl (lv_at hl 0 rfl) ?_
  refine va_get (D := D) (ci := 0) (v := .int (nI 0)) (C := RJ4) (T := TJ4) (N := 4) hx hb (fun w hw => hts w (j_u4 w hw)) (fun _ h => h) hown hK hP 0 rfl rfl 1 (by decide) (hts _ jg_1117) (fun _ h9 => h9) rfl dJ5_putStringAt_47b60_12 ?_
  refine j_callV (n := 3) (As := [.ref v0, .int (nI p0), .int (nI 0)]) (rest := []) F (c_getBytes l D cb A hc hp hm) jL_str hLf hP hD hS jg_1233 jg_1234 jg_1235 jg_39 jg_1236 ⟨by decide, by decide, by decide +kernel⟩ (va_Orecv hO hS) (by decide) (by decide) rfl hl.1 rfl (Nat.le_of_ble_eq_true rfl) dJ5_putStringAt_47b60_15 ⟨by omega, by omega⟩ (fun v9 ws9 H locs hP hD hp9 hS => ?_)
  obtain ⟨rfl, hw9⟩ := hp9
  rw [hw9] at hP hD
  have hP : va_P D jcl [(b0, .inr (0, [.ref v0, .int 0, .int l0, .int (nI (n0))])), (v0, .inl (cb, m0, .inl (va_cpy (fun j => nI (t.getD j 0)) a0 0 p0 t.length)))] H := hP
  have hD : va_D A [(b0, .inr (0, [.ref v0, .int 0, .int l0, .int (nI (n0))])), (v0, .inl (cb, m0, .inl (va_cpy (fun j => nI (t.getD j 0)) a0 0 p0 t.length)))] := hD
  exact W.vret hx hb hret (fun t9 ht9 hW9 => ⟨none, [(b0, .inr (0, [.ref v0, .int 0, .int l0, .int (nI (n0))])), (v0, .inl (cb, m0, .inl (va_cpy (fun j => nI (t.getD j 0)) a0 0 p0 t.length)))], rfl, by rw [ht9]; exact hP, hD, ⟨rfl, rfl⟩, hS.F ht9⟩) hS.2.2 dJ5_putStringAt_47b60_18

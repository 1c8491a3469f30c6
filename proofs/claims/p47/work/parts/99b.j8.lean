/-! ===== contracts: append(int) ===== -/
theorem j_d1 : ∀ v, v < 100 → (-nI v ≤ (-10 : Int32) ↔ 10 ≤ v) := by decide +kernel
theorem j_d2 : ∀ v, v < 100 → ¬ -nI v ≤ (-100 : Int32) := by decide +kernel
theorem j_d3 : ∀ v, v < 100 → (-100 : Int32) < -nI v := by decide +kernel
theorem j_d4 : ∀ v, v < 100 → ((-9 : Int32) ≤ -nI v ↔ v < 10) := by decide +kernel
theorem j_nar : ∀ v, v < 128 → vp_nar .byte (nI v) = nI v := by decide +kernel
theorem j_m1 {q : Nat} (h : 1 ≤ q) : nI q + Int32.ofInt (-1) = nI (q - 1) := by
  rw [show (Int32.ofInt (-1)) = -(nI 1) from by decide, ← Int32.sub_eq_add_neg]
  exact pk_sub h
theorem j_dl {v : Nat} (h : v < 100) : (dgL v).length = if v < 10 then 1 else 2 := by
  rw [dg_len]
  by_cases h2 : v < 10
  · rw [if_pos h2, if_pos h2]
  · rw [if_neg h2, if_neg h2, if_pos h]
/-- Integer.stringSize -/
theorem c_stringSize (l : Launch) (D : va_G) (cb : ClassId) (A : Nat → Prop) {v0 : Nat} {ws : va_W} (hv : v0 < 100) : jM l D cb A (fun _ _ => True) YJ6_stringSize_0f7a4 0 0 0 [.int (nI v0)] ws (fun v w => v = some (.int (nI (dgL v0).length)) ∧ w = ws) := by
  refine jM_of (by decide) (Nat.le_of_ble_eq_true rfl) ?_
  intro p e R s m args below meth c sl F hnm hret hlk hl hP hD hLf
  obtain ⟨hx, hb, hml, hown, hts, hK, hZ, hA, hRf, hRl, hRc, hRs⟩ := id F
  have hS : va_S A s.heap s.heap [] := va_S.rf
  have hl : lv_has sl 4 [(0, .int (nI v0))] := hl
  refine lv_iconst (v := nI 1) hx hb dJ6_stringSize_0f7a4_0 (by decide) ?_
  refine lv_istore_n (lv' := [(1, .int (nI 1)), (0, .int (nI v0))]) hx hb dJ6_stringSize_0f7a4_1 rfl hl (by decide) rfl (fun sl hl => ?_)
  refine lv_iload_n hx hb dJ6_stringSize_0f7a4_2 rfl (lv_at hl 1 rfl) ?_
  refine lv_if_lt (tgt := 11) hx hb dJ6_stringSize_0f7a4_3 (by decide) (fun q9 => absurd q9 (nI_pos (by omega))) (fun _ => ?_)
  refine lv_iconst (v := nI 0) hx hb dJ6_stringSize_0f7a4_6 (by decide) ?_
  refine lv_istore_n (lv' := [(1, .int (nI 0)), (0, .int (nI v0))]) hx hb dJ6_stringSize_0f7a4_7 rfl hl (by decide) rfl (fun sl hl => ?_)
  refine lv_iload_n hx hb dJ6_stringSize_0f7a4_8 rfl (lv_at hl 1 rfl) ?_
  refine lv_ineg hx hb dJ6_stringSize_0f7a4_9 ?_
  refine lv_istore_n (lv' := [(0, .int (-(nI v0))), (1, .int (nI 0))]) hx hb dJ6_stringSize_0f7a4_10 rfl hl (by decide) rfl (fun sl hl => ?_)
  refine lv_bipush (v := (-10 : Int32)) hx hb dJ6_stringSize_0f7a4_11 (by decide) ?_
  refine lv_istore_n (lv' := [(2, .int ((-10 : Int32))), (0, .int (-(nI v0))), (1, .int (nI 0))]) hx hb dJ6_stringSize_0f7a4_13 rfl hl (by decide) rfl (fun sl hl => ?_)
  refine lv_iconst (v := nI 1) hx hb dJ6_stringSize_0f7a4_14 (by decide) ?_
  refine lv_istore_n (lv' := [(3, .int (nI 1)), (2, .int ((-10 : Int32))), (0, .int (-(nI v0))), (1, .int (nI 0))]) hx hb dJ6_stringSize_0f7a4_15 rfl hl (by decide) rfl (fun sl hl => ?_)
  refine lv_iload_n hx hb dJ6_stringSize_0f7a4_16 rfl (lv_at hl 0 rfl) ?_
  refine lv_bipush (v := nI 10) hx hb dJ6_stringSize_0f7a4_17 (by decide) ?_
  refine lv_icmp_ge (tgt := 42) hx hb dJ6_stringSize_0f7a4_19 (by decide) (fun q9 => absurd q9 (by decide)) (fun _ => ?_)
  refine lv_iload_n hx hb dJ6_stringSize_0f7a4_22 rfl (lv_at hl 2 rfl) ?_
  refine lv_iload_n hx hb dJ6_stringSize_0f7a4_23 rfl (lv_at hl 1 rfl) ?_
  by_cases h9 : v0 < 10
  · skip
    refine lv_icmp_le (tgt := 31) hx hb dJ6_stringSize_0f7a4_24 (by decide) (fun q9 => absurd q9 (fun z => by have := (j_d1 v0 hv).mp z; omega)) (fun _ => ?_)
    refine lv_iload_n hx hb dJ6_stringSize_0f7a4_27 rfl (lv_at hl 0 rfl) ?_
    refine lv_iload_n hx hb dJ6_stringSize_0f7a4_28 rfl (lv_at hl 3 rfl) ?_
    refine lv_iadd hx hb dJ6_stringSize_0f7a4_29 ?_
    refine j_top (show ((nI 1) + (nI 0)) = nI (dgL v0).length from by rw [j_dl hv, if_pos h9]; decide) ?_
    exact W.iret hx hb hret (fun t9 ht9 hW9 => ⟨some (.int (nI (dgL v0).length)), ws, rfl, by rw [ht9]; exact hP, hD, ⟨rfl, rfl⟩, hS.F ht9⟩) hS.2.2 dJ6_stringSize_0f7a4_30
  · skip
    refine lv_icmp_le (tgt := 31) hx hb dJ6_stringSize_0f7a4_24 (by decide) (fun _ => ?_) (fun q9 => absurd ((j_d1 v0 hv).mpr (by omega)) q9)
    refine lv_bipush (v := nI 10) hx hb dJ6_stringSize_0f7a4_31 (by decide) ?_
    refine lv_iload_n hx hb dJ6_stringSize_0f7a4_33 rfl (lv_at hl 1 rfl) ?_
    refine lv_imul hx hb dJ6_stringSize_0f7a4_34 ?_
    refine j_top (show ((nI 10) * ((-10 : Int32))) = (-100 : Int32) from by decide) ?_
    refine lv_istore_n (lv' := [(2, .int ((-100 : Int32))), (3, .int (nI 1)), (0, .int (-(nI v0))), (1, .int (nI 0))]) hx hb dJ6_stringSize_0f7a4_35 rfl hl (by decide) rfl (fun sl hl => ?_)
    refine lv_iinc (k := 1) (lv' := [(3, .int (nI 2)), (2, .int ((-100 : Int32))), (0, .int (-(nI v0))), (1, .int (nI 0))]) hx hb dJ6_stringSize_0f7a4_36 hl rfl (by decide) (by decide) rfl (fun sl hl => ?_)
    refine lv_goto (tgt := 16) hx hb dJ6_stringSize_0f7a4_39 (by decide) ?_
    refine lv_iload_n hx hb dJ6_stringSize_0f7a4_16 rfl (lv_at hl 0 rfl) ?_
    refine lv_bipush (v := nI 10) hx hb dJ6_stringSize_0f7a4_17 (by decide) ?_
    refine lv_icmp_ge (tgt := 42) hx hb dJ6_stringSize_0f7a4_19 (by decide) (fun q9 => absurd q9 (by decide)) (fun _ => ?_)
    refine lv_iload_n hx hb dJ6_stringSize_0f7a4_22 rfl (lv_at hl 2 rfl) ?_
    refine lv_iload_n hx hb dJ6_stringSize_0f7a4_23 rfl (lv_at hl 1 rfl) ?_
    refine lv_icmp_le (tgt := 31) hx hb dJ6_stringSize_0f7a4_24 (by decide) (fun q9 => absurd q9 (j_d2 v0 hv)) (fun _ => ?_)
    refine lv_iload_n hx hb dJ6_stringSize_0f7a4_27 rfl (lv_at hl 0 rfl) ?_
    refine lv_iload_n hx hb dJ6_stringSize_0f7a4_28 rfl (lv_at hl 3 rfl) ?_
    refine lv_iadd hx hb dJ6_stringSize_0f7a4_29 ?_
    refine j_top (show ((nI 2) + (nI 0)) = nI (dgL v0).length from by rw [j_dl hv, if_neg h9]; decide) ?_
    exact W.iret hx hb hret (fun t9 ht9 hW9 => ⟨some (.int (nI (dgL v0).length)), ws, rfl, by rw [ht9]; exact hP, hD, ⟨rfl, rfl⟩, hS.F ht9⟩) hS.2.2 dJ6_stringSize_0f7a4_30
theorem j_updF {f : Nat → Int32} {k x : Nat} (hx : x < 128) (hf : ∀ j, fits .byte (.int (f j)) = true) : ∀ j, fits .byte (.int (upd f k (nI x) j)) = true := by
  intro j
  by_cases c : j = k
  · subst c; rw [pk_us]; exact j_fitsB hx
  · rw [pk_un c]; exact hf j
/-- Integer.getChars -/
theorem c_getChars (l : Launch) (D : va_G) (cb : ClassId) (A : Nat → Prop) {b0 v0 n0 m0 : Nat} {l0 : Int32} {a0 : Nat → Int32} {x0 p0 : Nat} (hv : x0 < 100) (hp : (dgL x0).length ≤ p0) (hpm : p0 ≤ m0) (hm : m0 ≤ 300) (hf : ∀ j, fits .byte (.int (a0 j)) = true) : jM l D cb A (fun _ _ => True) YJ6_getChars_ba4f3 0 0 0 [.int (nI x0), .int (nI p0), .ref v0] [(b0, .inr (0, [.ref v0, .int 0, .int l0, .int (nI (n0))])), (v0, .inl (cb, m0, .inl (a0)))] (fun v w => ∃ (r : Int32) (a1 : Nat → Int32), v = some (.int r) ∧ w = [(b0, .inr (0, [.ref v0, .int 0, .int l0, .int (nI (n0))])), (v0, .inl (cb, m0, .inl (a1)))] ∧ (∀ j, j < p0 - (dgL x0).length → a1 j = a0 j) ∧ (∀ i, i < (dgL x0).length → a1 (p0 - (dgL x0).length + i) = nI ((dgL x0).getD i 0)) ∧ ∀ j, fits .byte (.int (a1 j)) = true) := by
  refine jM_of (by decide) (Nat.le_of_ble_eq_true rfl) ?_
  intro p e R s m args below meth c sl F hnm hret hlk hl hP hD hLf
  obtain ⟨hx, hb, hml, hown, hts, hK, hZ, hA, hRf, hRl, hRc, hRs⟩ := id F
  have hS : va_S A s.heap s.heap [] := va_S.rf
  have hl : lv_has sl 7 [(0, .int (nI x0)), (1, .int (nI p0)), (2, .ref v0)] := hl
  have hdl := j_dl hv
  obtain ⟨d1, hz1, ht1⟩ := id hZ.2.1
  obtain ⟨d2, hz2, ht2⟩ := id hZ.2.2.1
  have hp1 : 1 ≤ p0 := by split at hdl <;> omega
  refine lv_iload_n hx hb dJ6_getChars_ba4f3_0 rfl (lv_at hl 1 rfl) ?_
  refine lv_istore (lv' := [(5, .int (nI p0)), (0, .int (nI x0)), (1, .int (nI p0)), (2, .ref v0)]) hx hb dJ6_getChars_ba4f3_1 hl (by decide) rfl (fun sl hl => ?_)
  refine lv_iload_n hx hb dJ6_getChars_ba4f3_3 rfl (lv_at hl 1 rfl) ?_
  refine lv_if_ge (tgt := 11) hx hb dJ6_getChars_ba4f3_4 (by decide) (fun _ => ?_) (fun q9 => absurd (nI_pos' (by omega)) q9)
  refine lv_iconst (v := nI 0) hx hb dJ6_getChars_ba4f3_11 (by decide) ?_
  refine lv_istore (lv' := [(6, .int (nI 0)), (5, .int (nI p0)), (0, .int (nI x0)), (1, .int (nI p0)), (2, .ref v0)]) hx hb dJ6_getChars_ba4f3_12 hl (by decide) rfl (fun sl hl => ?_)
  refine lv_iload hx hb dJ6_getChars_ba4f3_14 (lv_at hl 0 rfl) ?_
  refine lv_if_ne (tgt := 22) hx hb dJ6_getChars_ba4f3_16 (by decide) (fun q9 => absurd q9 (fun z => z rfl)) (fun _ => ?_)
  refine lv_iload_n hx hb dJ6_getChars_ba4f3_19 rfl (lv_at hl 2 rfl) ?_
  refine lv_ineg hx hb dJ6_getChars_ba4f3_20 ?_
  refine lv_istore_n (lv' := [(0, .int (-(nI x0))), (6, .int (nI 0)), (5, .int (nI p0)), (1, .int (nI p0)), (2, .ref v0)]) hx hb dJ6_getChars_ba4f3_21 rfl hl (by decide) rfl (fun sl hl => ?_)
  refine lv_iload_n hx hb dJ6_getChars_ba4f3_22 rfl (lv_at hl 0 rfl) ?_
  refine lv_bipush (v := (-100 : Int32)) hx hb dJ6_getChars_ba4f3_23 (by decide) ?_
  refine lv_icmp_gt (tgt := 72) hx hb dJ6_getChars_ba4f3_25 (by decide) (fun _ => ?_) (fun q9 => absurd (j_d3 x0 hv) q9)
  refine lv_aload_n hx hb dJ6_getChars_ba4f3_72 rfl (lv_at hl 4 rfl) ?_
  refine lv_iinc (k := 2) (lv' := [(5, .int (nI (p0 - 1))), (0, .int (-(nI x0))), (6, .int (nI 0)), (1, .int (nI p0)), (2, .ref v0)]) hx hb dJ6_getChars_ba4f3_73 hl rfl (j_m1 hp1) (by decide) rfl (fun sl hl => ?_)
  refine lv_iload hx hb dJ6_getChars_ba4f3_76 (lv_at hl 0 rfl) ?_
  refine va_gets hx hb hz1 hS hown (hts _ jg_1253) (fun _ h => h) dJ6_getChars_ba4f3_78 ?_
  refine lv_iload_n hx hb dJ6_getChars_ba4f3_81 rfl (lv_at hl 1 rfl) ?_
  refine lv_ineg hx hb dJ6_getChars_ba4f3_82 ?_
  refine j_top (show (-(-(nI x0))) = nI x0 from Int32.neg_neg) ?_
  refine va_tb hx hb ht1 hS (vp_in_nI hv (by decide)) (v := .int (nI (48 + x0 % 10))) (by rw [nI_clamp (by omega)]) dJ6_getChars_ba4f3_83 ?_
  refine va_bast hx hb hK hP hD hS 1 0 (cA := cb) (n := m0) (f := a0) rfl rfl (vp_in_nI (by omega) (by omega)) dJ6_getChars_ba4f3_84 (fun H locs hP hD hS => ?_)
  rw [nI_clamp (by omega), j_nar _ (by omega)] at hP hD
  have hP : va_P D jcl [(b0, .inr (0, [.ref v0, .int 0, .int l0, .int (nI (n0))])), (v0, .inl (cb, m0, .inl (upd (a0) (p0 - 1) (nI (48 + x0 % 10)))))] H := hP
  have hD : va_D A [(b0, .inr (0, [.ref v0, .int 0, .int l0, .int (nI (n0))])), (v0, .inl (cb, m0, .inl (upd (a0) (p0 - 1) (nI (48 + x0 % 10)))))] := hD
  refine lv_iload_n hx hb dJ6_getChars_ba4f3_85 rfl (lv_at hl 1 rfl) ?_
  refine lv_bipush (v := (-9 : Int32)) hx hb dJ6_getChars_ba4f3_86 (by decide) ?_
  by_cases h9 : x0 < 10
  · skip
    rw [if_pos h9] at hdl
    refine lv_icmp_ge (tgt := 104) hx hb dJ6_getChars_ba4f3_88 (by decide) (fun _ => ?_) (fun q9 => absurd ((j_d4 x0 hv).mpr h9) q9)
    refine lv_iload hx hb dJ6_getChars_ba4f3_104 (lv_at hl 2 rfl) ?_
    refine lv_if_eq (tgt := 118) hx hb dJ6_getChars_ba4f3_106 (by decide) (fun _ => ?_) (fun q9 => absurd rfl q9)
    refine lv_iload hx hb dJ6_getChars_ba4f3_118 (lv_at hl 0 rfl) ?_
    have eg : dgL x0 = [48 + x0 % 10] := by unfold dgL; rw [if_neg (by omega), if_neg (by omega)]; rfl
    have hd : ∀ i, i < (dgL x0).length → upd a0 (p0 - 1) (nI (48 + x0 % 10)) (p0 - (dgL x0).length + i) = nI ((dgL x0).getD i 0) := by
      intro i hi
      obtain rfl : i = 0 := by omega
      rw [hdl, Nat.add_zero, pk_us, eg]
      rfl
    exact W.iret hx hb hret (fun t9 ht9 hW9 => ⟨some (.int (nI (p0 - 1))), [(b0, .inr (0, [.ref v0, .int 0, .int l0, .int (nI (n0))])), (v0, .inl (cb, m0, .inl (upd (a0) (p0 - 1) (nI (48 + x0 % 10)))))], rfl, by rw [ht9]; exact hP, hD, ⟨_, _, rfl, rfl, fun j hj => pk_un (by omega), hd, j_updF (by omega) hf⟩, hS.F ht9⟩) hS.2.2 dJ6_getChars_ba4f3_120
  · skip
    rw [if_neg h9] at hdl
    refine lv_icmp_ge (tgt := 104) hx hb dJ6_getChars_ba4f3_88 (by decide) (fun q9 => absurd q9 (fun z => h9 ((j_d4 x0 hv).mp z))) (fun _ => ?_)
    refine lv_aload_n hx hb dJ6_getChars_ba4f3_91 rfl (lv_at hl 4 rfl) ?_
    refine lv_iinc (k := 0) (lv' := [(5, .int (nI (p0 - 1 - 1))), (0, .int (-(nI x0))), (6, .int (nI 0)), (1, .int (nI p0)), (2, .ref v0)]) hx hb dJ6_getChars_ba4f3_92 hl rfl (j_m1 (by omega)) (by decide) rfl (fun sl hl => ?_)
    refine lv_iload hx hb dJ6_getChars_ba4f3_95 (lv_at hl 0 rfl) ?_
    refine va_gets hx hb hz2 hS hown (hts _ jg_1255) (fun _ h => h) dJ6_getChars_ba4f3_97 ?_
    refine lv_iload_n hx hb dJ6_getChars_ba4f3_100 rfl (lv_at hl 1 rfl) ?_
    refine lv_ineg hx hb dJ6_getChars_ba4f3_101 ?_
    refine j_top (show (-(-(nI x0))) = nI x0 from Int32.neg_neg) ?_
    refine va_tb hx hb ht2 hS (vp_in_nI hv (by decide)) (v := .int (nI (48 + x0 / 10))) (by rw [nI_clamp (by omega)]) dJ6_getChars_ba4f3_102 ?_
    refine va_bast hx hb hK hP hD hS 1 0 (cA := cb) (n := m0) (f := upd (a0) (p0 - 1) (nI (48 + x0 % 10))) rfl rfl (vp_in_nI (by omega) (by omega)) dJ6_getChars_ba4f3_103 (fun H locs hP hD hS => ?_)
    rw [nI_clamp (by omega), j_nar _ (by omega)] at hP hD
    have hP : va_P D jcl [(b0, .inr (0, [.ref v0, .int 0, .int l0, .int (nI (n0))])), (v0, .inl (cb, m0, .inl (upd (upd (a0) (p0 - 1) (nI (48 + x0 % 10))) (p0 - 1 - 1) (nI (48 + x0 / 10)))))] H := hP
    have hD : va_D A [(b0, .inr (0, [.ref v0, .int 0, .int l0, .int (nI (n0))])), (v0, .inl (cb, m0, .inl (upd (upd (a0) (p0 - 1) (nI (48 + x0 % 10))) (p0 - 1 - 1) (nI (48 + x0 / 10)))))] := hD
    refine lv_iload hx hb dJ6_getChars_ba4f3_104 (lv_at hl 2 rfl) ?_
    refine lv_if_eq (tgt := 118) hx hb dJ6_getChars_ba4f3_106 (by decide) (fun _ => ?_) (fun q9 => absurd rfl q9)
    refine lv_iload hx hb dJ6_getChars_ba4f3_118 (lv_at hl 0 rfl) ?_
    have eg : dgL x0 = [48 + x0 / 10 % 10, 48 + x0 % 10] := by unfold dgL; rw [if_neg (by omega), if_pos (by omega)]; rfl
    have hd : ∀ i, i < (dgL x0).length → (upd (upd (a0) (p0 - 1) (nI (48 + x0 % 10))) (p0 - 1 - 1) (nI (48 + x0 / 10))) (p0 - (dgL x0).length + i) = nI ((dgL x0).getD i 0) := by
      intro i hi
      have ci : i = 0 ∨ i = 1 := by omega
      rw [hdl, eg]
      rcases ci with rfl | rfl
      · rw [show p0 - 2 + 0 = p0 - 1 - 1 by omega, pk_us]; exact congrArg nI (show 48 + x0 / 10 = 48 + x0 / 10 % 10 by omega)
      · rw [show p0 - 2 + 1 = p0 - 1 by omega, pk_un (by omega), pk_us]; rfl
    exact W.iret hx hb hret (fun t9 ht9 hW9 => ⟨some (.int (nI (p0 - 1 - 1))), [(b0, .inr (0, [.ref v0, .int 0, .int l0, .int (nI (n0))])), (v0, .inl (cb, m0, .inl (upd (upd (a0) (p0 - 1) (nI (48 + x0 % 10))) (p0 - 1 - 1) (nI (48 + x0 / 10)))))], rfl, by rw [ht9]; exact hP, hD, ⟨_, _, rfl, rfl, fun j hj => (pk_un (by omega)).trans (pk_un (by omega)), hd, j_updF (by omega) (j_updF (by omega) hf)⟩, hS.F ht9⟩) hS.2.2 dJ6_getChars_ba4f3_120

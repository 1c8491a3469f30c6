/-! ===== the law's case of row ===== -/
theorem rwC_uq {vs vs' : List Int32} {u : lt_m} (h : rwC vs u) (h' : rwC vs' u) (l1 : vs.length ≤ 12) (l2 : vs'.length ≤ 12) : vs = vs' := by
  have e : vs.length = vs'.length := (nI_eq (by omega) (by omega)).mp (h.1.symm.trans h'.1)
  refine List.ext_getElem? fun j => ?_
  rcases Nat.lt_or_ge j vs.length with c | c
  · have g1 := h.2 j _ (List.getElem?_eq_getElem c)
    have c' : j < vs'.length := by omega
    have g2 := h'.2 j _ (List.getElem?_eq_getElem c')
    rw [List.getElem?_eq_getElem c, List.getElem?_eq_getElem c', ← g1, ← g2]
  · rw [List.getElem?_eq_none c, List.getElem?_eq_none (by omega)]
theorem RR_729 {dist wl : DT} {T : Nat} {u : lt_m} (hr : RR dist wl T u) (v : Int64) : RR dist wl T (lm_l u 729 0 v) := by
  obtain ⟨N, w, vs, hs, hl, hc, hm⟩ := hr
  refine ⟨N, w, vs, RS_fr same_l hs, hl, hc, hm.1, fun j q hq => ?_⟩
  show (if 719 = 729 ∧ j = 0 then v else u.2.1 719 j) = q.toInt64
  rw [if_neg (by omega)]
  exact hm.2 j q hq
theorem wz_ini : Cond.initialized RL ∈ lw_tbl := List.mem_of_getElem? (i := 74) (by decide +kernel)
theorem lr_par : (parseMethodDescriptor yL_row.desc).map (fun d => d.parameters.length) = some 3 := by decide +kernel
theorem lr_ws_good : GoodIn lw_tbl lr_ws := by
  intro w hw
  rcases List.mem_cons.mp hw with rfl | hw
  · exact ⟨ts_in_of lr_cw_at _ (by simp), good_of_word lr_cw_good⟩
  · exact ⟨(List.mem_filter.mp hw).1, good_of_word (List.mem_filter.mp hw).2⟩
theorem dq_1423 : decode code 1423 = .ok (.aload_n 1, 1) := by decide +kernel
theorem dq_1424 : wz_ag 1424 1 := by decide +kernel
theorem dq_1430 : decode code 1430 = .ok (.aload_n 3, 1) := by decide +kernel
theorem dq_1431 : decode code 1431 = .ok (.invokestatic 196, 3) := by decide +kernel
theorem dq_1434 : decode code 1434 = .ok (.istore 5, 2) := by decide +kernel
theorem dq_1436 : decode code 1436 = .ok (.aload_n 2, 1) := by decide +kernel
theorem dq_1437 : wz_ag 1437 1 := by decide +kernel
theorem dq_1443 : decode code 1443 = .ok (.invokevirtual 201, 3) := by decide +kernel
theorem dq_1446 : decode code 1446 = .ok (.lstore 6, 2) := by decide +kernel
theorem dq_1448 : decode code 1448 = .ok (.aload_n 2, 1) := by decide +kernel
theorem dq_1449 : decode code 1449 = .ok (.invokevirtual 202, 3) := by decide +kernel
theorem dq_1452 : decode code 1452 = .ok (.iload 5, 2) := by decide +kernel
theorem dq_1454 : decode code 1454 = .ok (.if_icmp .eq 5, 3) := by decide +kernel
theorem dq_1459 : decode code 1459 = .ok (.iload 5, 2) := by decide +kernel
theorem dq_1461 : decode code 1461 = .ok (.ifCond .ne 14, 3) := by decide +kernel
theorem dq_1464 : decode code 1464 = .ok (.aload_n 3, 1) := by decide +kernel
theorem dq_1465 : decode code 1465 = .ok (.iconst 0, 1) := by decide +kernel
theorem dq_1466 : decode code 1466 = .ok (.laload, 1) := by decide +kernel
theorem dq_1467 : decode code 1467 = .ok (.lload 6, 2) := by decide +kernel
theorem dq_1469 : decode code 1469 = .ok (.lcmp, 1) := by decide +kernel
theorem dq_1470 : decode code 1470 = .ok (.ifCond .eq 5, 3) := by decide +kernel
theorem dq_1475 : decode code 1475 = .ok (.goto 3, 3) := by decide +kernel
theorem lg_cmp_eq0 (x : Int64) : lg_cmp x x = 0 := by
  unfold lg_cmp
  rw [if_neg (fun h => Int64.lt_irrefl h), if_pos rfl]
section LAW
variable {p : Program} {l : Launch} {e : Env} {s : State} {m : MethodId} {below : List Frame} {meth : Method} {c : Code} {b L : Nat} {xs : Nat → Int32} {D : va_G} {B : Nat} {cA : Nat → ClassId} {H : Heap} {locs : List Loc} {cells slots : Nat} {Q : State → Prop}
theorem wz_row (hfl : l.stackTraces = false) (G : LW p s m c b L xs D B cA) {i T : Nat} {u : lt_m} {ls : Array Slot} (hi : i + 4 ≤ L) (hr : RR dsD wlD T u) (hc : cells + 1 ≤ room_1.cells) (hs : slots + 6 ≤ room_1.slots) (hW : ts_Wd D B cA (ts_fl u) H) (hS : va_S (fun q : Nat => B ≤ q) s.heap H locs) (hl : lv_has ls 8 (wz_lv b B i))
    (kk : wz_K p l e s m below meth c b D B cA (cells + 1) (slots + 6) Q i T 1478) : W p l e room_1 s m #[Value.ref b] below meth c H locs cells slots Q (F0 m 1423 ls []) := by
  obtain ⟨N, w, vs, -, hvl, hrw, -⟩ := id hr
  have key : ∃ (k : Int32) (u1 : lt_m), Met l yL_row lr_ws lr_rm (lr_Pc D B cA u (xs (i + 1))) (ts_Qc D B cA (some (.inl k)) (ts_fl u1)) 1 6 (fun q : Nat => B ≤ q) ∧ RR dsD wlD T u1 ∧ rwC vs u1 ∧ ((∃ j v, xs (i + 1) = nI j ∧ vs[j]? = some v ∧ k = 0 ∧ u1.2.1 729 0 = v.toInt64) ∨ ((xs (i + 1) < 0 ∨ nI vs.length ≤ xs (i + 1)) ∧ k = 1)) := by
    rcases pk_ix (xs (i + 1)) (n := vs.length) (by omega) with q | q | ⟨j, hj, hx9⟩
    · exact ⟨1, u, lr_out hfl D B cA hrw hvl (Or.inl q), hr, hrw, Or.inr ⟨Or.inl q, rfl⟩⟩
    · exact ⟨1, u, lr_out hfl D B cA hrw hvl (Or.inr q), hr, hrw, Or.inr ⟨Or.inr q, rfl⟩⟩
    · refine ⟨0, lm_l u 729 0 vs[j].toInt64, ?_, RR_729 hr _, hrw, Or.inl ⟨j, vs[j], hx9, List.getElem?_eq_getElem hj, rfl, ?_⟩⟩
      · rw [hx9]
        exact lr_in D B cA hrw hvl (List.getElem?_eq_getElem hj)
      · show (if 729 = 729 ∧ 0 = 0 then vs[j].toInt64 else u.2.1 729 0) = vs[j].toInt64
        rw [if_pos ⟨rfl, rfl⟩]
  obtain ⟨k, u1, hMet, hr1, hrw1, hk⟩ := key
  obtain ⟨k2, v2, u2, e1, e2, hr2, h2, vs', hrw', hvl', hk'⟩ := ref_row 0 hr1 (xs (i + 1))
  cases rwC_uq hrw1 hrw' hvl hvl'
  have hkk : k2 = k ∧ (k = 0 → u2.2.1 729 0 = v2) := by
    rcases hk with ⟨j, v, a1, a2, a3, a4⟩ | ⟨a1, a3⟩ <;> rcases hk' with ⟨j', v', b1, b2, b3, b4⟩ | ⟨b1, b3⟩
    · have hj1 := (List.getElem?_eq_some_iff.mp a2).1
      have hj2 := (List.getElem?_eq_some_iff.mp b2).1
      have hjj : j = j' := (nI_eq (by omega) (by omega)).mp (a1.symm.trans b1)
      subst hjj
      rw [a2] at b2
      cases b2
      exact ⟨b3.trans a3.symm, fun _ => by rw [h2, a4, b4]⟩
    · exfalso
      have hj1 := (List.getElem?_eq_some_iff.mp a2).1
      rw [a1] at b1
      rcases b1 with q | q
      · have h1 := Int32.lt_iff_toInt_lt.mp q
        rw [nI_toInt (by omega)] at h1
        have h3 : (0 : Int32).toInt = 0 := rfl
        omega
      · exact nI_ge hj1 (by omega) q
    · exfalso
      have hj1 := (List.getElem?_eq_some_iff.mp b2).1
      rw [b1] at a1
      rcases a1 with q | q
      · have h1 := Int32.lt_iff_toInt_lt.mp q
        rw [nI_toInt (by omega)] at h1
        have h3 : (0 : Int32).toInt = 0 := rfl
        omega
      · exact nI_ge hj1 (by omega) q
    · exact ⟨b3.trans a3.symm, fun q => by rw [a3] at q; cases q⟩
  obtain ⟨rfl, hk0⟩ := hkk
  obtain ⟨hx, hb, hml, hown, hts, hT, hK, hNw, hA4, hA2, hB, hRf, hRl⟩ := G.1
  refine lv_aload_n hx hb dq_1423 rfl (lv_at hl 1 rfl) ?_
  refine wz_arg (i := i) G (j := 1) (by decide) (by omega) dq_1424 hl (by simp [wz_lv]) (by simp [wz_lv]) hS ?_
  refine lv_aload_n hx hb dq_1430 rfl (lv_at hl 3 rfl) ?_
  have cw : vx_CSW room_1 s #[Value.ref b] RL 196 yL_row cL_row 4 (some .int) [(0, 8, 11, 13)] lr_ws lr_rm 1 6 3 := ⟨⟨rfl, rfl, by decide, by decide, pay_in hts lr_ws_good, List.mem_cons_self⟩, hts _ (ts_in_of lr_cw_at lr_cw (by simp)), hts _ wz_ini, ⟨by decide, by decide⟩, fun sig h => by
    have h9 := lr_par
    rw [h] at h9
    exact (Option.some.inj h9).symm, hts _ (ts_in_of lr_cw_at _ (by simp)), hts _ (ts_in_of lr_cw_at _ (by simp))⟩
  refine ts_after (vx_runSW (As := [.ref (B + 0), .int (xs (i + 1)), .ref (B + 729)]) (rest := []) ⟨hx, hb, hml, hown, hts⟩ hMet cw ⟨lr_Pc.blind, fun U hU hW2 => ⟨rfl, lx_U hK hNw hA4 hA2 hW (Nat.le_trans hB hS.1) (Or.inr rfl) hU hW2, by rw [hU]; exact (G.2.2.2.2.1.kept hS.2.1).warm hW2⟩⟩ rfl rfl hl.1 rfl (lv_room (by show 0 ≤ 8; decide)) dq_1431 ⟨hc, hs⟩) hS (fun H1 locs1 hW1 hS1 => ?_)
  refine lv_istore (lv' := (5, .int k2) :: wz_lv b B i) hx hb dq_1434 hl (by decide) rfl (fun ls1 hl1 => ?_)
  refine lv_aload_n hx hb dq_1436 rfl (lv_at hl1 3 rfl) ?_
  refine wz_arg (i := i) G (j := 1) (by decide) (by omega) dq_1437 hl1 (by simp [wz_lv]) (by simp [wz_lv]) hS1 ?_
  refine wz_call (As := [.inl (xs (i + 1))]) (rest := []) G (y := 274) (x := 201) (n := 1) (c9 := 12) (by decide +kernel) e1 sy (by decide) rfl hl1.1 rfl (by show 0 ≤ 8; decide) dq_1443 hc hs hW1 hS1 (fun H2 locs2 hW2 hS2 => ?_)
  refine lv_lstore (lv' := (6, .long v2) :: (5, .int k2) :: wz_lv b B i) hx hb dq_1446 hl1 (by decide) rfl (fun ls2 hl2 => ?_)
  refine lv_aload_n hx hb dq_1448 rfl (lv_at hl2 4 rfl) ?_
  refine wz_call (As := []) (rest := []) G (y := 178) (x := 202) (n := 0) (c9 := 12) (by decide +kernel) e2 sy (by decide) rfl hl2.1 rfl (by show 0 ≤ 8; decide) dq_1449 hc hs hW2 hS2 (fun H3 locs3 hW3 hS3 => ?_)
  refine lv_iload hx hb dq_1452 (lv_at hl2 1 rfl) ?_
  refine lv_icmp_eq (tgt := 1459) hx hb dq_1454 (by decide) (fun _ => ?_) (fun q => absurd rfl q)
  have fin : W p l e room_1 s m #[Value.ref b] below meth c H3 locs3 (cells + 1) (slots + 6) Q (F0 m 1475 ls2 []) :=
    lv_goto (tgt := 1478) hx hb dq_1475 (by decide) (kk H3 locs3 u2 ls2 hW3 hS3 hr2 (lv_sub hl2 [2, 3, 4, 5, 6] rfl))
  refine lv_iload hx hb dq_1459 (lv_at hl2 1 rfl) ?_
  refine lv_if_ne (tgt := 1475) hx hb dq_1461 (by decide) (fun _ => fin) (fun q0 => ?_)
  refine lv_aload_n hx hb dq_1464 rfl (lv_at hl2 5 rfl) ?_
  refine lv_iconst (v := 0) hx hb dq_1465 (by decide) ?_
  refine va_lald hx hb hK hW3.1 729 2 (by rw [ts_w_at (by show 729 < ts_NN; decide), ts_ent_3 (by rw [s729])]) rfl (ts_vin (Int32.le_refl 0) (by rw [s729]; decide)) dq_1466 ?_
  refine lv_lload hx hb dq_1467 (lv_at hl2 0 rfl) ?_
  refine W.lcmp hx hb dq_1469 ?_
  refine lv_if_eq (tgt := 1475) hx hb dq_1470 (by decide) (fun _ => fin) (fun q => absurd ?_ q)
  have h9 : (ts_fl u2).2.1 729 ((0 : Int32).toNatClampNeg) = v2 := hk0 q0
  rw [h9]
  exact lg_cmp_eq0 v2
end LAW

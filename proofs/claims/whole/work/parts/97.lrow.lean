/-! ===== the law's own row: it takes the number, or catches what the class throws ===== -/
def lr_cw : Cond := Cond.codeWith yL_row cL_row 4 (some .int) [(0, 8, 11, 13)]
def lr_ws : List Cond := lr_cw :: ts_tb
set_option maxRecDepth 100000 in
theorem lr_cw_at : ([lr_cw, Cond.classLink RL 13 rx_ns, Cond.methodLink RL 7 yX11_row, Cond.methodLink RL 196 yL_row, Cond.static yL_row, Cond.selects RX11 yX11_row yX11_row] : List Cond).map some = ([1171, 1172, 1173, 1169, 1170, 1175] : List Nat).map (fun i => lw_tbl[i]?) := by decide +kernel
theorem lr_cw_good : goodWord lr_cw = true := by first | rfl | decide +kernel
theorem dr_0 : decode cL_row 0 = .ok (.aload_n 2, 1) := by decide +kernel
theorem dr_1 : decode cL_row 1 = .ok (.iconst 0, 1) := by decide +kernel
theorem dr_2 : decode cL_row 2 = .ok (.aload_n 0, 1) := by decide +kernel
theorem dr_3 : decode cL_row 3 = .ok (.iload_n 1, 1) := by decide +kernel
theorem dr_4 : decode cL_row 4 = .ok (.invokevirtual 7, 3) := by decide +kernel
theorem dr_7 : decode cL_row 7 = .ok (.lastore, 1) := by decide +kernel
theorem dr_8 : decode cL_row 8 = .ok (.goto 6, 3) := by decide +kernel
theorem dr_11 : decode cL_row 11 = .ok (.astore_n 3, 1) := by decide +kernel
theorem dr_12 : decode cL_row 12 = .ok (.iconst 1, 1) := by decide +kernel
theorem dr_13 : decode cL_row 13 = .ok (.ireturn, 1) := by decide +kernel
theorem dr_14 : decode cL_row 14 = .ok (.iconst 0, 1) := by decide +kernel
theorem dr_15 : decode cL_row 15 = .ok (.ireturn, 1) := by decide +kernel
def lr_rm : Room := { frames := 10, cells := 1, slots := 6, locals := 400 }
def lr_Pc (D : va_G) (B : Nat) (cA : Nat → ClassId) (u : lt_m) (x : Int32) : Array Value → State → Prop := va_Pc [.ref (B + 0), .int x, .ref (B + 729)] (fun U => ts_St D B cA (ts_fl u) U ∧ rx_X B U U.heap)
theorem lr_Pc.blind {D : va_G} {B : Nat} {cA : Nat → ClassId} {u : lt_m} {x : Int32} : FrameBlind (lr_Pc D B cA u x) := by
  intro a U g mk h
  have h1 : ts_Pc D B cA (ts_fl u) [.inr (.inr (some 0)), .inl x, .inr (.inr (some 729))] a U := ⟨h.1, h.2.1⟩
  have h2 := ts_St.blind a U g mk h1
  exact ⟨h2.1, h2.2, rx_X.same (u := U) (U := U.calling g mk a) rfl h.2.2⟩
theorem ni175 : ts_ni 175 := fun q hq => by
  rw [hY175] at hq
  cases hq
  decide
theorem lr_par7 : (parseMethodDescriptor yX11_row.desc).map (fun d => d.parameters.length) = some 1 := by decide +kernel
theorem lr_cov : covers ⟨0, 8, 11, 13⟩ 4 = true := by decide +kernel
/-- in place -/
theorem lr_in {l : Launch} (D : va_G) (B : Nat) (cA : Nat → ClassId) {u : lt_m} {vs : List Int32} {j : Nat} {v : Int32} (hrw : rwC vs u) (hvl : vs.length ≤ 12) (hv9 : vs[j]? = some v) :
    Met l yL_row lr_ws lr_rm (lr_Pc D B cA u (nI j)) (ts_Qc D B cA (some (.inl 0)) (ts_fl (lm_l u 729 0 v.toInt64))) 1 6 (fun q : Nat => B ≤ q) := by
  refine va_MetW (cc := cL_row) (maxL := 4) (ret := some .int) (hh := [(0, 8, 11, 13)]) (by decide) rfl ?_
  intro p e s mm args below meth c s₁ Bd hml hv
  obtain ⟨rfl, ⟨hWd, hK, hNw, hA4, hA2, hB, hz⟩, hX⟩ := hv
  have hts : ∀ w ∈ lr_ws, w.before _ s = true := atoms_spec (ws := lr_ws) Bd.pre
  have htb : ∀ w ∈ ts_tb, w.before _ s = true := fun w h => hts w (List.mem_cons_of_mem _ h)
  have hown : s.vm.findClass RL = some mm.cls := findClass_of_methodNamed Bd.named
  have F : lx_F p (headSpec lr_ws lr_rm).room s mm _ c RL cL_row 4 lr_ws D B cA 3 := ⟨Bd.exec, Bd.bytes, hml, hown, hts, fun w h => List.mem_cons_of_mem _ h, hK, hNw, hA4, hA2, hB, by decide, by decide⟩
  have hl := lv_entry [.ref (B + 0), .int (nI j), .ref (B + 729)] (n := 4) (Nat.le_of_ble_eq_true rfl)
  rw [lg_entry_eq]
  generalize (lg_sl [.ref (B + 0), .int (nI j), .ref (B + 729)] ++ List.replicate (4 - (lg_sl [.ref (B + 0), .int (nI j), .ref (B + 729)]).length) Slot.unset).toArray = sl at hl ⊢
  have hl : lv_has sl 4 [(0, .ref (B + 0)), (1, .int (nI j)), (2, .ref (B + 729))] := hl
  refine lv_aload_n Bd.exec Bd.bytes dr_0 rfl (lv_at hl 2 rfl) ?_
  refine lv_iconst (v := 0) Bd.exec Bd.bytes dr_1 (by decide) ?_
  refine lv_aload_n Bd.exec Bd.bytes dr_2 rfl (lv_at hl 0 rfl) ?_
  refine lv_iload_n Bd.exec Bd.bytes dr_3 rfl (lv_at hl 1 rfl) ?_
  refine lx_callL (As := [.inl (nI j)]) (rest := [.int 0, .ref (B + 729)]) F hY175 (htb _ (ts_gd_in ⟨ts_in_of lr_cw_at (Cond.selects RX11 yX11_row yX11_row) (by simp), rfl⟩)) rfl ni175 (htb _ (ts_gd_in ⟨ts_in_of lr_cw_at _ (by simp), rfl⟩)) lr_par7 (row_in 0 hrw hvl hv9) s0_11 (by decide) rfl hl.1 rfl (by show 1 + (1 + 0) ≤ 8; decide) dr_4 (by decide) (by decide) hWd va_S.rf (fun H1 locs1 hW1 hS1 => ?_)
  refine va_last Bd.exec Bd.bytes hK hW1.1 ts_D hS1 729 2 (by rw [ts_w_at (by show 729 < ts_NN; decide), ts_ent_3 (by rw [s729])]) rfl (ts_vin (Int32.le_refl 0) (by rw [s729]; decide)) dr_7 (fun H2 locs2 hP2 _ hS2 => ?_)
  have hW2 : ts_Wd D B cA (ts_fl (lm_l u 729 0 v.toInt64)) H2 := by
    refine ⟨?_, hW1.2⟩
    have := ts_w_astL (B := B) (cA := cA) (M := ts_fl u) (a := 729) (j := 0) (v := v.toInt64) (by show 729 < ts_NN; decide) (by rw [s729])
    exact this ▸ hP2
  refine lv_goto (tgt := 14) Bd.exec Bd.bytes dr_8 (by decide) ?_
  refine lv_iconst (v := 0) Bd.exec Bd.bytes dr_14 (by decide) ?_
  refine W.widen (k := 1) (n := 6) (by decide) (by decide) ?_
  exact W.iret Bd.exec Bd.bytes Bd.returns (fun t ht _ => ⟨rfl, by rw [ht]; exact hW2, hS2.F ht⟩) hS2.2.2 dr_15 Bd.notSynchronized
/-- out of place -/
theorem lr_out {l : Launch} (hl9 : l.stackTraces = false) (D : va_G) (B : Nat) (cA : Nat → ClassId) {u : lt_m} {vs : List Int32} {x : Int32} (hrw : rwC vs u) (hvl : vs.length ≤ 12) (hx9 : x < 0 ∨ nI vs.length ≤ x) :
    Met l yL_row lr_ws lr_rm (lr_Pc D B cA u x) (ts_Qc D B cA (some (.inl 1)) (ts_fl u)) 1 6 (fun q : Nat => B ≤ q) := by
  refine va_MetW (cc := cL_row) (maxL := 4) (ret := some .int) (hh := [(0, 8, 11, 13)]) (by decide) rfl ?_
  intro p e s mm args below meth c s₁ Bd hml hv
  obtain ⟨rfl, ⟨hWd, hK, hNw, hA4, hA2, hB, hz⟩, hX⟩ := hv
  have hts : ∀ w ∈ lr_ws, w.before _ s = true := atoms_spec (ws := lr_ws) Bd.pre
  have htb : ∀ w ∈ ts_tb, w.before _ s = true := fun w h => hts w (List.mem_cons_of_mem _ h)
  have hown : s.vm.findClass RL = some mm.cls := findClass_of_methodNamed Bd.named
  have hl := lv_entry [.ref (B + 0), .int x, .ref (B + 729)] (n := 4) (Nat.le_of_ble_eq_true rfl)
  rw [lg_entry_eq]
  generalize (lg_sl [.ref (B + 0), .int x, .ref (B + 729)] ++ List.replicate (4 - (lg_sl [.ref (B + 0), .int x, .ref (B + 729)]).length) Slot.unset).toArray = sl at hl ⊢
  have hl : lv_has sl 4 [(0, .ref (B + 0)), (1, .int x), (2, .ref (B + 729))] := hl
  refine lv_aload_n Bd.exec Bd.bytes dr_0 rfl (lv_at hl 2 rfl) ?_
  refine lv_iconst (v := 0) Bd.exec Bd.bytes dr_1 (by decide) ?_
  refine lv_aload_n Bd.exec Bd.bytes dr_2 rfl (lv_at hl 0 rfl) ?_
  refine lv_iload_n Bd.exec Bd.bytes dr_3 rfl (lv_at hl 1 rfl) ?_
  have hqm : Y175 ∈ ts_mL := List.mem_of_getElem? hY175
  have hini : (Cond.initialized RX11).before _ s = true := htb _ (ts_gd_in (ts_wi_gd _ (List.mem_map.mpr ⟨Y175, hqm, rfl⟩)))
  have hwk : (Cond.instanceMethod yX11_row).before _ s = true := htb _ (ts_gd_in (ts_wk_gd _ (List.mem_map.mpr ⟨Y175, hqm, rfl⟩)))
  have hsel : (Cond.selects RX11 yX11_row yX11_row).before _ s = true := htb _ (ts_gd_in ⟨ts_in_of lr_cw_at _ (by simp), rfl⟩)
  have hlink : (Cond.methodLink RL 7 yX11_row).before _ s = true := htb _ (ts_gd_in ⟨ts_in_of lr_cw_at _ (by simp), rfl⟩)
  have hG : GoodIn lr_ws (ts_ws Y175) := lx_good (fun w h => List.mem_cons_of_mem _ h) hqm
  have hrcv : ∃ cellB : Cell, s.heap[B + 0]? = some cellB ∧ cellB.vm.isStatics = false ∧ s.vm.findClass RX11 = some cellB.cls := va_recv hK hWd.1 (ts_cl_at (c := 11) (by decide)) (ts_hent s0_11 (by show 0 < ts_NN; decide))
  have hrun := vx_runV (R := (headSpec lr_ws lr_rm).room) (l := l) (e := e) (below := below) (meth := meth) (locs := []) (cells := 0) (slots := 0) (As := [.int x]) (rest := [.int 0, .ref (B + 729)]) (g := F0 mm 4 sl [.int x, .ref (B + 0), .int 0, .ref (B + 729)]) ⟨Bd.exec, Bd.bytes, hml, hown, hts⟩ (row_out hl9 D B cA hrw hvl hx9)
    ⟨callB_of 1 hts hG rfl rfl rfl hini hlink ⟨by decide, by decide, lr_par7⟩ ⟨by decide, by decide⟩, hwk, hsel⟩ ⟨rx_Pc.blind, hrcv, fun U hU hW2 => ⟨rfl, lx_U hK hNw hA4 hA2 hWd hB (Or.inr rfl) hU hW2, by rw [hU]; exact hX.warm hW2⟩⟩ rfl rfl hl.1 rfl (lv_room (by show 1 + (1 + 0) ≤ 8; decide)) dr_4 ⟨by decide, by decide⟩
  intro T hT X
  rcases hrun T hT X with ⟨_, _, _, _, _, _, _, _, _, _, hq, _⟩ | ⟨q, st₀, t, T', L, E, ce, h0, X', hL, e1, e2, ⟨rfl, hW1, hF⟩, hce, hcv, hcl, st⟩
  · exact hq.elim
  · obtain ⟨k1, k2, hS1⟩ := vx_keep (A0 := fun q : Nat => B ≤ q) (H0 := s.heap) (locs := []) h0 e1 va_S.rf (fun q _ h => h) (fun q h => h) hL hF
    have hW1' : ts_Wd D B cA (ts_fl u) T'.heap := by rw [e1]; exact hW1
    have fin : W p l e (headSpec lr_ws lr_rm).room s mm [.ref (B + 0), .int x, .ref (B + 729)].toArray below meth c T'.heap ([] ++ L) 1 6 (MQ below (ts_Qc D B cA (some (.inl 1)) (ts_fl u)) [.ref (B + 0), .int x, .ref (B + 729)].toArray s 1 6 (fun q : Nat => B ≤ q)) (F0 mm 11 sl [.ref q]) := by
      refine lv_astore_n (lv' := [(3, .ref q), (0, .ref (B + 0)), (1, .int x), (2, .ref (B + 729))]) Bd.exec Bd.bytes dr_11 rfl hl (by decide) rfl (fun sl1 hl1 => ?_)
      refine lv_iconst (v := 1) Bd.exec Bd.bytes dr_12 (by decide) ?_
      exact W.iret Bd.exec Bd.bytes Bd.returns (fun t ht _ => ⟨rfl, by rw [ht]; exact hW1', hS1.F ht⟩) hS1.2.2 dr_13 Bd.notSynchronized
    have hx : vx_W p l e (headSpec lr_ws lr_rm).room s mm [.ref (B + 0), .int x, .ref (B + 729)].toArray below meth c T'.heap ([] ++ L) 1 6 (MQ below (ts_Qc D B cA (some (.inl 1)) (ts_fl u)) [.ref (B + 0), .int x, .ref (B + 729)].toArray s 1 6 (fun q : Nat => B ≤ q)) (F0 mm 4 sl [.int 0, .ref (B + 729)]) q :=
      vx_catch (own := RL) (name := rx_ns) hown [] ⟨0, 8, 11, 13⟩ [] (vx_table (x := yL_row) Bd (hts _ List.mem_cons_self)) (fun z hz => nomatch hz) lr_cov (by decide) (htb _ (ts_gd_in ⟨ts_in_of lr_cw_at _ (by simp), rfl⟩)) (va_Nw.use rfl hX.2.2.1) (by rw [e1]; exact hce) hcv hcl fin
    obtain ⟨t2, a1, b1⟩ := hx T' rfl X'
    exact ⟨t2, st.trans a1, b1⟩

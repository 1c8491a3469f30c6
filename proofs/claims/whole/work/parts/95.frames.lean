/-! ===== row of the class, in place; calls out of frames that are not the interpreter's own ===== -/
abbrev Y175 : ts_Y := (yX11_row, cX11_row, 2, (some .long), 11)
set_option maxRecDepth 100000 in
theorem hY175 : ts_mL[175]? = some Y175 := rfl
theorem ca_11_414 : ts_cal 11 414 = some (176, 1, 0, 0) := by decide +kernel
theorem d175_0 : decode Y175.2.1 0 = .ok (.iload_n 1, 1) := by decide +kernel
theorem d175_1 : decode Y175.2.1 1 = .ok (.ifCond .lt 14, 3) := by decide +kernel
theorem d175_4 : decode Y175.2.1 4 = .ok (.iload_n 1, 1) := by decide +kernel
theorem d175_5 : decode Y175.2.1 5 = .ok (.aload_n 0, 1) := by decide +kernel
theorem d175_6 : decode Y175.2.1 6 = .ok (.getfield 19, 3) := by decide +kernel
theorem d175_9 : decode Y175.2.1 9 = .ok (.invokevirtual 410, 3) := by decide +kernel
theorem d175_12 : decode Y175.2.1 12 = .ok (.if_icmp .lt 11, 3) := by decide +kernel
theorem d175_15 : decode Y175.2.1 15 = .ok (.new 411, 3) := by decide +kernel
theorem d175_18 : decode Y175.2.1 18 = .ok (.dup, 1) := by decide +kernel
theorem d175_19 : decode Y175.2.1 19 = .ok (.invokespecial 413, 3) := by decide +kernel
theorem d175_22 : decode Y175.2.1 22 = .ok (.athrow, 1) := by decide +kernel
theorem d175_23 : decode Y175.2.1 23 = .ok (.aload_n 0, 1) := by decide +kernel
theorem d175_24 : decode Y175.2.1 24 = .ok (.getfield 19, 3) := by decide +kernel
theorem d175_27 : decode Y175.2.1 27 = .ok (.iload_n 1, 1) := by decide +kernel
theorem d175_28 : decode Y175.2.1 28 = .ok (.invokevirtual 414, 3) := by decide +kernel
theorem d175_31 : decode Y175.2.1 31 = .ok (.i2l, 1) := by decide +kernel
theorem d175_32 : decode Y175.2.1 32 = .ok (.lreturn, 1) := by decide +kernel
theorem s0_11 : ts_sh 0 = (0, 11) := by decide +kernel
theorem s4_8 : ts_sh 4 = (0, 8) := by decide +kernel
theorem s5_12 : ts_sh 5 = (1, 12) := by decide +kernel
theorem row_in (d : Nat) {vs : List Int32} {m : lt_m} (h : rwC vs m) (hl : vs.length ≤ 12) {j : Nat} {v : Int32} (hv : vs[j]? = some v) : lt_ev (d + 3) 175 [.inr (.inr (some 0)), .inl (nI j)] m = some (some (.inr (.inl v.toInt64)), m) := by
  have hj : j < vs.length := (List.getElem?_eq_some_iff.mp hv).1
  have hn : ¬ nI j < 0 := fun q => by
    have h1 := Int32.lt_iff_toInt_lt.mp q
    rw [nI_toInt (by omega)] at h1
    have h2 : (0 : Int32).toInt = 0 := rfl
    omega
  refine Eq.trans (lt_enter2 (ls := [some (.inr (.inr (some 0))), some (.inl (nI j))]) hY175 (Nat.le_of_ble_eq_true rfl) (by rfl)) ?_
  refine Eq.trans (li_iload_n d175_0 (by rfl)) ?_
  refine Eq.trans (li_if_lt (t := 15) d175_1 (by rfl)) ?_
  rw [if_neg hn]
  refine Eq.trans (li_iload_n d175_4 (by rfl)) ?_
  refine Eq.trans (li_aload_n d175_5 (by rfl)) ?_
  refine Eq.trans (li_getr d175_6 fa_11_19 s0_11 rfl rfl rfl (by decide)) ?_
  refine Eq.trans (li_ivI d175_9 ca_11_410 kd_174 kl_174 (by rfl) (by rfl) (sf_of s0_11 1 (by decide) (by decide)) (Nat.le_of_ble_eq_true rfl) (Nat.le_of_ble_eq_true rfl)) ?_
  show lt_cI (lt_ev (d + 2) 174 [.inr (.inr (some (0 + ts_off 11 1)))] m) _ = _
  rw [show lt_ev (d + 2) 174 [.inr (.inr (some (0 + ts_off 11 1)))] m = _ from E174 (d + 1) (0 + ts_off 11 1) (sf_of s0_11 1 (by decide) (by decide)) m, lt_cI_s]
  rw [show m.1 (0 + ts_off 11 1) 1 = nI vs.length from h.1]
  refine Eq.trans (li_icmp_lt (t := 23) d175_12 (by rfl)) ?_
  rw [if_pos (Int32.lt_iff_toInt_lt.mpr (by rw [nI_toInt (by omega), nI_toInt (by omega)]; omega))]
  refine Eq.trans (li_aload_n d175_23 (by rfl)) ?_
  refine Eq.trans (li_getr d175_24 fa_11_19 s0_11 rfl rfl rfl (by decide)) ?_
  refine Eq.trans (li_iload_n d175_27 (by rfl)) ?_
  refine Eq.trans (li_ivI d175_28 ca_11_414 kd_176 kl_176 (by rfl) (by rfl) (sf_of s0_11 1 (by decide) (by decide)) (Nat.le_of_ble_eq_true rfl) (Nat.le_of_ble_eq_true rfl)) ?_
  show lt_cI (lt_ev (d + 2) 176 [.inr (.inr (some (0 + ts_off 11 1))), .inl (nI j)] m) _ = _
  rw [show lt_ev (d + 2) 176 [.inr (.inr (some (0 + ts_off 11 1))), .inl (nI j)] m = _ from E176 (d + 1) (0 + ts_off 11 1) (nI j) (sf_of s0_11 1 (by decide) (by decide)) m]
  rw [show lt_ev (d + 1) 16 [.inr (.inr (some (0 + ts_off 11 1 + 1))), .inl (nI j)] m = _ from E16 d 5 12 (nI j) s5_12 m, if_neg hn, if_neg (fun q => by
    have h1 := Int32.le_iff_toInt_le.mp q
    rw [nI_toInt (by omega)] at h1
    have h2 : (Int32.ofNat 12).toInt = 12 := rfl
    omega), lt_gd_t (sp_gd (by omega) (by omega)), lt_cI_s, lt_cI_s, nI_clamp (by omega), h.2 j v hv]
  refine Eq.trans (li_i2l d175_31) ?_
  exact li_lret d175_32 rfl
section LX
variable {p : Program} {l : Launch} {e : Env} {R : Room} {s : State} {m : MethodId} {args : Array Value} {below : List Frame} {meth : Method} {c : Code} {H : Heap} {locs : List Loc} {cells slots : Nat} {Q : State → Prop} {D : va_G} {B : Nat} {cA : Nat → ClassId} {d : Nat} {own : String} {cc : ByteArray} {nL : Nat} {Ts : List Cond}
/-- what stays through the walk of a frame that isn't the interpreter's own -/
def lx_F (p : Program) (R : Room) (s : State) (m : MethodId) (args : Array Value) (c : Code) (own : String) (cc : ByteArray) (nL : Nat) (Ts : List Cond) (D : va_G) (B : Nat) (cA : Nat → ClassId) (d : Nat) : Prop :=
  p.tables.exec = Jvm.exec ∧ c.code = cc ∧ c.maxLocals = nL ∧ s.vm.findClass own = some m.cls ∧ (∀ w ∈ Ts, w.before args s = true) ∧ (∀ w ∈ ts_tb, w ∈ Ts) ∧ va_K D ts_cl (ts_tys cA) s ∧ ts_Nw s ∧ va_AO RX4 s ∧ va_AO RX2 s ∧ B ≤ s.heap.size ∧ d + 1 ≤ R.frames ∧ 40 * (d + 1) ≤ R.locals
theorem lx_good (hT : ∀ w ∈ ts_tb, w ∈ Ts) {q : ts_Y} (hqm : q ∈ ts_mL) : GoodIn Ts (ts_ws q) := by
  intro w hw
  rcases List.mem_cons.mp hw with rfl | hw
  · exact ⟨hT _ (ts_gd_in ⟨ts_wm_in _ hqm, ts_cw_good _⟩), good_of_word (ts_cw_good _)⟩
  · exact ⟨hT _ hw, good_of_word (List.mem_filter.mp hw).2⟩
theorem lx_U (hK : va_K D ts_cl (ts_tys cA) s) (hNw : ts_Nw s) (hA4 : va_AO RX4 s) (hA2 : va_AO RX2 s) {M : ts_M} (hW : ts_Wd D B cA M H) (hB : B ≤ H.size) (hHs : H.size = B + M.2.2.2 ∨ M.2.2.2 = ts_NN) {U : State} (hU : U.heap = H) (hW2 : s.WarmedH U.vm) : ts_St D B cA M U :=
  ⟨by rw [hU]; exact hW, va_K.moved hW2.alike hK, ts_Nw_warm hW2 hNw, va_AO.moved hW2.alike hA4, va_AO.moved hW2.alike hA2, by rw [hU]; exact hB, by rw [hU]; exact hHs⟩
/-- a virtual call -/
theorem lx_callV (F : lx_F p R s m args c own cc nL Ts D B cA d) {x y n b : Nat} {q : ts_Y} {As : List ts_V} {v : Option ts_V} {M M' : ts_M} (hq : ts_mL[y]? = some q) (hsel : (Cond.selects q.1.cls q.1 q.1).before args s = true) (hnst : ts_st q = false) (hlink : (Cond.methodLink own x q.1).before args s = true)
    (hpar : (parseMethodDescriptor q.1.desc).map (fun d => d.parameters.length) = some n) (hM : ts_Met l D B cA d y (.inr (.inr (some b)) :: As) M v M') (hsb : ts_sh b = (0, q.2.2.2.2)) (hbn : b < M.2.2.2) (hlen : As.length = n) {pc : Nat} {sl : Array Slot} {st rest : List Value} (hsz : sl.size = nL)
    (hstk : st = (As.map (ts_val B)).reverse ++ .ref (B + b) :: rest) (hr : (rest.map fun v => v.category).sum ≤ 8) (hdec : decode cc pc = .ok (.invokevirtual x, 3)) (hHs : H.size = B + M.2.2.2 ∨ M.2.2.2 = ts_NN) (hc : cells + (M'.2.2.2 - M.2.2.2) ≤ R.cells) (hs : slots + (ts_sz M'.2.2.2 - ts_sz M.2.2.2) ≤ R.slots) (hW : ts_Wd D B cA M H) (hS : va_S (fun q : Nat => B ≤ q) s.heap H locs)
    (kk : ∀ (H1 : Heap) (locs1 : List Loc), ts_Wd D B cA M' H1 → va_S (fun q : Nat => B ≤ q) s.heap H1 locs1 → W p l e R s m args below meth c H1 locs1 (cells + (M'.2.2.2 - M.2.2.2)) (slots + (ts_sz M'.2.2.2 - ts_sz M.2.2.2)) Q (F0 m (pc + 3) sl ((v.map (ts_val B)).toList ++ rest))) :
    W p l e R s m args below meth c H locs cells slots Q (F0 m pc sl st) := by
  obtain ⟨hx, hb, hml, hown, hts, hT, hK, hNw, hA4, hA2, hB, hRf, hRl⟩ := F
  have hqm : q ∈ ts_mL := List.mem_of_getElem? hq
  obtain ⟨hqc, hqp, hq13, hqd1, hqd2⟩ := ts_okY_of hqm
  have hwd := fun {w : Cond} (h : ts_gd w) => hts w (hT w (ts_gd_in h))
  have hini : (Cond.initialized q.1.cls).before args s = true := hwd (ts_wi_gd _ (List.mem_map.mpr ⟨q, hqm, rfl⟩))
  have hG : GoodIn Ts (ts_ws q) := lx_good hT hqm
  have hwk : (if ts_st q then Cond.static q.1 else Cond.instanceMethod q.1).before args s = true := hwd (ts_wk_gd _ (List.mem_map.mpr ⟨q, hqm, rfl⟩))
  rw [hnst] at hwk
  have hRR : (ts_rm d M M').frames + 1 ≤ R.frames ∧ 8 + (q.2.2.1 + 11) + (ts_rm d M M').locals ≤ R.locals := ⟨hRf, by show 8 + (q.2.2.1 + 11) + 40 * d ≤ R.locals; omega⟩
  have hdd : q.1.cls ≠ "java/lang/invoke/MethodHandle" ∧ q.1.cls ≠ "java/lang/invoke/VarHandle" ∧ (parseMethodDescriptor q.1.desc).map (fun d => d.parameters.length) = some n := ⟨hqd1, hqd2, hpar⟩
  have hrcv : ∃ cellB : Cell, H[B + b]? = some cellB ∧ cellB.vm.isStatics = false ∧ s.vm.findClass q.1.cls = some cellB.cls := by
    have h13 : q.2.2.2.2 < 13 := by
      obtain ⟨r', hr', -⟩ := hW.1 b _ (ts_hent hsb hbn)
      have := (List.getElem?_eq_some_iff.mp hr').1
      simpa [ts_cl] using this
    have := va_recv hK hW.1 (ts_cl_at h13) (ts_hent hsb hbn)
    rwa [← hqc] at this
  have hPre : PreV s H q.1.cls (B + b) (ts_Pc D B cA M (.inr (.inr (some b)) :: As)) (As.map (ts_val B)) := ⟨ts_St.blind, hrcv, fun U hU hW2 => ⟨rfl, lx_U hK hNw hA4 hA2 hW (Nat.le_trans hB hS.1) hHs hU hW2⟩⟩
  exact ts_after (va_runV (As := As.map (ts_val B)) (rest := rest) ⟨hx, hb, hml, hown, hts⟩ (hM q hq) ⟨callB_of n hts hG rfl rfl rfl hini hlink hdd hRR, hwk, hsel⟩ hPre rfl (by rw [List.length_map]; exact hlen) hsz hstk (lv_room hr) hdec ⟨hc, hs⟩) hS kk
/-- a constructor's call -/
theorem lx_callI (F : lx_F p R s m args c own cc nL Ts D B cA d) {x y n b : Nat} {q : ts_Y} {As : List ts_V} {v : Option ts_V} {M M' : ts_M} (hq : ts_mL[y]? = some q) (hin : q.1.name = "<init>") (hrn : q.2.2.2.1 = none) (hnst : ts_st q = false) (hlink : (Cond.methodLink own x q.1).before args s = true)
    (hpar : (parseMethodDescriptor q.1.desc).map (fun d => d.parameters.length) = some n) (hM : ts_Met l D B cA d y (.inr (.inr (some b)) :: As) M v M') (hlen : As.length = n) {pc : Nat} {sl : Array Slot} {st rest : List Value} (hsz : sl.size = nL)
    (hstk : st = (As.map (ts_val B)).reverse ++ .ref (B + b) :: rest) (hr : (rest.map fun v => v.category).sum ≤ 8) (hdec : decode cc pc = .ok (.invokespecial x, 3)) (hHs : H.size = B + M.2.2.2 ∨ M.2.2.2 = ts_NN) (hc : cells + (M'.2.2.2 - M.2.2.2) ≤ R.cells) (hs : slots + (ts_sz M'.2.2.2 - ts_sz M.2.2.2) ≤ R.slots) (hW : ts_Wd D B cA M H) (hS : va_S (fun q : Nat => B ≤ q) s.heap H locs)
    (kk : ∀ (H1 : Heap) (locs1 : List Loc), ts_Wd D B cA M' H1 → va_S (fun q : Nat => B ≤ q) s.heap H1 locs1 → W p l e R s m args below meth c H1 locs1 (cells + (M'.2.2.2 - M.2.2.2)) (slots + (ts_sz M'.2.2.2 - ts_sz M.2.2.2)) Q (F0 m (pc + 3) sl ((v.map (ts_val B)).toList ++ rest))) :
    W p l e R s m args below meth c H locs cells slots Q (F0 m pc sl st) := by
  obtain ⟨hx, hb, hml, hown, hts, hT, hK, hNw, hA4, hA2, hB, hRf, hRl⟩ := F
  have hqm : q ∈ ts_mL := List.mem_of_getElem? hq
  obtain ⟨hqc, hqp, hq13, hqd1, hqd2⟩ := ts_okY_of hqm
  have hwd := fun {w : Cond} (h : ts_gd w) => hts w (hT w (ts_gd_in h))
  have hini : (Cond.initialized q.1.cls).before args s = true := hwd (ts_wi_gd _ (List.mem_map.mpr ⟨q, hqm, rfl⟩))
  have hG : GoodIn Ts (ts_ws q) := lx_good hT hqm
  have hwk : (if ts_st q then Cond.static q.1 else Cond.instanceMethod q.1).before args s = true := hwd (ts_wk_gd _ (List.mem_map.mpr ⟨q, hqm, rfl⟩))
  rw [hnst] at hwk
  have hRR : (ts_rm d M M').frames + 1 ≤ R.frames ∧ 8 + (q.2.2.1 + 11) + (ts_rm d M M').locals ≤ R.locals := ⟨hRf, by show 8 + (q.2.2.1 + 11) + 40 * d ≤ R.locals; omega⟩
  have hdd : q.1.cls ≠ "java/lang/invoke/MethodHandle" ∧ q.1.cls ≠ "java/lang/invoke/VarHandle" ∧ (parseMethodDescriptor q.1.desc).map (fun d => d.parameters.length) = some n := ⟨hqd1, hqd2, hpar⟩
  have hPre : PreS s H (ts_Pc D B cA M (.inr (.inr (some b)) :: As)) (.ref (B + b) :: As.map (ts_val B)) := ⟨ts_St.blind, fun U hU hW2 => ⟨rfl, lx_U hK hNw hA4 hA2 hW (Nat.le_trans hB hS.1) hHs hU hW2⟩⟩
  have hwsq : ts_ws q = Cond.code q.1 q.2.1 q.2.2.1 none :: ts_tb := by unfold ts_ws ts_cw; rw [hrn]
  exact ts_after (va_runI (As := As.map (ts_val B)) (rest := rest) ⟨hx, hb, hml, hown, hts⟩ (hM q hq) ⟨callB_of n hts hG hwsq rfl rfl hini hlink hdd hRR, hin, hwk⟩ hPre rfl (by rw [List.length_map]; exact hlen) hsz hstk (lv_room hr) hdec ⟨hc, hs⟩) hS kk
end LX

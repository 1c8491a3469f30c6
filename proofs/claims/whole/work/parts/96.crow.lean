/-! ===== light calls out of such frames; row of the class, out of place: it throws ===== -/
section LX2
variable {p : Program} {l : Launch} {e : Env} {R : Room} {s : State} {m : MethodId} {args : Array Value} {below : List Frame} {meth : Method} {c : Code} {H : Heap} {locs : List Loc} {cells slots : Nat} {Q : State → Prop} {D : va_G} {B : Nat} {cA : Nat → ClassId} {d : Nat} {own : String} {cc : ByteArray} {nL : Nat} {Ts : List Cond}
theorem lx_met {y : Nat} {As : List ts_V} {v : Option ts_V} {u u' : lt_m} (hni : ts_ni y) (he : lt_ev d y As u = some (v, u')) : ts_Met l D B cA d y As (ts_fl u) v (ts_fl u') := ts_sound l D B cA d y As (ts_fl u) v (ts_fl u') (by rw [lt_ev_fl hni, he]; rfl)
theorem lx_callL (F : lx_F p R s m args c own cc nL Ts D B cA d) {x y n b : Nat} {q : ts_Y} {As : List ts_V} {v : Option ts_V} {u u' : lt_m} (hq : ts_mL[y]? = some q) (hsel : (Cond.selects q.1.cls q.1 q.1).before args s = true) (hnst : ts_st q = false) (hni : ts_ni y) (hlink : (Cond.methodLink own x q.1).before args s = true)
    (hpar : (parseMethodDescriptor q.1.desc).map (fun d => d.parameters.length) = some n) (he : lt_ev d y (.inr (.inr (some b)) :: As) u = some (v, u')) (hsb : ts_sh b = (0, q.2.2.2.2)) (hbn : b < ts_NN) (hlen : As.length = n) {pc : Nat} {sl : Array Slot} {st rest : List Value} (hsz : sl.size = nL)
    (hstk : st = (As.map (ts_val B)).reverse ++ .ref (B + b) :: rest) (hr : (rest.map fun v => v.category).sum ≤ 8) (hdec : decode cc pc = .ok (.invokevirtual x, 3)) (hc : cells ≤ R.cells) (hs : slots ≤ R.slots) (hW : ts_Wd D B cA (ts_fl u) H) (hS : va_S (fun q : Nat => B ≤ q) s.heap H locs)
    (kk : ∀ (H1 : Heap) (locs1 : List Loc), ts_Wd D B cA (ts_fl u') H1 → va_S (fun q : Nat => B ≤ q) s.heap H1 locs1 → W p l e R s m args below meth c H1 locs1 cells slots Q (F0 m (pc + 3) sl ((v.map (ts_val B)).toList ++ rest))) :
    W p l e R s m args below meth c H locs cells slots Q (F0 m pc sl st) := by
  have hn : (ts_fl u').2.2.2 = (ts_fl u).2.2.2 := rfl
  refine lx_callV F hq hsel hnst hlink hpar (lx_met hni he) hsb hbn hlen hsz hstk hr hdec (Or.inr rfl) (by rw [hn, Nat.sub_self]; exact hc) (by rw [hn, Nat.sub_self]; exact hs) hW hS ?_
  intro H1 locs1 hW1 hS1
  rw [hn, Nat.sub_self, Nat.sub_self]
  exact kk H1 locs1 hW1 hS1
end LX2
def rx_ns : String := "java/util/NoSuchElementException"
def rx_up : List String := ["java/lang/RuntimeException", "java/lang/Exception"]
def rx_X (B : Nat) (U : State) (H : Heap) : Prop := vx_Zq Bundle.tN "UNASSIGNED_STACK" Bundle.steD (fun q : Nat => B ≤ q) U H ∧ vx_Zq Bundle.tN "SUPPRESSED_SENTINEL" Bundle.listD (fun q : Nat => B ≤ q) U H ∧ va_Nw (.castable rx_ns rx_ns) U ∧ va_Nw (.declares ⟨"java/lang/RuntimeException", "<init>", "()V"⟩) U ∧ va_Nw (.declares ⟨"java/lang/Exception", "<init>", "()V"⟩) U ∧ va_Nw (.declares ⟨"java/lang/Throwable", "<init>", "()V"⟩) U
theorem rx_X.warm {B : Nat} {s U : State} {H : Heap} (hW : s.WarmedH U.vm) (h : rx_X B s H) : rx_X B U H := ⟨vx_Zq.moved hW.alike h.1, vx_Zq.moved hW.alike h.2.1, va_Nw.warmC hW h.2.2.1, va_Nw.warmD hW h.2.2.2.1, va_Nw.warmD hW h.2.2.2.2.1, va_Nw.warmD hW h.2.2.2.2.2⟩
theorem rx_X.kept {B : Nat} {U : State} {H H1 : Heap} (h : rx_X B U H) (hq : ∀ a : Nat, a < H.size → ¬ B ≤ a → H1[a]? = H[a]?) : rx_X B U H1 := ⟨h.1.kept hq, h.2.1.kept hq, h.2.2⟩
theorem rx_X.same {B : Nat} {u U : State} {H : Heap} (hvm : u.vm = U.vm) (h : rx_X B u H) : rx_X B U H := ⟨vx_Zq.moved (by rw [hvm]; exact Vm.Alike.refl U.vm) h.1, vx_Zq.moved (by rw [hvm]; exact Vm.Alike.refl U.vm) h.2.1, va_Nw.same rfl hvm h.2.2.1, va_Nw.same rfl hvm h.2.2.2.1, va_Nw.same rfl hvm h.2.2.2.2.1, va_Nw.same rfl hvm h.2.2.2.2.2⟩
def rx_L : List Cond := vx_at0 RX11 413 rx_ns rx_up
set_option maxRecDepth 100000 in
theorem rx_good_at : (rx_L.filter goodWord).map some = ([90, 1199, 1208, 1210, 1213, 1215, 1200, 1201, 100, 101, 1202, 1207, 1211, 1227, 1189, 1228, 1191, 1229, 1193, 1203, 1205, 1195, 1217, 1218, 1219, 1220, 1220, 1221, 1222, 1223, 1223, 1224, 1225, 1200, 1216, 1178, 1186, 1187, 1188, 1190, 1192, 1194, 1198, 1197, 1196] : List Nat).map (fun i => lw_tbl[i]?) := by decide +kernel
def rx_B : List Cond := [.castable rx_ns rx_ns, .declares ⟨"java/lang/RuntimeException", "<init>", "()V"⟩, .declares ⟨"java/lang/Exception", "<init>", "()V"⟩, .declares ⟨"java/lang/Throwable", "<init>", "()V"⟩]
theorem rx_bad_in : (rx_L.filter (fun w => !goodWord w)).all (fun w => decide (w ∈ rx_B)) = true := by decide +kernel
theorem rx_k_at : ([Cond.classLink RX11 411 rx_ns, Cond.initialized rx_ns] : List Cond).map some = ([1177, 93] : List Nat).map (fun i => lw_tbl[i]?) := by decide +kernel
theorem rx_ot_all : (Cond.classLink RX11 411 rx_ns :: Cond.initialized rx_ns :: rx_L).all vx_ot = true := by decide +kernel
theorem rx_hat {args : Array Value} {s : State} {B : Nat} {H : Heap} (hts : ∀ w ∈ ts_tb, w.before args s = true) (h : rx_X B s H) : ∀ w ∈ rx_L, w.before args s = true := by
  refine vx_hat (B := rx_B) (fun w hw => hts w (ts_gd_in ⟨ts_in_of rx_good_at w hw, (List.mem_filter.mp hw).2⟩)) (fun w hw => of_decide_eq_true (List.all_eq_true.mp rx_bad_in w hw)) ?_
  exact vx_c (va_Nw.use rfl h.2.2.1) (vx_c (va_Nw.use rfl h.2.2.2.1) (vx_c (va_Nw.use rfl h.2.2.2.2.1) (vx_c (va_Nw.use rfl h.2.2.2.2.2) vx_n)))
theorem ts_Wd.kept {D : va_G} {B : Nat} {cA : Nat → ClassId} {M : ts_M} {H H1 : Heap} (h : ts_Wd D B cA M H) (hq : ∀ a : Nat, a < H.size → H1[a]? = H[a]?) : ts_Wd D B cA M H1 := ⟨h.1.kept fun k x hx => hq x.1 ((h.1 k x hx).lt), h.2⟩
theorem told_at {B : Nat} {m : lt_m} : ts_val B (ts_gv 11 1 (ts_fl m) 0) = .ref (B + 4) := by
  have h1 : ts_isr (ts_ty 11 1) = true := rfl
  have h2 : (ts_fl m).2.2.1 0 1 = some 4 := by
    show (if 0 = 0 ∧ 1 = 7 then some m.2.2.1 else if 0 = 0 ∧ 1 = 8 then some m.2.2.2.1 else if 0 = 12 ∧ 1 = 0 then m.2.2.2.2 else ts_G 0 1) = some 4
    rw [if_neg (by decide), if_neg (by decide), if_neg (by decide)]
    decide +kernel
  unfold ts_gv
  rw [if_pos h1, h2]
  rfl
theorem in174 : 174 ∈ ts_vL := by decide +kernel
def rx_rm : Room := { frames := 8, cells := 1, slots := 6, locals := 120 }
def rx_XC (D : va_G) (B : Nat) (cA : Nat → ClassId) (u : lt_m) : String → State → State → Prop := fun E st t => E = rx_ns ∧ ts_Wd D B cA (ts_fl u) t.heap ∧ va_F (fun q : Nat => B ≤ q) st t
def rx_Pc (D : va_G) (B : Nat) (cA : Nat → ClassId) (u : lt_m) (x : Int32) : Array Value → State → Prop := va_Pc [.ref (B + 0), .int x] (fun U => ts_St D B cA (ts_fl u) U ∧ rx_X B U U.heap)
theorem rx_Pc.blind {D : va_G} {B : Nat} {cA : Nat → ClassId} {u : lt_m} {x : Int32} : FrameBlind (rx_Pc D B cA u x) := by
  intro a U g mk h
  have h1 : ts_Pc D B cA (ts_fl u) [.inr (.inr (some 0)), .inl x] a U := ⟨h.1, h.2.1⟩
  have h2 := ts_St.blind a U g mk h1
  exact ⟨h2.1, h2.2, rx_X.same (u := U) (U := U.calling g mk a) rfl h.2.2⟩
/-- out of place: it throws, and nothing else has changed -/
theorem row_out {l : Launch} (hl9 : l.stackTraces = false) (D : va_G) (B : Nat) (cA : Nat → ClassId) {u : lt_m} {vs : List Int32} {x : Int32} (hrw : rwC vs u) (hvl : vs.length ≤ 12) (hx9 : x < 0 ∨ nI vs.length ≤ x) :
    vx_Met l yX11_row (ts_ws Y175) rx_rm (rx_Pc D B cA u x) (fun _ _ _ _ => False) (rx_XC D B cA u) 1 6 (fun q : Nat => B ≤ q) := by
  refine vx_ofW (cc := Y175.2.1) (maxL := 2) (ret := some .long) (by decide) rfl ?_
  intro p e s mm args below meth c s₁ Bd hml hnt hv
  obtain ⟨rfl, ⟨hWd, hK, hNw, hA4, hA2, hB, hz⟩, hX⟩ := hv
  have hts : ∀ w ∈ ts_ws Y175, w.before _ s = true := atoms_spec (ws := ts_ws Y175) Bd.pre
  have htb : ∀ w ∈ ts_tb, w.before _ s = true := fun w h => hts w (List.mem_cons_of_mem _ h)
  have hown : s.vm.findClass RX11 = some mm.cls := findClass_of_methodNamed Bd.named
  have F : lx_F p (headSpec (ts_ws Y175) rx_rm).room s mm _ c RX11 Y175.2.1 2 (ts_ws Y175) D B cA 1 := ⟨Bd.exec, Bd.bytes, hml, hown, hts, fun w h => List.mem_cons_of_mem _ h, hK, hNw, hA4, hA2, hB, by decide, by decide⟩
  have hl := lv_entry [.ref (B + 0), .int x] (n := 2) (Nat.le_of_ble_eq_true rfl)
  rw [lg_entry_eq]
  generalize (lg_sl [.ref (B + 0), .int x] ++ List.replicate (2 - (lg_sl [.ref (B + 0), .int x]).length) Slot.unset).toArray = sl at hl ⊢
  have hl : lv_has sl 2 [(0, .ref (B + 0)), (1, .int x)] := hl
  have thr : ∀ (H : Heap) (locs : List Loc), ts_Wd D B cA (ts_fl u) H → va_S (fun q : Nat => B ≤ q) s.heap H locs → W p l e (headSpec (ts_ws Y175) rx_rm).room s mm [.ref (B + 0), .int x].toArray below meth c H locs 0 0 (vx_MQ below (fun _ _ _ _ => False) (rx_XC D B cA u) [.ref (B + 0), .int x].toArray s 1 6 (fun q : Nat => B ≤ q)) (F0 mm 15 sl []) := by
    intro H locs hW hS
    refine vx_throw0 (A := fun q : Nat => B ≤ q) (own := RX11) (cls := rx_ns) (names := rx_up) (ik := 411) (ic := 413) Bd.exec Bd.bytes hl9 hown (by decide) (by decide) (htb _ (ts_gd_in ⟨ts_in_of rx_k_at _ (by simp), rfl⟩)) (htb _ (ts_gd_in ⟨ts_in_of rx_k_at _ (by simp), rfl⟩)) (rx_hat htb hX) (fun w hw => List.all_eq_true.mp rx_ot_all w hw) hX.1 hX.2.1 hS (hl.1.trans hml.symm) d175_15 d175_18 d175_19 d175_22 (fun z hz => (hnt z hz).elim) (by decide) (by decide) (by decide) (by decide) Bd.notSynchronized ?_ hS.2.2 (by decide) (by decide)
    intro t ha hz1 hk
    exact ⟨rfl, hW.kept hk, Nat.le_trans hS.1 hz1, fun q h1 h2 => by rw [hk q (Nat.lt_of_lt_of_le h1 hS.1)]; exact hS.2.1 q h1 h2⟩
  refine lv_iload_n Bd.exec Bd.bytes d175_0 rfl (lv_at hl 1 rfl) ?_
  refine lv_if_lt (tgt := 15) Bd.exec Bd.bytes d175_1 (by decide) (fun _ => thr _ _ hWd va_S.rf) (fun hx0 => ?_)
  refine lv_iload_n Bd.exec Bd.bytes d175_4 rfl (lv_at hl 1 rfl) ?_
  refine lv_aload_n Bd.exec Bd.bytes d175_5 rfl (lv_at hl 0 rfl) ?_
  refine va_get (own := RX11) Bd.exec Bd.bytes hts (fun w h => List.mem_cons_of_mem _ (ts_lay_in (c := 11) (by decide) w h)) hown hK hWd.1 0 (ts_hent s0_11 (by show 0 < ts_NN; decide)) (ts_cl_at (c := 11) (by decide)) 1 (by decide) (htb _ (ts_gd_in (ts_wf_gd _ (List.mem_map.mpr ⟨_, ts_fld_of fa_11_19, rfl⟩)))) (fun _ h => h) (ts_fs_at s0_11 (by decide)) d175_6 ?_
  rw [told_at]
  have he : lt_ev 1 174 [.inr (.inr (some 4))] u = some (some (.inl (nI vs.length)), u) := by
    have := E174 0 4 s4_8 u
    rw [hrw.1] at this
    exact this
  refine lx_callL (As := []) (rest := [.int x]) F hY174 (htb _ (ts_gd_in (ts_wv_gd (Cond.selects Y174.1.cls Y174.1 Y174.1) (List.mem_map.mpr ⟨174, in174, rfl⟩)))) rfl (ts_ni_of ca_11_410 (by decide)) (htb _ (ts_gd_in (ts_wc_gd (Cond.methodLink RX11 410 Y174.1) (List.mem_map.mpr ⟨_, List.mem_filter.mpr ⟨ts_cal_of ca_11_410, rfl⟩, rfl⟩)))) (by decide +kernel) he s4_8 (by decide) rfl hl.1 rfl (by show 1 + 0 ≤ 8; decide) d175_9 (by decide) (by decide) hWd va_S.rf (fun H1 locs1 hW1 hS1 => ?_)
  refine lv_icmp_lt (tgt := 23) Bd.exec Bd.bytes d175_12 (by decide) (fun hx1 => ?_) (fun _ => thr _ _ hW1 hS1)
  rcases hx9 with q | q
  · exact absurd q hx0
  · exact absurd hx1 (by
      intro h1
      have h2 := Int32.lt_iff_toInt_lt.mp h1
      have h3 := Int32.le_iff_toInt_le.mp q
      omega)

/-! ===== methods' contracts, calls ===== -/
def ts_rm (d : Nat) (M M' : ts_M) : Room := { frames := d, cells := M'.2.2.2 - M.2.2.2, slots := ts_sz M'.2.2.2 - ts_sz M.2.2.2, locals := 40 * d }
def ts_St (D : va_G) (B : Nat) (cA : Nat → ClassId) (M : ts_M) (U : State) : Prop := ts_Wd D B cA M U.heap ∧ va_K D ts_cl (ts_tys cA) U ∧ ts_Nw U ∧ va_AO RX4 U ∧ va_AO RX2 U ∧ B ≤ U.heap.size ∧ (U.heap.size = B + M.2.2.2 ∨ M.2.2.2 = ts_NN)
def ts_Pc (D : va_G) (B : Nat) (cA : Nat → ClassId) (M : ts_M) (As : List ts_V) : Array Value → State → Prop := va_Pc (As.map (ts_val B)) (ts_St D B cA M)
def ts_Qc (D : va_G) (B : Nat) (cA : Nat → ClassId) (A : Nat → Prop) (v : Option ts_V) (M' : ts_M) : Array Value → State → Outcome → State → Prop := fun _ st o t => o = .returned (v.map (ts_val B)) ∧ ts_Wd D B cA M' t.heap ∧ va_F A st t
/-- the contract that a run of the interpreter gives -/
def ts_Met (l : Launch) (D : va_G) (B : Nat) (cA : Nat → ClassId) (A : Nat → Prop) (d y : Nat) (As : List ts_V) (M : ts_M) (v : Option ts_V) (M' : ts_M) : Prop :=
  (∀ k, k < ts_NN → A (B + k)) → (M.2.2.2 = ts_NN ∨ ∀ q, A q ↔ B ≤ q) → ∀ q, ts_mL[y]? = some q → Met l q.1 (ts_ws q) (ts_rm d M M') (ts_Pc D B cA M As) (ts_Qc D B cA A v M') (M'.2.2.2 - M.2.2.2) (ts_sz M'.2.2.2 - ts_sz M.2.2.2) A
theorem ts_sz_succ (n : Nat) : ts_sz (n + 1) = ts_sz n + ts_sz1 n := by simp [ts_sz, List.range_succ]
theorem ts_sz_le {a b : Nat} (h : a ≤ b) : ts_sz a ≤ ts_sz b := by
  obtain ⟨k, rfl⟩ := Nat.le.dest h
  induction k with
  | zero => exact Nat.le_refl _
  | succ k ih => rw [← Nat.add_assoc, ts_sz_succ]; have := ih (Nat.le_add_right _ _); omega
theorem ts_St.blind {D : va_G} {B : Nat} {cA : Nat → ClassId} {M : ts_M} {As : List ts_V} : FrameBlind (ts_Pc D B cA M As) := by
  intro a U g mk ⟨h1, h2, h3, h4, h5, h6, h7⟩
  exact ⟨h1, h2, va_K.moved (u := U) (U := U.calling g mk a) (Vm.Alike.refl U.vm) h3, ts_Nw_same (u := U) (U := U.calling g mk a) rfl h4, va_AO.moved (u := U) (U := U.calling g mk a) (Vm.Alike.refl U.vm) h5, va_AO.moved (u := U) (U := U.calling g mk a) (Vm.Alike.refl U.vm) h6, h7⟩
/-- what stays through a method's walk -/
def ts_Fx (p : Program) (R : Room) (s : State) (m : MethodId) (args : Array Value) (meth : Method) (c : Code) (Y : ts_Y) (D : va_G) (B : Nat) (cA : Nat → ClassId) (A : Nat → Prop) (d N0 N1 k0 z0 : Nat) : Prop :=
  p.tables.exec = Jvm.exec ∧ c.code = Y.2.1 ∧ c.maxLocals = Y.2.2.1 ∧ s.vm.findClass Y.1.cls = some m.cls ∧ (∀ w ∈ ts_ws Y, w.before args s = true) ∧ va_K D ts_cl (ts_tys cA) s ∧ ts_Nw s ∧ va_AO RX4 s ∧ va_AO RX2 s ∧
  B ≤ s.heap.size ∧ (s.heap.size = B + N0 ∧ k0 = 0 ∨ N0 = ts_NN) ∧ meth.name = Y.1.name ∧ Y.1.cls = ts_cn Y.2.2.2.2 ∧ meth.sig.returnType = Y.2.2.2.1 ∧ meth.locks = false ∧
  d + 1 ≤ R.frames ∧ 40 * d + 39 ≤ R.locals ∧ k0 + (N1 - N0) ≤ R.cells ∧ z0 + (ts_sz N1 - ts_sz N0) ≤ R.slots ∧ (∀ k, k < ts_NN → A (B + k)) ∧ (N0 = ts_NN ∨ ∀ q, A q ↔ B ≤ q)
section CALL
variable {p : Program} {l : Launch} {e : Env} {R : Room} {s : State} {m : MethodId} {args : Array Value} {below : List Frame} {meth : Method} {c : Code} {H : Heap} {locs : List Loc} {Q : State → Prop} {Y : ts_Y} {D : va_G} {B : Nat} {cA : Nat → ClassId} {A : Nat → Prop} {d N0 N1 k0 z0 : Nat}
theorem ts_Fx.word (F : ts_Fx p R s m args meth c Y D B cA A d N0 N1 k0 z0) {w : Cond} (h : ts_gd w) : w.before args s = true := F.2.2.2.2.1 w (List.mem_cons_of_mem _ (ts_gd_in h))
theorem ts_after {H0 : Heap} {cells slots mc ms pc : Nat} {sl : Array Slot} {st0 rest : List Value} {a : Array Value} {v : Option ts_V} {M' : ts_M} (hr : va_Run p l e R s m args below meth c H locs cells slots mc ms (F0 m pc sl st0) rest (ts_Qc D B cA A v M' a) A) (hS : va_S A H0 H locs)
    (kk : ∀ (H1 : Heap) (locs1 : List Loc), ts_Wd D B cA M' H1 → va_S A H0 H1 locs1 → W p l e R s m args below meth c H1 locs1 (cells + mc) (slots + ms) Q (F0 m (pc + 3) sl ((v.map (ts_val B)).toList ++ rest))) : W p l e R s m args below meth c H locs cells slots Q (F0 m pc sl st0) := by
  intro T hT X
  obtain ⟨v', st₀, t, T', L, h0, X', hL, e1, e2, ⟨hv, hWd, hz, hk⟩, st⟩ := hr T hT X
  cases hv
  rw [h0] at hz hk
  obtain ⟨t2, a1, b1⟩ := kk T'.heap (locs ++ L) (by rw [e1]; exact hWd)
    ⟨Nat.le_trans hS.1 (by rw [e1]; exact hz), fun q h1 h2 => by rw [e1, hk q (Nat.lt_of_lt_of_le h1 hS.1) h2]; exact hS.2.1 q h1 h2, fun q hq => by
      rcases List.mem_append.mp hq with h | h
      · exact hS.2.2 q h
      · exact hL q h⟩ T' rfl X'
  exact ⟨t2, st t2 a1, b1⟩
theorem ts_sum {r : List ts_V} (h : ts_cats r ≤ 8) : ((r.map (ts_val B)).map fun v => v.category).sum ≤ 8 := by
  have : ∀ r : List ts_V, ((r.map (ts_val B)).map fun v => v.category).sum = ts_cats r := by
    intro r
    induction r with
    | nil => rfl
    | cons a r ih =>
      have := ts_val_cat (B := B) a
      simp only [List.map_cons, List.sum_cons, ts_cats] at ih ⊢
      rw [ih, this]
  rw [this r]
  exact h
theorem ts_size {H0 : Heap} (hB0 : B ≤ H0.size) (F : ts_Fx p R s m args meth c Y D B cA A d N0 N1 k0 z0) {M : ts_M} {T : State} {slots : Nat} (hN : N0 ≤ M.2.2.2) (hW : ts_Wd D B cA M H) (hS : va_S A H0 H locs) (hT : T.heap = H) (X : Stand p l e R s m args below meth c T locs (k0 + (M.2.2.2 - N0)) slots) : H.size = B + M.2.2.2 ∨ M.2.2.2 = ts_NN := by
  obtain ⟨-, -, -, -, -, -, -, -, -, hB, hz, -⟩ := F
  have h1 : T.heap.size ≤ s.heap.size + (k0 + (M.2.2.2 - N0)) := X.same.2.2.1
  rw [hT] at h1
  have h2 := hW.le (Nat.le_trans hB0 hS.1)
  have h3 := hW.2
  rcases hz with q | q
  · exact Or.inl (by omega)
  · exact Or.inr (by omega)
theorem ts_hent {M : ts_M} {a c : Nat} (h : ts_sh a = (0, c)) (ha : a < M.2.2.2) : (ts_w B cA M)[a]? = some (B + a, .inr (c, ts_fs B M a)) := by rw [ts_w_at ha, ts_ent_0 h]
/-- the words of a call's link: kinds 0 virtual, 1 static, 2 constructor -/
theorem ts_callW {H0 : Heap} (hB0 : B ≤ H0.size) (F : ts_Fx p R s m args meth c Y D B cA A d N0 N1 k0 z0) {x y n k z : Nat} {As : List ts_V} {M M' : ts_M} {v : Option ts_V} {q : ts_Y} (hc : ts_cal Y.2.2.2.2 x = some (y, n, k, z)) (hq : ts_mL[y]? = some q) (hM : ts_Met l D B cA A d y As M v M')
    (hrec : k ≠ 1 → ∃ (b : Nat) (As' : List ts_V), As = .inr (.inr (some b)) :: As' ∧ (k = 0 → ts_sh b = (0, q.2.2.2.2) ∧ b < M.2.2.2))
    (hlen : (if k = 1 then As.length else As.length - 1) = n) {pc : Nat} {sl : Array Slot} {st r : List ts_V} (hsz : sl.size = Y.2.2.1) (hst : st = As.reverse ++ r) (hr : ts_cats r ≤ 8)
    (hdec : decode Y.2.1 pc = .ok ((if k = 0 then Instr.invokevirtual x else if k = 1 then Instr.invokestatic x else Instr.invokespecial x), 3))
    (hN : N0 ≤ M.2.2.2) (hMM : M.2.2.2 ≤ M'.2.2.2) (hle : M'.2.2.2 ≤ N1) (hW : ts_Wd D B cA M H) (hS : va_S A H0 H locs)
    (kk : ∀ (H1 : Heap) (locs1 : List Loc), ts_Wd D B cA M' H1 → va_S A H0 H1 locs1 → W p l e R s m args below meth c H1 locs1 (k0 + (M'.2.2.2 - N0)) (z0 + (ts_sz M'.2.2.2 - ts_sz N0)) Q (F0 m (pc + 3) sl ((v.map (ts_val B)).toList ++ r.map (ts_val B)))) :
    W p l e R s m args below meth c H locs (k0 + (M.2.2.2 - N0)) (z0 + (ts_sz M.2.2.2 - ts_sz N0)) Q (F0 m pc sl (st.map (ts_val B))) := by
  intro T0 hT0 X0
  have hHs := ts_size hB0 F hN hW hS hT0 X0
  revert T0
  intro T0 hT0 X0
  refine (?_ : W p l e R s m args below meth c H locs (k0 + (M.2.2.2 - N0)) (z0 + (ts_sz M.2.2.2 - ts_sz N0)) Q (F0 m pc sl (st.map (ts_val B)))) T0 hT0 X0
  clear hT0 X0
  have hwd := fun {w : Cond} (h : ts_gd w) => F.word h
  obtain ⟨hx, hb, hml, hown, hts, hK, hNw, hA4, hA2, hB, hz, hnm, hY, hret, hlk, hRf, hRl, hRc, hRs, hA0, hA1⟩ := F
  have hcm := ts_cal_of hc
  have hok := List.all_eq_true.mp ts_okC_all _ hcm
  have hqm : q ∈ ts_mL := List.mem_of_getElem? hq
  obtain ⟨hqc, hqp, hq13, hqd1, hqd2⟩ := ts_okY_of hqm
  unfold ts_okC at hok
  dsimp only at hok
  rw [hq] at hok
  simp only [Bool.and_eq_true, decide_eq_true_eq] at hok
  obtain ⟨⟨hpar, hz2⟩, hkind⟩ := hok
  have hMet := hM hA0 (hA1.imp_left fun h => by have := hW.2; omega) q hq
  have hini : (Cond.initialized q.1.cls).before args s = true := hwd (ts_wi_gd _ (List.mem_map.mpr ⟨q, hqm, rfl⟩))
  have hcode : (ts_cw q).before args s = true := hwd ⟨ts_wm_in q hqm, ts_cw_good q⟩
  have hG : GoodIn (ts_ws Y) (ts_ws q) := ts_ws_good hqm
  have hRR : (ts_rm d M M').frames + 1 ≤ R.frames ∧ 8 + (q.2.2.1 + 11) + (ts_rm d M M').locals ≤ R.locals := ⟨hRf, by show 8 + (q.2.2.1 + 11) + 40 * d ≤ R.locals; omega⟩
  have hs1 := ts_sz_le hN
  have hs2 := ts_sz_le hMM
  have hs3 := ts_sz_le hle
  have hroom : k0 + (M.2.2.2 - N0) + (M'.2.2.2 - M.2.2.2) ≤ R.cells ∧ z0 + (ts_sz M.2.2.2 - ts_sz N0) + (ts_sz M'.2.2.2 - ts_sz M.2.2.2) ≤ R.slots := ⟨by omega, by omega⟩
  have hU : ∀ U : State, U.heap = H → s.WarmedH U.vm → ts_Pc D B cA M As (As.map (ts_val B)).toArray U := fun U hU hW2 =>
    ⟨rfl, by rw [hU]; exact hW, va_K.moved hW2.alike hK, ts_Nw_warm hW2 hNw, va_AO.moved hW2.alike hA4, va_AO.moved hW2.alike hA2, by rw [hU]; exact Nat.le_trans hB0 hS.1, by rw [hU]; exact hHs⟩
  have hrm : 2 * (F0 m pc sl (st.map (ts_val B))).monitorRoom + ((r.map (ts_val B)).map fun v => v.category).sum ≤ 8 := lv_room (ts_sum hr)
  have fin : ∀ a : Array Value, va_Run p l e R s m args below meth c H locs (k0 + (M.2.2.2 - N0)) (z0 + (ts_sz M.2.2.2 - ts_sz N0)) (M'.2.2.2 - M.2.2.2) (ts_sz M'.2.2.2 - ts_sz M.2.2.2) (F0 m pc sl (st.map (ts_val B))) (r.map (ts_val B)) (ts_Qc D B cA A v M' a) A → W p l e R s m args below meth c H locs (k0 + (M.2.2.2 - N0)) (z0 + (ts_sz M.2.2.2 - ts_sz N0)) Q (F0 m pc sl (st.map (ts_val B))) := by
    intro a hrun
    refine ts_after hrun hS fun H1 locs1 hW1 hS1 => ?_
    have := kk H1 locs1 hW1 hS1
    rw [show k0 + (M.2.2.2 - N0) + (M'.2.2.2 - M.2.2.2) = k0 + (M'.2.2.2 - N0) by omega, show z0 + (ts_sz M.2.2.2 - ts_sz N0) + (ts_sz M'.2.2.2 - ts_sz M.2.2.2) = z0 + (ts_sz M'.2.2.2 - ts_sz N0) by omega]
    exact this
  have hfix : CallFix p m c Y.2.1 Y.2.2.1 s args (ts_ws Y) Y.1.cls := ⟨hx, hb, hml, hown, hts⟩
  have hYc := hY
  have hdd : q.1.cls ≠ "java/lang/invoke/MethodHandle" ∧ q.1.cls ≠ "java/lang/invoke/VarHandle" ∧ (parseMethodDescriptor q.1.desc).map (fun d => d.parameters.length) = some n := ⟨hqd1, hqd2, hpar⟩
  have hlink0 : z = 0 → (Cond.methodLink Y.1.cls x q.1).before args s = true := by
    intro h0
    have := hwd (ts_wc_gd (Cond.methodLink (ts_cn Y.2.2.2.2) x q.1) (List.mem_map.mpr ⟨_, List.mem_filter.mpr ⟨hcm, by simp [h0]⟩, by simp only [hq]⟩))
    rwa [← hYc] at this
  have hlink1 : z = 1 → va_Nw (.methodLinkNest Y.1.cls x q.1 RX11) s := by
    intro h1
    have := hNw _ hcm h1 q hq
    rwa [← hYc] at this
  have hwk : (if ts_st q then Cond.static q.1 else Cond.instanceMethod q.1).before args s = true := hwd (ts_wk_gd _ (List.mem_map.mpr ⟨q, hqm, rfl⟩))
  have hzz : z = 0 ∨ z = 1 := by omega
  by_cases h0 : k = 0
  · rw [if_pos h0] at hkind hdec
    simp only [Bool.and_eq_true, decide_eq_true_eq, Bool.not_eq_true'] at hkind
    rw [hkind.2] at hwk
    obtain ⟨b, As', rfl, hb2⟩ := hrec (by omega)
    obtain ⟨hsb, hbn⟩ := hb2 h0
    rw [if_neg (by omega)] at hlen
    have hsel : (Cond.selects q.1.cls q.1 q.1).before args s = true := hwd (ts_wv_gd _ (List.mem_map.mpr ⟨y, hkind.1, by simp only [hq]⟩))
    have hrcv : ∃ cellB : Cell, H[B + b]? = some cellB ∧ cellB.vm.isStatics = false ∧ s.vm.findClass q.1.cls = some cellB.cls := by
      have h13 : q.2.2.2.2 < 12 := by
        obtain ⟨r', hr', -⟩ := hW.1 b _ (ts_hent hsb hbn)
        have := (List.getElem?_eq_some_iff.mp hr').1
        simpa [ts_cl] using this
      have := va_recv hK hW.1 (ts_cl_at h13) (ts_hent hsb hbn)
      rwa [← hqc] at this
    have hPre : PreV s H q.1.cls (B + b) (ts_Pc D B cA M (.inr (.inr (some b)) :: As')) (As'.map (ts_val B)) := ⟨ts_St.blind, hrcv, hU⟩
    have hstk : (F0 m pc sl (st.map (ts_val B))).stack = (As'.map (ts_val B)).reverse ++ .ref (B + b) :: r.map (ts_val B) := by
      show st.map (ts_val B) = _
      rw [hst]; simp [ts_val, va_rf]
    have hn' : (As'.map (ts_val B)).length = n := by simp at hlen ⊢; omega
    rcases hzz with hz0 | hz1
    · exact fin _ (va_runV (As := As'.map (ts_val B)) (rest := r.map (ts_val B)) hfix hMet ⟨callB_of n hts hG rfl rfl rfl hini (hlink0 hz0) hdd hRR, hwk, hsel⟩ hPre rfl hn' hsz hstk hrm hdec hroom)
    · exact fin _ (va_runVN (As := As'.map (ts_val B)) (rest := r.map (ts_val B)) hfix hMet ⟨va_cnB n hts hG rfl rfl rfl (hlink1 hz1) hini hdd hRR, hwk, hsel⟩ hPre rfl hn' hsz hstk hrm hdec hroom)
  · rw [if_neg h0] at hkind hdec
    by_cases h1 : k = 1
    · rw [if_pos h1] at hkind hdec
      rw [if_pos h1] at hlen
      rw [hkind] at hwk
      have hPre : PreS s H (ts_Pc D B cA M As) (As.map (ts_val B)) := ⟨ts_St.blind, hU⟩
      have hstk : (F0 m pc sl (st.map (ts_val B))).stack = (As.map (ts_val B)).reverse ++ r.map (ts_val B) := by
        show st.map (ts_val B) = _
        rw [hst]; simp
      have hn' : (As.map (ts_val B)).length = n := by simpa using hlen
      rcases hzz with hz0 | hz1
      · exact fin _ (va_runS (As := As.map (ts_val B)) (rest := r.map (ts_val B)) hfix hMet ⟨callB_of n hts hG rfl rfl rfl hini (hlink0 hz0) hdd hRR, hwk⟩ hPre rfl hn' hsz hstk hrm hdec hroom)
      · exact fin _ (va_runSN (As := As.map (ts_val B)) (rest := r.map (ts_val B)) hfix hMet ⟨va_cnB n hts hG rfl rfl rfl (hlink1 hz1) hini hdd hRR, hwk, trivial⟩ hPre rfl hn' hsz hstk hrm hdec hroom)
    · rw [if_neg h1] at hkind hdec
      simp only [Bool.and_eq_true, decide_eq_true_eq, Bool.not_eq_true'] at hkind
      obtain ⟨⟨⟨hk2, hin⟩, hrn⟩, hst0⟩ := hkind
      rw [hst0] at hwk
      rw [if_neg h1] at hlen
      obtain ⟨b, As', rfl, -⟩ := hrec h1
      have hPre : PreS s H (ts_Pc D B cA M (.inr (.inr (some b)) :: As')) (.ref (B + b) :: As'.map (ts_val B)) := ⟨ts_St.blind, hU⟩
      have hstk : (F0 m pc sl (st.map (ts_val B))).stack = (As'.map (ts_val B)).reverse ++ .ref (B + b) :: r.map (ts_val B) := by
        show st.map (ts_val B) = _
        rw [hst]; simp [ts_val, va_rf]
      have hn' : (As'.map (ts_val B)).length = n := by simp at hlen ⊢; omega
      have hwsq : ts_ws q = Cond.code q.1 q.2.1 q.2.2.1 none :: ts_tb := by unfold ts_ws ts_cw; rw [hrn]
      rcases hzz with hz0 | hz1
      · exact fin _ (va_runI (As := As'.map (ts_val B)) (rest := r.map (ts_val B)) hfix hMet ⟨callB_of n hts hG hwsq rfl rfl hini (hlink0 hz0) hdd hRR, hin, hwk⟩ hPre rfl hn' hsz hstk hrm hdec hroom)
      · exact fin _ (va_runIN (As := As'.map (ts_val B)) (rest := r.map (ts_val B)) hfix hMet ⟨va_cnB n hts hG hwsq rfl rfl (hlink1 hz1) hini hdd hRR, hin, hwk⟩ hPre rfl hn' hsz hstk hrm hdec hroom)
end CALL

/-! ===== the JDK's methods: worlds, contracts, calls ===== -/
def jcl : List vw_C := [(RJ4, TJ4, 4), (RJ0, TJ0, 4)]
/-- statics of the JDK that texts ask -/
def jZ (A : Nat → Prop) (U : State) (H : Heap) : Prop := va_Z RJ0 "COMPACT_STRINGS" "Z" (.int 1) A U H ∧ (∃ t, va_Z RJ6 "DigitOnes" "[B" (.ref t) A U H ∧ va_T .byte t 100 (fun k => .int (nI (48 + k % 10))) A U H) ∧ (∃ t, va_Z RJ6 "DigitTens" "[B" (.ref t) A U H ∧ va_T .byte t 100 (fun k => .int (nI (48 + k / 10))) A U H) ∧ va_Zq RJ3 "SIOOBE_FORMATTER" "Ljava/util/function/BiFunction;" A U H
theorem jZ.moved {A : Nat → Prop} {u U : State} {H : Heap} (hvm : u.vm.Alike U.vm) (h : jZ A u H) : jZ A U H := by
  obtain ⟨h1, ⟨t, h2, h3⟩, ⟨t', h4, h5⟩, h6⟩ := h
  exact ⟨va_Z.moved hvm h1, ⟨t, va_Z.moved hvm h2, va_T.moved hvm h3⟩, ⟨t', va_Z.moved hvm h4, va_T.moved hvm h5⟩, va_Zq.moved hvm h6⟩
theorem jZ.kept {A : Nat → Prop} {U : State} {H H1 : Heap} (h : jZ A U H) (hq : ∀ a : Nat, a < H.size → ¬ A a → H1[a]? = H[a]?) : jZ A U H1 := by
  obtain ⟨h1, ⟨t, h2, h3⟩, ⟨t', h4, h5⟩, h6⟩ := h
  exact ⟨h1.kept hq, ⟨t, h2.kept hq, h3.kept hq⟩, ⟨t', h4.kept hq, h5.kept hq⟩, h6.kept hq⟩
/-- facts on cells outside A: they go with the tables and with what is kept -/
def jL (A : Nat → Prop) (Lf : State → Heap → Prop) : Prop := (∀ u U H, u.vm.Alike U.vm → Lf u H → Lf U H) ∧ ∀ U H H1, (∀ a : Nat, a < Array.size H → ¬ A a → H1[a]? = H[a]?) → Lf U H → Lf U H1
theorem jL_0 {A : Nat → Prop} : jL A (fun _ _ => True) := ⟨fun _ _ _ _ _ => trivial, fun _ _ _ _ _ => trivial⟩
/-- a Latin-1 String outside A: where it lies, its text -/
def jStr (A : Nat → Prop) (h : Nat) (t : List Nat) (U : State) (H : Heap) : Prop := ∃ v, va_O RJ0 h A U H ∧ va_OF RJ0 "coder" "B" (.int 0) h A U H ∧ va_OF RJ0 "value" "[B" (.ref v) h A U H ∧ va_T .byte v t.length (fun j => .int (nI (t.getD j 0))) A U H
theorem jL_str {A : Nat → Prop} {h : Nat} {t : List Nat} : jL A (jStr A h t) := by
  refine ⟨fun u U H hvm q => ?_, fun U H H1 hq q => ?_⟩
  · obtain ⟨v, h1, h2, h3, h4⟩ := q
    exact ⟨v, va_O.moved hvm h1, va_OF.moved hvm h2, va_OF.moved hvm h3, va_T.moved hvm h4⟩
  · obtain ⟨v, h1, h2, h3, h4⟩ := q
    exact ⟨v, h1.kept hq, h2.kept hq, h3.kept hq, h4.kept hq⟩
theorem jL_T {A : Nat → Prop} {v n : Nat} {f : Nat → Value} : jL A (fun U H => va_T .byte v n f A U H) := ⟨fun _ _ _ hvm q => va_T.moved hvm q, fun _ _ _ hq q => q.kept hq⟩
def jPc (D : va_G) (cb : ClassId) (A : Nat → Prop) (Lf : State → Heap → Prop) (As : List Value) (ws : va_W) : Array Value → State → Prop := va_Pc As (fun U => va_K D jcl [(cb, .byte)] U ∧ jZ A U U.heap ∧ (∀ q, U.heap.size ≤ q → A q) ∧ va_P D jcl ws U.heap ∧ va_D A ws ∧ Lf U U.heap)
def jQc (D : va_G) (A : Nat → Prop) (post : Option Value → va_W → Prop) : Array Value → State → Outcome → State → Prop := fun _ st o t => ∃ v ws', o = .returned v ∧ va_P D jcl ws' t.heap ∧ va_D A ws' ∧ post v ws' ∧ va_F A st t
def jM (l : Launch) (D : va_G) (cb : ClassId) (A : Nat → Prop) (Lf : State → Heap → Prop) (y : ts_Y) (d mc ms : Nat) (As : List Value) (ws : va_W) (post : Option Value → va_W → Prop) : Prop :=
  Met l y.1 (jws y) ({ frames := d, cells := mc, slots := ms, locals := 40 * d } : Room) (jPc D cb A Lf As ws) (jQc D A post) mc ms A
theorem j_u4 : ∀ w ∈ u_ws RJ4 TJ4 4, jgd w := by
  have h : (u_ws RJ4 TJ4 4).all (fun w => decide (w ∈ lw_tbl) && goodWord w) = true := by decide +kernel
  intro w hw
  have := List.all_eq_true.mp h w hw
  simp only [Bool.and_eq_true, decide_eq_true_eq] at this
  exact ⟨List.mem_append_left _ this.1, this.2⟩
theorem j_u0 : ∀ w ∈ u_ws RJ0 TJ0 4, jgd w := by
  have h : (u_ws RJ0 TJ0 4).all (fun w => decide (w ∈ lw_tbl) && goodWord w) = true := by decide +kernel
  intro w hw
  have := List.all_eq_true.mp h w hw
  simp only [Bool.and_eq_true, decide_eq_true_eq] at this
  exact ⟨List.mem_append_left _ this.1, this.2⟩
theorem jPc_blind {D : va_G} {cb : ClassId} {A : Nat → Prop} {Lf : State → Heap → Prop} (hL : jL A Lf) {As : List Value} {ws : va_W} : FrameBlind (jPc D cb A Lf As ws) := by
  intro a U g mk ⟨h1, h2, h3, h4, h5, h6, h7⟩
  exact ⟨h1, va_K.moved (u := U) (U := U.calling g mk a) (Vm.Alike.refl U.vm) h2, jZ.moved (u := U) (U := U.calling g mk a) (Vm.Alike.refl U.vm) h3, h4, h5, h6, hL.1 U (U.calling g mk a) _ (Vm.Alike.refl U.vm) h7⟩
/-- what stays through a method's walk -/
def jF (p : Program) (R : Room) (s : State) (m : MethodId) (args : Array Value) (meth : Method) (c : Code) (Y : ts_Y) (D : va_G) (cb : ClassId) (A : Nat → Prop) (d mR sR : Nat) : Prop :=
  p.tables.exec = Jvm.exec ∧ c.code = Y.2.1 ∧ c.maxLocals = Y.2.2.1 ∧ s.vm.findClass Y.1.cls = some m.cls ∧ (∀ w, jgd w → w.before args s = true) ∧ va_K D jcl [(cb, .byte)] s ∧ jZ A s s.heap ∧ (∀ q, s.heap.size ≤ q → A q) ∧
  d ≤ R.frames ∧ 40 * d ≤ R.locals ∧ mR ≤ R.cells ∧ sR ≤ R.slots
theorem jM_of {l : Launch} {D : va_G} {cb : ClassId} {A : Nat → Prop} {Lf : State → Heap → Prop} {y : ts_Y} {d mc ms : Nat} {As : List Value} {ws : va_W} {post : Option Value → va_W → Prop} (hp : plainName y.1.cls = true) (hn : (lg_sl As).length ≤ y.2.2.1)
    (k : ∀ (p : Program) (e : Env) (R : Room) (s : State) (m : MethodId) (args : Array Value) (below : List Frame) (meth : Method) (c : Code) (sl : Array Slot), jF p R s m args meth c y D cb A d mc ms → meth.name = y.1.name → meth.sig.returnType = y.2.2.2.1 → meth.locks = false → lv_has sl y.2.2.1 (lv_args 0 As) → va_P D jcl ws s.heap → va_D A ws → Lf s s.heap →
      W p l e R s m args below meth c s.heap [] 0 0 (MQ below (jQc D A post) args s mc ms A) (F0 m 0 sl [])) : jM l D cb A Lf y d mc ms As ws post := by
  refine Met.ofW (cc := y.2.1) (maxL := y.2.2.1) (ret := y.2.2.2.1) hp rfl ?_
  intro p e s m args below meth c s₁ Bd hml hv
  obtain ⟨rfl, hK, hZ, hA, hP, hD, hLf⟩ := hv
  have hts := atoms_spec (ws := jws y) Bd.pre
  have hl := lv_entry As (n := y.2.2.1) hn
  rw [lg_entry_eq]
  generalize (lg_sl As ++ List.replicate (y.2.2.1 - (lg_sl As).length) Slot.unset).toArray = sl at hl ⊢
  exact k p e _ s m _ below meth c sl ⟨Bd.exec, Bd.bytes, hml, findClass_of_methodNamed Bd.named, fun w hw => hts w (List.mem_cons_of_mem _ (List.mem_filter.mpr hw)), hK, hZ, hA, Nat.le_refl _, Nat.le_refl _, Nat.le_refl _, Nat.le_refl _⟩ (name_of_methodNamed Bd.named Bd.method).1 Bd.returns Bd.notSynchronized hl hP hD hLf
section JC
variable {p : Program} {l : Launch} {e : Env} {R : Room} {s : State} {m : MethodId} {args : Array Value} {below : List Frame} {meth : Method} {c : Code} {H : Heap} {locs : List Loc} {cells slots : Nat} {Q : State → Prop} {Y q : ts_Y} {D : va_G} {cb : ClassId} {A : Nat → Prop} {Lf : State → Heap → Prop} {d dq mR sR mc ms pc x n : Nat} {sl : Array Slot} {rest As : List Value} {ws : va_W} {post : Option Value → va_W → Prop} {b : Addr}
theorem j_after {st0 : List Value} {a : Array Value} (hr : va_Run p l e R s m args below meth c H locs cells slots mc ms (F0 m pc sl st0) rest (jQc D A post a) A) (hS : va_S A s.heap H locs)
    (kk : ∀ (v : Option Value) (ws' : va_W) (H1 : Heap) (locs1 : List Loc), va_P D jcl ws' H1 → va_D A ws' → post v ws' → va_S A s.heap H1 locs1 → W p l e R s m args below meth c H1 locs1 (cells + mc) (slots + ms) Q (F0 m (pc + 3) sl (v.toList ++ rest))) : W p l e R s m args below meth c H locs cells slots Q (F0 m pc sl st0) := by
  intro T hT X
  obtain ⟨v', st₀, t, T', L, h0, X', hL, e1, e2, ⟨v, ws', hv, hP, hD, hpost, hz, hk⟩, st⟩ := hr T hT X
  cases hv
  rw [h0] at hz hk
  obtain ⟨t2, a1, b1⟩ := kk v' ws' T'.heap (locs ++ L) (by rw [e1]; exact hP) hD hpost
    ⟨Nat.le_trans hS.1 (by rw [e1]; exact hz), fun q h1 h2 => by rw [e1, hk q (Nat.lt_of_lt_of_le h1 hS.1) h2]; exact hS.2.1 q h1 h2, fun q hq => by
      rcases List.mem_append.mp hq with h | h
      · exact hS.2.2 q h
      · exact hL q h⟩ T' rfl X'
  exact ⟨t2, st t2 a1, b1⟩
theorem j_pre (hK : va_K D jcl [(cb, .byte)] s) (hZ : jZ A s s.heap) (hA : ∀ q, s.heap.size ≤ q → A q) (hL : jL A Lf) (hLs : Lf s s.heap) (hP : va_P D jcl ws H) (hD : va_D A ws) (hS : va_S A s.heap H locs) : ∀ U : State, U.heap = H → s.WarmedH U.vm → jPc D cb A Lf As ws As.toArray U := fun U hU hW =>
  ⟨rfl, va_K.moved hW.alike hK, by rw [hU]; exact jZ.moved hW.alike (hZ.kept hS.2.1), fun q hq => by rw [hU] at hq; exact hA q (Nat.le_trans hS.1 hq), by rw [hU]; exact hP, hD, by rw [hU]; exact hL.1 _ _ _ hW.alike (hL.2 _ _ _ hS.2.1 hLs)⟩
theorem j_good (hq : jgd (ts_cw q)) (Y : ts_Y) : GoodIn (jws Y) (jws q) := by
  intro w hw
  rcases List.mem_cons.mp hw with e | e
  · subst e
    exact ⟨List.mem_cons_of_mem _ (List.mem_filter.mpr hq), good_of_word hq.2⟩
  · exact ⟨List.mem_cons_of_mem _ e, good_of_word (List.mem_filter.mp e).2⟩
/-- the words of the frame's own method, as a list -/
theorem j_pay (hts : ∀ w, jgd w → w.before args s = true) (hq : jgd (ts_cw q)) : ∀ w ∈ jws q, ∀ (a' : Array Value) (U : State), s.WarmedH U.vm → w.before a' U = true := by
  intro w hw a' U hW
  rcases List.mem_cons.mp hw with e | e
  · subst e; exact word_at hW (good_of_word hq.2) (hts _ hq)
  · have := List.mem_filter.mp e
    exact word_at hW (good_of_word this.2) (hts _ ⟨this.1, this.2⟩)
theorem j_callB (hts : ∀ w, jgd w → w.before args s = true) (hRf : dq + 1 ≤ R.frames) (hRl : 40 * (dq + 1) ≤ R.locals) (w1 : jgd (.methodLink Y.1.cls x q.1)) (w3 : jgd (.initialized q.1.cls)) (w4 : jgd (ts_cw q))
    (hdd : q.1.cls ≠ "java/lang/invoke/MethodHandle" ∧ q.1.cls ≠ "java/lang/invoke/VarHandle" ∧ (parseMethodDescriptor q.1.desc).map (fun d => d.parameters.length) = some n) (hmx : q.2.2.1 ≤ 20) : CallB R s args Y.1.cls x q.1 q.2.1 q.2.2.1 q.2.2.2.1 (jws q) ({ frames := dq, cells := mc, slots := ms, locals := 40 * dq } : Room) mc ms n := by
  refine ⟨rfl, rfl, hRf, ?_, j_pay hts w4, List.mem_cons_self, hts _ w4, hts _ w3, ⟨hdd.1, hdd.2.1⟩, fun sig h => ?_, hts _ w1⟩
  · show 8 + (q.2.2.1 + 11) + 40 * dq ≤ R.locals
    omega
  · have h2 := hdd.2.2
    rw [h] at h2
    exact (Option.some.inj h2).symm
theorem j_callS (F : jF p R s m args meth c Y D cb A d mR sR) (hM : jM l D cb A Lf q dq mc ms As ws post) (hL : jL A Lf) (hLs : Lf s s.heap) (hP : va_P D jcl ws H) (hD : va_D A ws) (hS : va_S A s.heap H locs)
    (w1 : jgd (.methodLink Y.1.cls x q.1)) (w2 : jgd (.static q.1)) (w3 : jgd (.initialized q.1.cls)) (w4 : jgd (ts_cw q)) (hdd : q.1.cls ≠ "java/lang/invoke/MethodHandle" ∧ q.1.cls ≠ "java/lang/invoke/VarHandle" ∧ (parseMethodDescriptor q.1.desc).map (fun d => d.parameters.length) = some n)
    (hd : dq + 1 ≤ d) (hmx : q.2.2.1 ≤ 20) (hn : As.length = n) (hsz : sl.size = Y.2.2.1) {st : List Value} (hst : st = As.reverse ++ rest) (hcat : (rest.map fun v => v.category).sum ≤ 8) (hdec : decode Y.2.1 pc = .ok (.invokestatic x, 3)) (hroom : cells + mc ≤ mR ∧ slots + ms ≤ sR)
    (kk : ∀ (v : Option Value) (ws' : va_W) (H1 : Heap) (locs1 : List Loc), va_P D jcl ws' H1 → va_D A ws' → post v ws' → va_S A s.heap H1 locs1 → W p l e R s m args below meth c H1 locs1 (cells + mc) (slots + ms) Q (F0 m (pc + 3) sl (v.toList ++ rest))) : W p l e R s m args below meth c H locs cells slots Q (F0 m pc sl st) := by
  obtain ⟨hx, hb, hml, hown, hts, hK, hZ, hA, hRf, hRl, hRc, hRs⟩ := F
  subst hst
  have hfix : CallFix p m c Y.2.1 Y.2.2.1 s args j_tb Y.1.cls := ⟨hx, hb, hml, hown, fun w hw => hts w ⟨(List.mem_filter.mp hw).1, (List.mem_filter.mp hw).2⟩⟩
  exact j_after (va_runS hfix hM ⟨j_callB hts (by omega) (by omega) w1 w3 w4 hdd hmx, hts _ w2⟩ ⟨jPc_blind hL, j_pre hK hZ hA hL hLs hP hD hS⟩ rfl hn hsz rfl (lv_room hcat) hdec ⟨by omega, by omega⟩) hS kk
theorem j_callV (F : jF p R s m args meth c Y D cb A d mR sR) (hM : jM l D cb A Lf q dq mc ms (.ref b :: As) ws post) (hL : jL A Lf) (hLs : Lf s s.heap) (hP : va_P D jcl ws H) (hD : va_D A ws) (hS : va_S A s.heap H locs)
    (w1 : jgd (.methodLink Y.1.cls x q.1)) (w2 : jgd (.instanceMethod q.1)) (w5 : jgd (.selects q.1.cls q.1 q.1)) (w3 : jgd (.initialized q.1.cls)) (w4 : jgd (ts_cw q)) (hdd : q.1.cls ≠ "java/lang/invoke/MethodHandle" ∧ q.1.cls ≠ "java/lang/invoke/VarHandle" ∧ (parseMethodDescriptor q.1.desc).map (fun d => d.parameters.length) = some n)
    (hrecv : ∃ cellB : Cell, H[b]? = some cellB ∧ cellB.vm.isStatics = false ∧ s.vm.findClass q.1.cls = some cellB.cls)
    (hd : dq + 1 ≤ d) (hmx : q.2.2.1 ≤ 20) (hn : As.length = n) (hsz : sl.size = Y.2.2.1) {st : List Value} (hst : st = As.reverse ++ .ref b :: rest) (hcat : (rest.map fun v => v.category).sum ≤ 8) (hdec : decode Y.2.1 pc = .ok (.invokevirtual x, 3)) (hroom : cells + mc ≤ mR ∧ slots + ms ≤ sR)
    (kk : ∀ (v : Option Value) (ws' : va_W) (H1 : Heap) (locs1 : List Loc), va_P D jcl ws' H1 → va_D A ws' → post v ws' → va_S A s.heap H1 locs1 → W p l e R s m args below meth c H1 locs1 (cells + mc) (slots + ms) Q (F0 m (pc + 3) sl (v.toList ++ rest))) : W p l e R s m args below meth c H locs cells slots Q (F0 m pc sl st) := by
  obtain ⟨hx, hb, hml, hown, hts, hK, hZ, hA, hRf, hRl, hRc, hRs⟩ := F
  subst hst
  have hfix : CallFix p m c Y.2.1 Y.2.2.1 s args j_tb Y.1.cls := ⟨hx, hb, hml, hown, fun w hw => hts w ⟨(List.mem_filter.mp hw).1, (List.mem_filter.mp hw).2⟩⟩
  exact j_after (va_runV hfix hM ⟨j_callB hts (by omega) (by omega) w1 w3 w4 hdd hmx, hts _ w2, hts _ w5⟩ ⟨jPc_blind hL, hrecv, j_pre hK hZ hA hL hLs hP hD hS⟩ rfl hn hsz rfl (lv_room hcat) hdec ⟨by omega, by omega⟩) hS kk
theorem j_callI (F : jF p R s m args meth c Y D cb A d mR sR) (hM : jM l D cb A Lf q dq mc ms (.ref b :: As) ws post) (hL : jL A Lf) (hLs : Lf s s.heap) (hP : va_P D jcl ws H) (hD : va_D A ws) (hS : va_S A s.heap H locs)
    (w1 : jgd (.methodLink Y.1.cls x q.1)) (w2 : jgd (.instanceMethod q.1)) (w3 : jgd (.initialized q.1.cls)) (w4 : jgd (ts_cw q)) (hdd : q.1.cls ≠ "java/lang/invoke/MethodHandle" ∧ q.1.cls ≠ "java/lang/invoke/VarHandle" ∧ (parseMethodDescriptor q.1.desc).map (fun d => d.parameters.length) = some n) (hin : q.1.name = "<init>") (hrn : q.2.2.2.1 = none)
    (hd : dq + 1 ≤ d) (hmx : q.2.2.1 ≤ 20) (hn : As.length = n) (hsz : sl.size = Y.2.2.1) {st : List Value} (hst : st = As.reverse ++ .ref b :: rest) (hcat : (rest.map fun v => v.category).sum ≤ 8) (hdec : decode Y.2.1 pc = .ok (.invokespecial x, 3)) (hroom : cells + mc ≤ mR ∧ slots + ms ≤ sR)
    (kk : ∀ (v : Option Value) (ws' : va_W) (H1 : Heap) (locs1 : List Loc), va_P D jcl ws' H1 → va_D A ws' → post v ws' → va_S A s.heap H1 locs1 → W p l e R s m args below meth c H1 locs1 (cells + mc) (slots + ms) Q (F0 m (pc + 3) sl (v.toList ++ rest))) : W p l e R s m args below meth c H locs cells slots Q (F0 m pc sl st) := by
  obtain ⟨hx, hb, hml, hown, hts, hK, hZ, hA, hRf, hRl, hRc, hRs⟩ := F
  subst hst
  have hfix : CallFix p m c Y.2.1 Y.2.2.1 s args j_tb Y.1.cls := ⟨hx, hb, hml, hown, fun w hw => hts w ⟨(List.mem_filter.mp hw).1, (List.mem_filter.mp hw).2⟩⟩
  have hcb := j_callB (mc := mc) (ms := ms) hts (by omega : dq + 1 ≤ R.frames) (by omega) w1 w3 w4 hdd hmx
  rw [hrn] at hcb
  exact j_after (va_runI hfix hM ⟨hcb, hin, hts _ w2⟩ ⟨jPc_blind hL, j_pre hK hZ hA hL hLs hP hD hS⟩ rfl hn hsz rfl (lv_room hcat) hdec ⟨by omega, by omega⟩) hS kk
/-- invokevirtual of x, which the receiver's class C selects as q's -/
theorem j_callU {C owner : String} {y : MethodName} (F : jF p R s m args meth c Y D cb A d mR sR) (hM : jM l D cb A Lf q dq mc ms (.ref b :: As) ws post) (hL : jL A Lf) (hLs : Lf s s.heap) (hP : va_P D jcl ws H) (hD : va_D A ws) (hS : va_S A s.heap H locs)
    (w1 : jgd (.methodLink Y.1.cls x y)) (w2 : jgd (.instanceMethod q.1)) (w5 : (Cond.selects C y q.1).before args s = true) (w6 : jgd (.sameMethod y.cls owner y.name y.desc)) {b0 : ByteArray} {m0 : Nat} {r0 : Option FieldType} (w7 : jgd (.instanceMethod ⟨owner, y.name, y.desc⟩)) (w8 : jgd (.code ⟨owner, y.name, y.desc⟩ b0 m0 r0)) (w3 : jgd (.initialized q.1.cls)) (w4 : jgd (ts_cw q)) (hdd : owner ≠ "java/lang/invoke/MethodHandle" ∧ owner ≠ "java/lang/invoke/VarHandle" ∧ (parseMethodDescriptor y.desc).map (fun d => d.parameters.length) = some n)
    (hrecv : ∃ cellB : Cell, H[b]? = some cellB ∧ cellB.vm.isStatics = false ∧ s.vm.findClass C = some cellB.cls)
    (hd : dq + 1 ≤ d) (hmx : q.2.2.1 ≤ 20) (hn : As.length = n) (hsz : sl.size = Y.2.2.1) {st : List Value} (hst : st = As.reverse ++ .ref b :: rest) (hcat : (rest.map fun v => v.category).sum ≤ 8) (hdec : decode Y.2.1 pc = .ok (.invokevirtual x, 3)) (hroom : cells + mc ≤ mR ∧ slots + ms ≤ sR)
    (kk : ∀ (v : Option Value) (ws' : va_W) (H1 : Heap) (locs1 : List Loc), va_P D jcl ws' H1 → va_D A ws' → post v ws' → va_S A s.heap H1 locs1 → W p l e R s m args below meth c H1 locs1 (cells + mc) (slots + ms) Q (F0 m (pc + 3) sl (v.toList ++ rest))) : W p l e R s m args below meth c H locs cells slots Q (F0 m pc sl st) := by
  obtain ⟨hx, hb, hml, hown, hts, hK, hZ, hA, hRf, hRl, hRc, hRs⟩ := F
  subst hst
  have hfix : CallFix p m c Y.2.1 Y.2.2.1 s args j_tb Y.1.cls := ⟨hx, hb, hml, hown, fun w hw => hts w ⟨(List.mem_filter.mp hw).1, (List.mem_filter.mp hw).2⟩⟩
  have hcu : va_CU R s args Y.1.cls C owner x y q.1 q.2.1 q.2.2.1 q.2.2.2.1 (jws q) ({ frames := dq, cells := mc, slots := ms, locals := 40 * dq } : Room) mc ms n := by
    refine ⟨⟨rfl, rfl, by show dq + 1 ≤ R.frames; omega, ?_, j_pay hts w4, List.mem_cons_self⟩, hts _ w4, hts _ w3, ⟨hdd.1, hdd.2.1⟩, fun sig h => ?_, hts _ w1, hts _ w6, va_Decl.of (hts _ w7) (hts _ w8), w5, hts _ w2⟩
    · show 8 + (q.2.2.1 + 11) + 40 * dq ≤ R.locals
      omega
    · have h2 := hdd.2.2
      rw [h] at h2
      exact (Option.some.inj h2).symm
  exact j_after (va_runU hfix hM hcu ⟨jPc_blind hL, hrecv, j_pre hK hZ hA hL hLs hP hD hS⟩ rfl hn hsz rfl (lv_room hcat) hdec ⟨by omega, by omega⟩) hS kk
/-- super.q(..) -/
theorem j_callSU {C : String} {cC : ClassId} (hat : ClassAt s C cC) (F : jF p R s m args meth c Y D cb A d mR sR) (hM : jM l D cb A Lf q dq mc ms (.ref b :: As) ws post) (hL : jL A Lf) (hLs : Lf s s.heap) (hP : va_P D jcl ws H) (hD : va_D A ws) (hS : va_S A s.heap H locs)
    (w1 : jgd (.methodLink Y.1.cls x q.1)) (w2 : jgd (.instanceMethod q.1)) (w6 : jgd (.sameMethod q.1.cls q.1.cls q.1.name q.1.desc)) (w7 : jgd (.superclass Y.1.cls q.1.cls)) (w3 : jgd (.initialized q.1.cls)) (w4 : jgd (ts_cw q)) (hdd : q.1.name ≠ "<init>" ∧ (parseMethodDescriptor q.1.desc).map (fun d => d.parameters.length) = some n)
    (hrecv : ∃ cellB : Cell, H[b]? = some cellB ∧ cellB.vm.isStatics = false ∧ s.vm.findClass C = some cellB.cls)
    (hd : dq + 1 ≤ d) (hmx : q.2.2.1 ≤ 20) (hn : As.length = n) (hsz : sl.size = Y.2.2.1) {st : List Value} (hst : st = As.reverse ++ .ref b :: rest) (hcat : (rest.map fun v => v.category).sum ≤ 8) (hdec : decode Y.2.1 pc = .ok (.invokespecial x, 3)) (hroom : cells + mc ≤ mR ∧ slots + ms ≤ sR)
    (kk : ∀ (v : Option Value) (ws' : va_W) (H1 : Heap) (locs1 : List Loc), va_P D jcl ws' H1 → va_D A ws' → post v ws' → va_S A s.heap H1 locs1 → W p l e R s m args below meth c H1 locs1 (cells + mc) (slots + ms) Q (F0 m (pc + 3) sl (v.toList ++ rest))) : W p l e R s m args below meth c H locs cells slots Q (F0 m pc sl st) := by
  obtain ⟨hx, hb, hml, hown, hts, hK, hZ, hA, hRf, hRl, hRc, hRs⟩ := F
  subst hst
  have hfix : CallFix p m c Y.2.1 Y.2.2.1 s args j_tb Y.1.cls := ⟨hx, hb, hml, hown, fun w hw => hts w ⟨(List.mem_filter.mp hw).1, (List.mem_filter.mp hw).2⟩⟩
  have hcu : va_CS R s args Y.1.cls x q.1 q.2.1 q.2.2.1 q.2.2.2.1 (jws q) ({ frames := dq, cells := mc, slots := ms, locals := 40 * dq } : Room) mc ms n := by
    refine ⟨⟨rfl, rfl, by show dq + 1 ≤ R.frames; omega, ?_, j_pay hts w4, List.mem_cons_self⟩, hts _ w1, hts _ w6, hts _ w7, hts _ w2, hts _ w3, hts _ w4, hdd.1, fun sig h => ?_⟩
    · show 8 + (q.2.2.1 + 11) + 40 * dq ≤ R.locals
      omega
    · have h2 := hdd.2
      rw [h] at h2
      exact (Option.some.inj h2).symm
  exact j_after (va_runSU hat hfix hM hcu ⟨jPc_blind hL, hrecv, j_pre hK hZ hA hL hLs hP hD hS⟩ rfl hn hsz rfl (lv_room hcat) hdec ⟨by omega, by omega⟩) hS kk
end JC
/-- a private method of a class is what any class selects -/
theorem j_selP {x : MethodName} {s : State} {args : Array Value} {C : String} (hx : x.cls ≠ "java/lang/invoke/MethodHandle" ∧ x.cls ≠ "java/lang/invoke/VarHandle") {cC : ClassId} (hC : s.vm.findClass C = some cC) (hsame : (Cond.sameMethod x.cls x.cls x.name x.desc).before args s = true) (hpriv : (Cond.privateMethod x).before args s = true) (hinst : (Cond.instanceMethod x).before args s = true) : (Cond.selects C x x).before args s = true := by
  obtain ⟨mk, methM, hnamed, hmethM, -, -⟩ := Cond.instanceMethod_spec hinst
  have hfound : s.methodFound? x.cls x.name x.desc = some mk := State.methodFound?_of_named hnamed hx
  have hp := findClass_of_methodNamed hnamed
  have hsel : selectMethod {} s.vm cC mk = .method mk := selectMethod_private hmethM (Cond.privateMethod_at hpriv mk methM hnamed hmethM)
  have hnx : s.methodNamed? ⟨x.cls, x.name, x.desc⟩ = some mk := hnamed
  simp only [Cond.before, Cond.holds, Cond.value, hp, hfound, hnx] at hsame
  simp only [Cond.before, Cond.holds, Cond.value, hC, hfound, hnamed, hsel]
  simpa using hsame

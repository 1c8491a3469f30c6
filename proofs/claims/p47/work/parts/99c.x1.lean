/-! ===== the JDK's methods called out of a frame of another kind ===== -/
section JX
variable {p : Program} {l : Launch} {e : Env} {R : Room} {s : State} {m : MethodId} {args : Array Value} {below : List Frame} {meth : Method} {c : Code} {H : Heap} {locs : List Loc} {cells slots : Nat} {Q : State → Prop} {q : ts_Y} {D : va_G} {cb : ClassId} {A0 A1 : Nat → Prop} {Lf : State → Heap → Prop} {dq mc ms pc x n nL : Nat} {sl : Array Slot} {rest As : List Value} {ws : va_W} {post : Option Value → va_W → Prop} {b : Addr} {cc : ByteArray} {Ts : List Cond} {own : String}
/-- what a call's continuation gets -/
def jKK (p : Program) (l : Launch) (e : Env) (R : Room) (s : State) (m : MethodId) (args : Array Value) (below : List Frame) (meth : Method) (c : Code) (H : Heap) (cells slots : Nat) (Q : State → Prop) (D : va_G) (A0 A1 : Nat → Prop) (post : Option Value → va_W → Prop) (pc : Nat) (sl : Array Slot) (rest : List Value) : Prop :=
  ∀ (v : Option Value) (ws' : va_W) (H1 : Heap) (locs1 : List Loc), va_P D jcl ws' H1 → va_D A1 ws' → post v ws' → H.size ≤ H1.size → (∀ q, q < H.size → ¬ A1 q → H1[q]? = H[q]?) → va_S A0 s.heap H1 locs1 → W p l e R s m args below meth c H1 locs1 cells slots Q (F0 m (pc + 3) sl (v.toList ++ rest))
theorem jx_after {st0 : List Value} {a : Array Value} (hr : va_Run p l e R s m args below meth c H locs cells slots mc ms (F0 m pc sl st0) rest (jQc D A1 post a) A1) (hS : va_S A0 s.heap H locs) (hA : ∀ q, A1 q → A0 q)
    (kk : jKK p l e R s m args below meth c H (cells + mc) (slots + ms) Q D A0 A1 post pc sl rest) : W p l e R s m args below meth c H locs cells slots Q (F0 m pc sl st0) := by
  intro T hT X
  obtain ⟨v', st₀, t, T', L, h0, X', hL, e1, e2, ⟨v, ws', hv, hP, hD, hpost, hz, hk⟩, st⟩ := hr T hT X
  cases hv
  rw [h0] at hz hk
  obtain ⟨t2, a1, b1⟩ := kk v' ws' T'.heap (locs ++ L) (by rw [e1]; exact hP) hD hpost (by rw [e1]; exact hz) (fun q h1 h2 => by rw [e1]; exact hk q h1 h2)
    ⟨Nat.le_trans hS.1 (by rw [e1]; exact hz), fun q h1 h2 => by rw [e1, hk q (Nat.lt_of_lt_of_le h1 hS.1) (fun z => h2 (hA q z))]; exact hS.2.1 q h1 h2, fun q hq => by
      rcases List.mem_append.mp hq with h | h
      · exact hS.2.2 q h
      · exact hA _ (hL q h)⟩ T' rfl X'
  exact ⟨t2, st t2 a1, b1⟩
/-- what a frame of another kind brings to such a call -/
def jX (p : Program) (R : Room) (s : State) (m : MethodId) (args : Array Value) (c : Code) (cc : ByteArray) (nL : Nat) (own : String) (D : va_G) (cb : ClassId) : Prop :=
  CallFix p m c cc nL s args [] own ∧ (∀ w, jgd w → w.before args s = true) ∧ va_K D jcl [(cb, .byte)] s ∧ 9 ≤ R.frames ∧ 400 ≤ R.locals
theorem jx_pre (hK : va_K D jcl [(cb, .byte)] s) (hZ : jZ A1 s H) (hA : ∀ q, H.size ≤ q → A1 q) (hL : jL A1 Lf) (hLs : Lf s H) (hP : va_P D jcl ws H) (hD : va_D A1 ws) : ∀ U : State, U.heap = H → s.WarmedH U.vm → jPc D cb A1 Lf As ws As.toArray U := fun U hU hW =>
  ⟨rfl, va_K.moved hW.alike hK, by rw [hU]; exact jZ.moved hW.alike hZ, fun q hq => by rw [hU] at hq; exact hA q hq, by rw [hU]; exact hP, hD, by rw [hU]; exact hL.1 _ _ _ hW.alike hLs⟩
theorem jx_callB (hts : ∀ w, jgd w → w.before args s = true) (hRf : dq + 1 ≤ R.frames) (hRl : 40 * (dq + 1) ≤ R.locals) (w1 : jgd (.methodLink own x q.1)) (w3 : jgd (.initialized q.1.cls)) (w4 : jgd (ts_cw q))
    (hdd : q.1.cls ≠ "java/lang/invoke/MethodHandle" ∧ q.1.cls ≠ "java/lang/invoke/VarHandle" ∧ (parseMethodDescriptor q.1.desc).map (fun d => d.parameters.length) = some n) (hmx : q.2.2.1 ≤ 20) : CallB R s args own x q.1 q.2.1 q.2.2.1 q.2.2.2.1 (jws q) ({ frames := dq, cells := mc, slots := ms, locals := 40 * dq } : Room) mc ms n := by
  refine ⟨rfl, rfl, hRf, ?_, j_pay hts w4, List.mem_cons_self, hts _ w4, hts _ w3, ⟨hdd.1, hdd.2.1⟩, fun sig h => ?_, hts _ w1⟩
  · show 8 + (q.2.2.1 + 11) + 40 * dq ≤ R.locals
    omega
  · have h2 := hdd.2.2
    rw [h] at h2
    exact (Option.some.inj h2).symm
theorem jx_callV (F : jX p R s m args c cc nL own D cb) (hM : jM l D cb A1 Lf q dq mc ms (.ref b :: As) ws post) (hL : jL A1 Lf) (hLs : Lf s H) (hZ : jZ A1 s H) (hA : ∀ q, H.size ≤ q → A1 q) (hP : va_P D jcl ws H) (hD : va_D A1 ws) (hS : va_S A0 s.heap H locs) (hA10 : ∀ q, A1 q → A0 q)
    (w1 : jgd (.methodLink own x q.1)) (w2 : jgd (.instanceMethod q.1)) (w5 : jgd (.selects q.1.cls q.1 q.1)) (w3 : jgd (.initialized q.1.cls)) (w4 : jgd (ts_cw q)) (hdd : q.1.cls ≠ "java/lang/invoke/MethodHandle" ∧ q.1.cls ≠ "java/lang/invoke/VarHandle" ∧ (parseMethodDescriptor q.1.desc).map (fun d => d.parameters.length) = some n)
    (hrecv : ∃ cellB : Cell, H[b]? = some cellB ∧ cellB.vm.isStatics = false ∧ s.vm.findClass q.1.cls = some cellB.cls)
    (hd : dq ≤ 8) (hmx : q.2.2.1 ≤ 20) (hn : As.length = n) (hsz : sl.size = nL) {st : List Value} (hst : st = As.reverse ++ .ref b :: rest) (hcat : (rest.map fun v => v.category).sum ≤ 8) (hdec : decode cc pc = .ok (.invokevirtual x, 3)) (hroom : cells + mc ≤ R.cells ∧ slots + ms ≤ R.slots)
    (kk : jKK p l e R s m args below meth c H (cells + mc) (slots + ms) Q D A0 A1 post pc sl rest) : W p l e R s m args below meth c H locs cells slots Q (F0 m pc sl st) := by
  obtain ⟨hfix, hts, hK, hRf, hRl⟩ := F
  subst hst
  exact jx_after (va_runV hfix hM ⟨jx_callB hts (by omega) (by omega) w1 w3 w4 hdd hmx, hts _ w2, hts _ w5⟩ ⟨jPc_blind hL, hrecv, jx_pre hK hZ hA hL hLs hP hD⟩ rfl hn hsz rfl (lv_room hcat) hdec hroom) hS hA10 kk
theorem jx_callI (F : jX p R s m args c cc nL own D cb) (hM : jM l D cb A1 Lf q dq mc ms (.ref b :: As) ws post) (hL : jL A1 Lf) (hLs : Lf s H) (hZ : jZ A1 s H) (hA : ∀ q, H.size ≤ q → A1 q) (hP : va_P D jcl ws H) (hD : va_D A1 ws) (hS : va_S A0 s.heap H locs) (hA10 : ∀ q, A1 q → A0 q)
    (w1 : jgd (.methodLink own x q.1)) (w2 : jgd (.instanceMethod q.1)) (w3 : jgd (.initialized q.1.cls)) (w4 : jgd (ts_cw q)) (hdd : q.1.cls ≠ "java/lang/invoke/MethodHandle" ∧ q.1.cls ≠ "java/lang/invoke/VarHandle" ∧ (parseMethodDescriptor q.1.desc).map (fun d => d.parameters.length) = some n) (hin : q.1.name = "<init>") (hrn : q.2.2.2.1 = none)
    (hd : dq ≤ 8) (hmx : q.2.2.1 ≤ 20) (hn : As.length = n) (hsz : sl.size = nL) {st : List Value} (hst : st = As.reverse ++ .ref b :: rest) (hcat : (rest.map fun v => v.category).sum ≤ 8) (hdec : decode cc pc = .ok (.invokespecial x, 3)) (hroom : cells + mc ≤ R.cells ∧ slots + ms ≤ R.slots)
    (kk : jKK p l e R s m args below meth c H (cells + mc) (slots + ms) Q D A0 A1 post pc sl rest) : W p l e R s m args below meth c H locs cells slots Q (F0 m pc sl st) := by
  obtain ⟨hfix, hts, hK, hRf, hRl⟩ := F
  subst hst
  have hcb := jx_callB (mc := mc) (ms := ms) hts (by omega : dq + 1 ≤ R.frames) (by omega) w1 w3 w4 hdd hmx
  rw [hrn] at hcb
  exact jx_after (va_runI hfix hM ⟨hcb, hin, hts _ w2⟩ ⟨jPc_blind hL, jx_pre hK hZ hA hL hLs hP hD⟩ rfl hn hsz rfl (lv_room hcat) hdec hroom) hS hA10 kk
end JX
theorem jZ.narrow {A B : Nat → Prop} {U : State} {H : Heap} (h : jZ A U H) (hAB : ∀ q, B q → A q) : jZ B U H := by
  obtain ⟨h1, ⟨t, h2, h3⟩, ⟨t', h4, h5⟩, h6⟩ := h
  exact ⟨h1.narrow hAB, ⟨t, h2.narrow hAB, h3.narrow hAB⟩, ⟨t', h4.narrow hAB, h5.narrow hAB⟩, h6.narrow hAB⟩
theorem jStr.narrow {A B : Nat → Prop} {h : Nat} {t : List Nat} {U : State} {H : Heap} (q : jStr A h t U H) (hAB : ∀ q, B q → A q) : jStr B h t U H := by
  obtain ⟨v, h1, h2, h3, h4⟩ := q
  exact ⟨v, h1.narrow hAB, h2.narrow hAB, h3.narrow hAB, h4.narrow hAB⟩
/-- a String of the world, as what lies outside tells it -/
theorem jStr_of {D : va_G} {cb : ClassId} {ws : va_W} {H : Heap} {s : State} {args : Array Value} {A : Nat → Prop} {k0 k1 h v : Nat} {y z : Int32} {t : List Nat} {f : Nat → Int32} (hts : ∀ w, jgd w → w.before args s = true) (hK : va_K D jcl [(cb, .byte)] s) (hP : va_P D jcl ws H) (e0 : ws[k0]? = some (h, .inr (1, [.ref v, .int 0, .int y, .int z]))) (e1 : ws[k1]? = some (v, .inl (cb, t.length, .inl f))) (hlen : t.length < 2 ^ 31) (hf : ∀ j, j < t.length → f j = nI (t.getD j 0)) (hA : ¬ A h ∧ ¬ A v) : jStr A h t s H := by
  obtain ⟨q', h1, cell, g1, g2, g3, g4⟩ := hP k0 _ e0
  have hq : q' = (RJ0, TJ0, 4) := by cases h1; rfl
  subst hq
  have hs := (hK.1 1 (RJ0, TJ0, 4) rfl).1
  have hcl := (hK.1 1 (RJ0, TJ0, 4) rfl).2.1
  have hc1 : H[v]? = some (vp_cell cb (t.length, .inl f)) := hP k1 _ e1
  have hvm : cell.vm ≠ .unknown := by rw [g3]; intro q; cases q
  obtain ⟨_, _, c0, kk0, i0, f0, -, -, hf0, hst0, -⟩ := Cond.laysFinal_spec (hts _ jg_1313)
  obtain ⟨_, _, c1, kk1, i1, f1, -, -, hf1, hst1, -⟩ := Cond.laysFinal_spec (hts _ jg_1315)
  obtain ⟨cf, kf, fi, fd, hfd, hsd⟩ := hs 0 (by decide)
  obtain ⟨cf', kf', fi', fd', hfd', hsd'⟩ := hs 1 (by decide)
  have q0 := hf0.symm.trans hfd
  have q1 := hf1.symm.trans hfd'
  simp only [Option.some.injEq, Prod.mk.injEq] at q0 q1
  obtain ⟨-, -, -, rfl⟩ := q0
  obtain ⟨-, -, -, rfl⟩ := q1
  refine ⟨v, ⟨cell, g1, by rw [g3]; rfl, by rw [g2]; exact hcl, hA.1⟩, ⟨cf', kf', fi', f1, cell, hfd', hst1, g1, hvm, by rw [hsd']; exact g4 1 (by decide), hA.1⟩, ⟨cf, kf, fi, f0, cell, hfd, hst0, g1, hvm, by rw [hsd]; exact g4 0 (by decide), hA.1⟩, ?_⟩
  refine ⟨vp_cell cb (t.length, .inl f), hc1, (hK.2 0 _ rfl).1 t.length (fun j => .int (f j)), (fun q => by cases q), ?_, ?_, fun j hj => ?_, hA.2⟩
  · show t.length ≤ (arrV cb t.length (fun j => .int (f j))).slots.size
    rw [arrV_size]
    exact Nat.le_refl _
  · show (arrV cb t.length (fun j => .int (f j))).slots.size.toInt32 = _
    rw [arrV_size]
  · show (arrV cb t.length (fun j => .int (f j))).slots[j]? = some (Value.int (nI (t.getD j 0)))
    rw [← hf j hj]
    simp [arrV, hj]

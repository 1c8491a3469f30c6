/-! ===== the law's frame: what stays; calls out of it ===== -/
theorem jg_23 : jgd (.initialized RL) := ⟨List.mem_append_left _ (List.mem_of_getElem? (i := 23) (by decide +kernel)), by decide +kernel⟩
theorem jg_959 : jgd (.methodLink RL 74 yL_cell) := ⟨List.mem_append_left _ (List.mem_of_getElem? (i := 959) (by decide +kernel)), by decide +kernel⟩
theorem jg_960 : jgd (.static yL_cell) := ⟨List.mem_append_left _ (List.mem_of_getElem? (i := 960) (by decide +kernel)), by decide +kernel⟩
theorem jg_961 : jgd (ts_cw Ycell) := ⟨List.mem_append_left _ (List.mem_of_getElem? (i := 961) (by decide +kernel)), by decide +kernel⟩
theorem jg_962 : jgd (.methodLink RL 114 yL_say) := ⟨List.mem_append_left _ (List.mem_of_getElem? (i := 962) (by decide +kernel)), by decide +kernel⟩
theorem jg_963 : jgd (.static yL_say) := ⟨List.mem_append_left _ (List.mem_of_getElem? (i := 963) (by decide +kernel)), by decide +kernel⟩
theorem jg_964 : jgd (ts_cw Ysay) := ⟨List.mem_append_left _ (List.mem_of_getElem? (i := 964) (by decide +kernel)), by decide +kernel⟩
abbrev aB (B : Nat) : Nat → Prop := fun q => B ≤ q
abbrev aC (B : Nat) : Nat → Prop := fun q => B ≤ q ∧ q < B + ts_NN
/-- a builder with the text t in an array of m0, its cells from z on, behind the class's -/
def BL (D' : va_G) (cb : ClassId) (B z b0 m0 : Nat) (t : List Nat) (H : Heap) : Prop := ∃ ws, jBld cb b0 m0 t ws ∧ va_P D' jcl ws H ∧ va_D (aB z) ws ∧ B + ts_NN ≤ z ∧ z ≤ H.size
theorem BL.kept {D' : va_G} {cb : ClassId} {B z b0 m0 : Nat} {t : List Nat} {H H1 : Heap} (h : BL D' cb B z b0 m0 t H) (hz : H.size ≤ H1.size) (hk : ∀ q, q < H.size → ¬ aC B q → H1[q]? = H[q]?) : BL D' cb B z b0 m0 t H1 := by
  obtain ⟨ws, h1, h2, h3, h4, h5⟩ := h
  exact ⟨ws, h1, va_P_kept h2 fun k q hq => hk q.1 (h2 k q hq).lt (fun h => by have : z ≤ q.1 := h3.2 k q hq; omega), h3, h4, Nat.le_trans h5 hz⟩
/-- what stays through the law -/
def LC (p : Program) (s : State) (m : MethodId) (meth : Method) (c : Code) (b L : Nat) (xs : Nat → Int32) (D D' : va_G) (B : Nat) (cA : Nat → ClassId) (cb : ClassId) (ad : Nat → Nat) : Prop :=
  jX p room_1 s m #[Value.ref b] c code 28 RL D' cb ∧ (∀ k0 z0, k0 ≤ 600130 → z0 ≤ 7301080 → ts_Fx p room_1 s m #[Value.ref b] meth c YW D B cA (aC B) 13 ts_NN ts_NN k0 z0) ∧ B = s.heap.size ∧ va_X b L xs s s.heap ∧ b < s.heap.size ∧ L ≤ 260 ∧ jZ (aB B) s s.heap ∧
  ∀ i, i < 6 → jStr (aB B) (ad i) (yTx.getD i []) s s.heap ∧ vk_R RL (yIx.getD i 0) (ySt.getD i "") (ad i) s
/-- the class's world, and all that was there before -/
def LI (s : State) (D : va_G) (B : Nat) (cA : Nat → ClassId) (H : Heap) (u : lt_m) : Prop := ts_Wd D B cA (ts_fl u) H ∧ va_S (aB B) s.heap H []
theorem LI.kept {s : State} {D : va_G} {B : Nat} {cA : Nat → ClassId} {H H1 : Heap} {u : lt_m} {A1 : Nat → Prop} (h : LI s D B cA H u) (hz : H.size ≤ H1.size) (hk : ∀ q, q < H.size → ¬ A1 q → H1[q]? = H[q]?) (hA : ∀ q, A1 q → B + ts_NN ≤ q) : LI s D B cA H1 u :=
  ⟨ts_Wd_kept h.1 fun q h1 h2 => hk q h1 fun h3 => by have := hA q h3; omega, Nat.le_trans h.2.1 hz, fun q h1 h2 => (hk q (Nat.lt_of_lt_of_le h1 h.2.1) fun h3 => h2 (by have := hA q h3; show B ≤ q; omega)).trans (h.2.2.1 q h1 h2), fun q hq => absurd hq List.not_mem_nil⟩
section LAWF
variable {p : Program} {l : Launch} {e : Env} {s : State} {m : MethodId} {below : List Frame} {meth : Method} {c : Code} {b L : Nat} {xs : Nat → Int32} {D D' : va_G} {B : Nat} {cA : Nat → ClassId} {cb : ClassId} {ad : Nat → Nat} {u : lt_m} {H : Heap} {sl : Array Slot} {rest : List Value} {pc cells slots : Nat} {Q : State → Prop}
theorem law_after {st0 : List Value} {A1 : Nat → Prop} {mc ms : Nat} {Qa : State → Outcome → State → Prop} (hr : va_Run p l e room_1 s m #[Value.ref b] below meth c H [] cells slots mc ms (F0 m pc sl st0) rest Qa A1) (hA : ∀ q, A1 q → s.heap.size ≤ q)
    (kk : ∀ (v : Option Value) (st t : State), st.heap = H → Qa st (.returned v) t → W p l e room_1 s m #[Value.ref b] below meth c t.heap [] (cells + mc) (slots + ms) Q (F0 m (pc + 3) sl (v.toList ++ rest))) : W p l e room_1 s m #[Value.ref b] below meth c H [] cells slots Q (F0 m pc sl st0) := by
  intro T hT X
  obtain ⟨v, st₀, t, T', L', h0, X', hL, e1, e2, hq, st⟩ := hr T hT X
  obtain ⟨t2, a1, b1⟩ := va_forget (locs := [] ++ L') (fun q hq9 => by
    rcases List.mem_append.mp hq9 with h | h
    · exact absurd h List.not_mem_nil
    · exact hA _ (hL q h)) (kk v st₀ t h0 hq) T' e1 X'
  exact ⟨t2, st t2 a1, b1⟩
/-- a segment -/
theorem law_seg (C : LC p s m meth c b L xs D D' B cA cb ad) {S : Nat → Bool} {P : Nat → List (Option ts_V) → List ts_V → lt_m → Prop} (hs : ∀ pc, S pc = false → pc < 1469 ∧ pc ≠ 327) {ls : List (Option ts_V)} {st : List ts_V} (hr : rch (lt_rk S (kQ P) 13 YW pc ls st u)) (hI : LI s D B cA H u) (hL : ts_Lr B 28 ls sl) (h0 : sl[0]? = some (Slot.val (.ref b))) (hc : cells ≤ 600130) (hz : slots ≤ 7301080)
    (kk : ∀ (pc : Nat) (ls : List (Option ts_V)) (st : List ts_V) (u' : lt_m) (H1 : Heap) (sl1 : Array Slot), P pc ls st u' → LI s D B cA H1 u' → ts_Lr B 28 ls sl1 → sl1[0]? = some (Slot.val (.ref b)) → H.size ≤ H1.size → (∀ q, q < H.size → ¬ aC B q → H1[q]? = H[q]?) → W p l e room_1 s m #[Value.ref b] below meth c H1 [] cells slots Q (F0 m pc sl1 (st.map (ts_val B)))) :
    W p l e room_1 s m #[Value.ref b] below meth c H [] cells slots Q (F0 m pc sl (st.map (ts_val B))) := by
  obtain ⟨hj, hF, hB, -⟩ := C
  obtain ⟨m0, hr⟩ := hr
  unfold lt_rk at hr
  cases hq : rn (lk_one S (kQ P) (ts_ev 13) YW) (pc, ls, st, ts_fl u) with
  | none => rw [hq] at hr; cases hr
  | some r =>
    rw [hq] at hr
    obtain ⟨v, M'⟩ := r
    simp only [Option.map_some, Option.some.injEq, Prod.mk.injEq] at hr
    obtain ⟨rfl, hm⟩ := hr
    obtain ⟨n, hn⟩ := rn_ex hq
    obtain ⟨m1, rfl⟩ := lk_none rfl (by decide) n pc ls st (ts_fl u) M' hn
    have hSC : va_S (aC B) s.heap H [] := ⟨hI.2.1, fun q h1 h2 => hI.2.2.1 q h1 (fun h => by have h : B ≤ q := h; omega), fun q hq => absurd hq List.not_mem_nil⟩
    refine lk_W (l := l) (HH := H) (hF cells slots hc hz) rfl (by decide) (S := S) (K := kQ P) (m0 := m1) (b := b) (fun pc i len h1 h2 => lw_s0 (hs pc h1).1 (hs pc h1).2 h2) (fun pc ls st u' H1 locs sl1 h1 h2 hW hL h0 hS hS2 => ?_) n pc ls st (ts_fl u) H [] sl (ts_fl_fz u) hn hI.1 hL h0 hSC va_S.rf
    refine va_forget (fun q hq => by have := (hS.2.2 q hq).1; omega) ?_
    exact kk pc ls st u' H1 sl1 (kQ_get h2) ⟨hW, hS.1, fun q h1 h2 => hS.2.1 q h1 (fun h => h2 h.1), fun q hq => absurd hq List.not_mem_nil⟩ hL h0 hS2.1 hS2.2.1
theorem law_cb {args : Array Value} {x n mc ms : Nat} {q : ts_Y} {rm : Room} (hts : ∀ w, jgd w → w.before args s = true) (hrc : rm.cells = mc) (hrs : rm.slots = ms) (hRf : rm.frames + 1 ≤ 15) (hRl : 8 + (q.2.2.1 + 11) + rm.locals ≤ 578) (w1 : jgd (.methodLink RL x q.1)) (w3 : jgd (.initialized q.1.cls)) (w4 : jgd (ts_cw q))
    (hdd : q.1.cls ≠ "java/lang/invoke/MethodHandle" ∧ q.1.cls ≠ "java/lang/invoke/VarHandle" ∧ (parseMethodDescriptor q.1.desc).map (fun d => d.parameters.length) = some n) : CallB room_1 s args RL x q.1 q.2.1 q.2.2.1 q.2.2.2.1 (jws q) rm mc ms n := by
  refine ⟨hrc, hrs, hRf, hRl, j_pay hts w4, List.mem_cons_self, hts _ w4, hts _ w3, ⟨hdd.1, hdd.2.1⟩, fun sig h => ?_, hts _ w1⟩
  have h2 := hdd.2.2
  rw [h] at h2
  exact (Option.some.inj h2).symm
/-- the number at a place of the script -/
theorem law_cell (C : LC p s m meth c b L xs D D' B cA cb ad) {k : Nat} (hk : k ≤ 100) (hI : LI s D B cA H u) (hsz : sl.size = 28) (hcat : (rest.map fun v => v.category).sum ≤ 8) (hdec : decode code pc = .ok (.invokestatic 74, 3)) (hc : cells ≤ 600130) (hz : slots ≤ 7301080)
    (kk : ∀ H1 : Heap, LI s D B cA H1 u → H.size ≤ H1.size → (∀ q, q < H.size → H1[q]? = H[q]?) → W p l e room_1 s m #[Value.ref b] below meth c H1 [] cells slots Q (F0 m (pc + 3) sl (.int (if k < L then xs k else 0) :: rest))) :
    W p l e room_1 s m #[Value.ref b] below meth c H [] cells slots Q (F0 m pc sl (.int (nI k) :: .ref b :: rest)) := by
  obtain ⟨⟨hfix, hts, hK', hRf, hRl⟩, hF, hB, hX, hbl, hL, hZ, hSt⟩ := C
  have hbk : H[b]? = s.heap[b]? := hI.2.2.1 b hbl (by show ¬ B ≤ b; omega)
  have hr := va_runS (l := l) (e := e) (below := below) (H := H) (locs := []) (cells := cells) (slots := slots) (g := F0 m pc sl (.int (nI k) :: .ref b :: rest)) (rest := rest) (As := [.ref b, .int (nI k)]) (n := 2) (meth := meth) (R := room_1) hfix (c_cell l (b := b) (k := k) (xs := xs) hL hk) ⟨law_cb (q := Ycell) (x := 74) (n := 2) hts rfl rfl (by decide) (by decide) jg_959 jg_23 jg_961 ⟨by decide, by decide, by decide +kernel⟩, hts _ jg_960⟩
    ⟨fun a U g mk ⟨h1, h2, h3⟩ => ⟨h1, va_X.moved (u := U) (U := U.calling g mk a) (Vm.Alike.refl U.vm) h2, h3⟩, fun U hU hW2 => ⟨rfl, by rw [hU]; exact (va_X.moved hW2.alike hX).kept hbk, by rw [hU]; exact Nat.lt_of_lt_of_le hbl hI.2.1⟩⟩ rfl rfl hsz rfl (lv_room hcat) hdec ⟨hc, hz⟩
  refine law_after hr (fun q h => h.elim) (fun v st t h0 hq => ?_)
  obtain ⟨hv, hz9, hk9⟩ := hq
  cases hv
  rw [h0] at hz9 hk9
  exact kk t.heap (hI.kept (A1 := fun _ => False) hz9 hk9 (fun q h => h.elim)) hz9 (fun q hq => hk9 q hq id)
/-- a text is told -/
theorem law_say (C : LC p s m meth c b L xs D D' B cA cb ad) {h T : Nat} {t : List Nat} {S : ST} {vs : List Int32} (hI : LI s D B cA H u) (hT : jStr (sayA B H.size) h t s H) (h0 : S.tk = 0) (hcp : cP T S vs u) (hlen : t.length ≤ 60) (hch : ∀ j, t.getD j 0 < 128) (hsz : sl.size = 28) (hcat : (rest.map fun v => v.category).sum ≤ 8) (hdec : decode code pc = .ok (.invokestatic 114, 3)) (hc : cells ≤ 600130) (hz : slots ≤ 7301080)
    (kk : ∀ (H1 : Heap) (u' : lt_m) (tx : Nat → Nat) (vs' : List Int32), LI s D B cA H1 u' → cP T (told S tx t.length) vs' u' → (∀ j, j < t.length → tx j = t.getD j 0) → H.size ≤ H1.size → (∀ q, q < H.size → ¬ aC B q → H1[q]? = H[q]?) → W p l e room_1 s m #[Value.ref b] below meth c H1 [] cells slots Q (F0 m (pc + 3) sl rest)) :
    W p l e room_1 s m #[Value.ref b] below meth c H [] cells slots Q (F0 m pc sl (.ref h :: .ref B :: rest)) := by
  obtain ⟨⟨hfix, hts, hK', hRf, hRl⟩, hF, hB, hX, hbl, hL, hZ, hSt⟩ := C
  obtain ⟨-, -, -, -, -, hK, hNw, hA4, hA2, -⟩ := hF 0 0 (by decide) (by decide)
  have hle : B ≤ H.size := by have := hI.2.1; omega
  have hZ2 : jZ (sayA B H.size) s H := (hZ.kept hI.2.2.1).narrow (fun q hq => by
    rcases hq with hq | hq
    · exact hq.1
    · exact Nat.le_trans hle hq)
  have hr := va_runS (l := l) (e := e) (below := below) (H := H) (locs := []) (cells := cells) (slots := slots) (g := F0 m pc sl (.ref h :: .ref B :: rest)) (rest := rest) (As := [.ref B, .ref h]) (n := 2) (meth := meth) (R := room_1) hfix (c_say l D D' B cA cb (h := h) (sz := H.size) (u := u) h0 hcp hlen hch) ⟨law_cb (q := Ysay) (x := 114) (n := 2) hts rfl rfl (by decide) (by decide) jg_962 jg_23 jg_964 ⟨by decide, by decide, by decide +kernel⟩, hts _ jg_963⟩
    ⟨fun a U g mk ⟨h1, h2, ⟨q1, q2, q3, q4, q5, q6⟩, h4, h5, h6⟩ => ⟨h1, h2, ⟨q1, va_K.moved (u := U) (U := U.calling g mk a) (Vm.Alike.refl U.vm) q2, ts_Nw_same (u := U) (U := U.calling g mk a) rfl q3, va_AO.moved (u := U) (U := U.calling g mk a) (Vm.Alike.refl U.vm) q4, va_AO.moved (u := U) (U := U.calling g mk a) (Vm.Alike.refl U.vm) q5, q6⟩, va_K.moved (u := U) (U := U.calling g mk a) (Vm.Alike.refl U.vm) h4, jZ.moved (u := U) (U := U.calling g mk a) (Vm.Alike.refl U.vm) h5, jL_str.1 U (U.calling g mk a) _ (Vm.Alike.refl U.vm) h6⟩,
     fun U hU hW2 => ⟨rfl, by rw [hU], ⟨by rw [hU]; exact hI.1, va_K.moved hW2.alike hK, ts_Nw_warm hW2 hNw, va_AO.moved hW2.alike hA4, va_AO.moved hW2.alike hA2, by rw [hU]; exact hle, Or.inr rfl⟩, va_K.moved hW2.alike hK', by rw [hU]; exact jZ.moved hW2.alike hZ2, by rw [hU]; exact jL_str.1 s U _ hW2.alike hT⟩⟩ rfl rfl hsz rfl (lv_room hcat) hdec ⟨hc, hz⟩
  refine law_after hr (fun q h => by
    rcases h with h | h
    · have := h.1; omega
    · exact Nat.le_trans hI.2.1 h) (fun v st t' h0' hq => ?_)
  obtain ⟨hv, ⟨u', tx, vs', hW9, hcp9, htx⟩, hz9, hk9⟩ := hq
  cases hv
  rw [h0'] at hz9 hk9
  refine kk t'.heap u' tx vs' ⟨hW9, Nat.le_trans hI.2.1 hz9, fun q h1 h2 => (hk9 q (Nat.lt_of_lt_of_le h1 hI.2.1) (fun h3 => ?_)).trans (hI.2.2.1 q h1 h2), fun q hq => absurd hq List.not_mem_nil⟩ hcp9 htx hz9 (fun q h1 h2 => hk9 q h1 (fun h3 => ?_))
  · rcases h3 with h3 | h3
    · exact h2 h3.1
    · have := hI.2.1; omega
  · rcases h3 with h3 | h3
    · exact h2 h3
    · omega
end LAWF

/-! ===== contracts: the array grows; Strings appended ===== -/
section JN
variable {p : Program} {l : Launch} {e : Env} {R : Room} {s : State} {m : MethodId} {args : Array Value} {below : List Frame} {meth : Method} {c : Code} {H : Heap} {locs : List Loc} {cells slots : Nat} {Q : State → Prop} {Y : ts_Y} {D : va_G} {cb : ClassId} {A : Nat → Prop} {d mR sR pc : Nat} {sl : Array Slot} {rest : List Value} {ws : va_W}
theorem j_newa {N : Nat} (F : jF p R s m args meth c Y D cb A d mR sR) (hP : va_P D jcl ws H) (hD : va_D A ws) (hS : va_S A s.heap H locs) (hN : N ≤ 100000) (hroom : cells + 1 ≤ mR ∧ slots + N ≤ sR) (hdec : decode Y.2.1 pc = .ok (.newarray .byte, 2))
    (kk : ∀ (q : Nat) (H1 : Heap), va_P D jcl (ws ++ [(q, .inl (cb, N, .inl fun _ => 0))]) H1 → va_D A (ws ++ [(q, .inl (cb, N, .inl fun _ => 0))]) → va_S A s.heap H1 locs → W p l e R s m args below meth c H1 locs (cells + 1) (slots + N) Q (F0 m (pc + 2) sl (.ref q :: rest))) : W p l e R s m args below meth c H locs cells slots Q (F0 m pc sl (.int (nI N) :: rest)) := by
  obtain ⟨hx, hb, hml, hown, hts, hK, hZ, hA, hRf, hRl, hRc, hRs⟩ := F
  refine va_newa (atype := .byte) (ty := .byte) (a0 := (N, .inl fun _ => 0)) (N' := N) hx hb (hts _ jg_ab) rfl hK hP hD hS hA (fun _ => rfl) (nI_pos (by omega)) (nI_clamp (by omega)) (by show N * 1 ≤ _; omega) (by omega) (by omega) hdec (fun q cA H1 hK' hP' hD' hS' => ?_)
  have h1 := (hK'.2 1 (cA, .byte) rfl).2
  have h2 := (hK'.2 0 (cb, .byte) rfl).2
  have e1 : cA = cb := Option.some.inj (h1.symm.trans h2)
  subst e1
  exact kk q H1 hP' hD' hS'
theorem j_fitsB {x : Nat} (h : x < 128) : fits .byte (.int (nI x)) = true := by
  have : ∀ x, x < 128 → fits .byte (.int (nI x)) = true := by decide +kernel
  exact this x h
/-- System.arraycopy out of a byte array outside -/
theorem j_copyT {a q1 : Nat} (F : jF p R s m args meth c Y D cb A d mR sR) (hsz : sl.size = Y.2.2.1) {x : Nat} (w1 : jgd (.methodLink Y.1.cls x arraycopyName)) (w2 : jgd (.native arraycopyName)) (w3 : jgd (.static arraycopyName)) (w4 : jgd (.initialized "java/lang/System")) (hP : va_P D jcl ws H) (hD : va_D A ws) (hS : va_S A s.heap H locs) {b0 n0 : Nat} {f : Nat → Int32} (hX : va_T .byte b0 n0 (fun j => .int (f j)) A s s.heap) (hf : ∀ j, j < n0 → fits .byte (.int (f j)) = true) {n1 : Nat} {g : Nat → Int32} (ha1 : ws[q1]? = some (a, .inl (cb, n1, .inl g)))
    {dp n : Nat} (h4 : n ≤ n0) (h5 : dp + n ≤ n1) (h6 : dp + n ≤ 100000) (hd1 : 1 ≤ d) (hrest : (rest.map fun v => v.category).sum + (nativeFrameWords "java/lang/System" "arraycopy" 5 + 11) ≤ 40) (hdec : decode Y.2.1 pc = .ok (.invokestatic x, 3))
    (kk : ∀ (H1 : Heap) (locs1 : List Loc), va_P D jcl (ws.set q1 (a, .inl (cb, n1, .inl (va_cpy f g 0 dp n)))) H1 → va_D A (ws.set q1 (a, .inl (cb, n1, .inl (va_cpy f g 0 dp n)))) → va_S A s.heap H1 locs1 → W p l e R s m args below meth c H1 locs1 cells slots Q (F0 m (pc + 3) sl rest)) : W p l e R s m args below meth c H locs cells slots Q (F0 m pc sl (.int (nI n) :: .int (nI dp) :: .ref a :: .int (nI 0) :: .ref b0 :: rest)) := by
  obtain ⟨hx, hb, hml, hown, hts, hK, hZ, hA, hRf, hRl, hRc, hRs⟩ := F
  obtain ⟨scr, hs1, hs2, hs3, hs4, hs4', hs5, hbA⟩ := hX
  intro T hT X
  have hbl : b0 < s.heap.size := (Array.getElem?_eq_some_iff.mp hs1).1
  have hc0 : H[b0]? = some scr := by rw [hS.2.1 b0 hbl hbA]; exact hs1
  have hc1 : H[a]? = some (vp_cell cb (n1, .inl g)) := hP q1 _ ha1
  obtain ⟨hs6, k0, hk0, cm0, hkk0⟩ := hs2
  obtain ⟨-, k1, hk1, cm1, hkk1⟩ := (hK.2 0 _ rfl).1 n1 (fun j => .int (g j))
  have c0 : (nI 0).toNatClampNeg = 0 := nI_clamp (by omega)
  have cd : (nI dp).toNatClampNeg = dp := nI_clamp (by omega)
  have cn : (nI n).toNatClampNeg = n := nI_clamp (by omega)
  obtain ⟨vm', X', step⟩ := X.arraycopy hx hown (hts _ w1) (hts _ w2) (hts _ w3) (hts _ w4) (src := b0) (dst := a) (cs := scr) (cd := vp_cell cb (n1, .inl g)) (srcPos := nI 0) (destPos := nI dp) (n := nI n) (by rw [hT]; exact hc0) (by rw [hT]; exact hc1)
    hs6 (fun _ h => by cases h) hs3 (fun h => by cases h) hk0 hk1 hkk0 hkk1 (by simp [refKind]) (nI_pos (by omega)) (nI_pos (by omega)) (nI_pos (by omega))
    (by rw [nI_toInt (by omega), nI_toInt (by omega)]; omega)
    (by rw [nI_toInt (by omega), nI_toInt (by omega)]; show ¬ _ > ((arrV cb n1 (fun j => .int (g j))).slots.size : Int); rw [arrV_size]; omega)
    (fun vm₁ _ i hi => by
      rw [cn] at hi
      have e : scr.slots.getD ((nI 0).toNatClampNeg + i) .null = .int (f i) := by
        rw [c0, Nat.zero_add, Array.getD_eq_getD_getElem?, hs5 _ (by omega)]
        rfl
      refine ⟨?_, ?_⟩
      · rw [e]; exact hf _ (by omega)
      · rw [e]; exact trivial)
    (g := F0 m pc sl (.int (nI n) :: .int (nI dp) :: .ref a :: .int (nI 0) :: .ref b0 :: rest)) rfl (by rw [hml]; exact hsz) (rest := rest) rfl (by rw [hb]; exact hdec) (by omega) (by show 2 * 0 + _ + _ ≤ _; omega)
  have e1 : copied scr (vp_cell cb (n1, .inl g)) (nI 0) (nI dp) (nI n) = vp_cell cb (n1, .inl (va_cpy f g 0 dp n)) := by
    have := va_copiedX (fun z => .int z) scr cb (n1 := n1) (sp := 0) (dp := dp) (n := n) f g hs5 (by omega)
    unfold copied
    rw [c0, cd, cn]
    exact this
  rw [e1] at X' step
  have hl : a < H.size := (Array.getElem?_eq_some_iff.mp hc1).1
  have hheap : ((T.setVm vm').setCell a (vp_cell cb (n1, .inl (va_cpy f g 0 dp n)))).heap = H.setIfInBounds a (vp_cell cb (n1, .inl (va_cpy f g 0 dp n))) := by rw [← hT]; rfl
  have oq : ∀ q : Nat, q ≠ a → (H.setIfInBounds a (vp_cell cb (n1, .inl (va_cpy f g 0 dp n))))[q]? = H[q]? := fun q hq => by simp [Array.getElem?_setIfInBounds, Ne.symm hq]
  obtain ⟨t, a1, b1⟩ := kk _ _ (hP.set hD ha1 (show (H.setIfInBounds a _)[a]? = some _ by simp [Array.getElem?_setIfInBounds, hl]) oq) (hD.set ha1) ⟨by simp; exact hS.1, fun q g1 g2 => by
      rw [oq q (fun e => g2 (by rw [e]; exact hD.2 q1 _ ha1))]
      exact hS.2.1 q g1 g2, fun q hq => by
      rcases List.mem_append.mp hq with h | h
      · exact hS.2.2 q h
      · obtain ⟨z, -, hz⟩ := List.mem_map.mp h
        rw [← hz]
        exact hD.2 q1 _ ha1⟩ _ hheap X'
  exact ⟨t, step t a1, b1⟩
end JN
/-- Arrays.copyOf -/
theorem c_copyOf (l : Launch) (D : va_G) (cb : ClassId) (A : Nat → Prop) {b0 v0 n0 m0 : Nat} {l0 : Int32} {a0 : Nat → Int32} {q0 : Nat} (hm : m0 ≤ 300) (hq : m0 < q0) (hq2 : q0 ≤ 1000) (hf : ∀ j, fits .byte (.int (a0 j)) = true) : jM l D cb A (fun _ _ => True) YJ7_copyOf_9075b 1 1 q0 [.ref v0, .int (nI q0)] [(b0, .inr (0, [.ref v0, .int 0, .int l0, .int (nI (n0))])), (v0, .inl (cb, m0, .inl (a0)))] (fun v w => ∃ x, v = some (.ref x) ∧ w = [(b0, .inr (0, [.ref v0, .int 0, .int l0, .int (nI (n0))])), (v0, .inl (cb, m0, .inl (a0)))] ++ [(x, .inl (cb, q0, .inl (va_cpy a0 (fun _ => 0) 0 0 m0)))]) := by
  refine jM_of (by decide) (Nat.le_of_ble_eq_true rfl) ?_
  intro p e R s m args below meth c sl F hnm hret hlk hl hP hD hLf
  obtain ⟨hx, hb, hml, hown, hts, hK, hZ, hA, hRf, hRl, hRc, hRs⟩ := id F
  have hS : va_S A s.heap s.heap [] := va_S.rf
  have hl : lv_has sl 3 [(0, .ref v0), (1, .int (nI q0))] := hl
  refine lv_iload_n hx hb dJ7_copyOf_9075b_0 rfl (lv_at hl 1 rfl) ?_
  refine lv_aload_n hx hb dJ7_copyOf_9075b_1 rfl (lv_at hl 0 rfl) ?_
  refine va_alen (cA := cb) (x := (m0, .inl (a0))) (ty := .byte) (v := nI (m0)) hx hb hK hP 1 0 rfl rfl rfl dJ7_copyOf_9075b_2 ?_
  refine lv_icmp_ne (tgt := 14) hx hb dJ7_copyOf_9075b_3 (by decide) (fun _ => ?_) (fun q9 => absurd q9 (by rw [sp_eqn (by omega) (by omega)]; omega))
  refine lv_iload_n hx hb dJ7_copyOf_9075b_14 rfl (lv_at hl 1 rfl) ?_
  refine j_newa F hP hD hS (by omega) ⟨by omega, by omega⟩ dJ7_copyOf_9075b_15 (fun x9 H hP hD hS => ?_)
  have hP : va_P D jcl [(b0, .inr (0, [.ref v0, .int 0, .int l0, .int (nI (n0))])), (v0, .inl (cb, m0, .inl (a0))), (x9, .inl (cb, q0, .inl (fun _ => 0)))] H := hP
  have hD : va_D A [(b0, .inr (0, [.ref v0, .int 0, .int l0, .int (nI (n0))])), (v0, .inl (cb, m0, .inl (a0))), (x9, .inl (cb, q0, .inl (fun _ => 0)))] := hD
  refine lv_astore_n (lv' := [(2, .ref x9), (0, .ref v0), (1, .int (nI q0))]) hx hb dJ7_copyOf_9075b_17 rfl hl (by decide) rfl (fun sl hl => ?_)
  refine lv_aload_n hx hb dJ7_copyOf_9075b_18 rfl (lv_at hl 1 rfl) ?_
  refine lv_iconst (v := nI 0) hx hb dJ7_copyOf_9075b_19 (by decide) ?_
  refine lv_aload_n hx hb dJ7_copyOf_9075b_20 rfl (lv_at hl 0 rfl) ?_
  refine lv_iconst (v := nI 0) hx hb dJ7_copyOf_9075b_21 (by decide) ?_
  refine lv_aload_n hx hb dJ7_copyOf_9075b_22 rfl (lv_at hl 1 rfl) ?_
  refine va_alen (cA := cb) (x := (m0, .inl (a0))) (ty := .byte) (v := nI (m0)) hx hb hK hP 1 0 rfl rfl rfl dJ7_copyOf_9075b_23 ?_
  refine lv_iload_n hx hb dJ7_copyOf_9075b_24 rfl (lv_at hl 2 rfl) ?_
  refine va_mmin hx hb (hml.trans hl.1.symm) hown (hts _ jg_1182) (hts _ jg_346) (hts _ jg_36) (hts _ jg_347) (by omega) (Nat.le_trans (Nat.le_of_ble_eq_true rfl) hRl) (by omega) (by omega) dJ7_copyOf_9075b_25 ?_
  refine j_top (show (if (nI q0) < (nI (m0)) then (nI q0) else (nI (m0))) = nI (min m0 q0) from j_min (by omega) (by omega)) ?_
  refine j_top (show (nI (min m0 q0)) = nI m0 from congrArg nI (Nat.min_eq_left (by omega))) ?_
  refine va_copyi hx hb (hml.trans hl.1.symm) hown (hts _ jg_1183) (hts _ jg_1185) (hts _ jg_1184) (hts _ jg_43) hK hP hD hS 1 2 0 0 (c0 := cb) (c1 := cb) (n0 := m0) (n1 := q0) (f := a0) (g := fun _ => 0) (ty := .byte) rfl rfl rfl rfl rfl (nI_pos (by omega)) (nI_pos (by omega)) (nI_pos (by omega)) (by rw [nI_clamp (by omega), nI_clamp (by omega)]; omega) (by rw [nI_clamp (by omega), nI_clamp (by omega)]; omega) (fun i _ => hf _) (by omega) (Nat.le_trans (Nat.le_of_ble_eq_true rfl) hRl) dJ7_copyOf_9075b_28 (fun H locs hP hD hS => ?_)
  rw [nI_clamp (n := 0) (by omega), nI_clamp (n := m0) (by omega)] at hP hD
  have hP : va_P D jcl [(b0, .inr (0, [.ref v0, .int 0, .int l0, .int (nI (n0))])), (v0, .inl (cb, m0, .inl (a0))), (x9, .inl (cb, q0, .inl (va_cpy a0 (fun _ => 0) 0 0 m0)))] H := hP
  have hD : va_D A [(b0, .inr (0, [.ref v0, .int 0, .int l0, .int (nI (n0))])), (v0, .inl (cb, m0, .inl (a0))), (x9, .inl (cb, q0, .inl (va_cpy a0 (fun _ => 0) 0 0 m0)))] := hD
  refine lv_aload_n hx hb dJ7_copyOf_9075b_31 rfl (lv_at hl 0 rfl) ?_
  refine W.widen (k := 1) (n := q0) (by omega) (by omega) ?_
  exact W.aret hx hb hret (Or.inr ⟨_, rfl⟩) (Or.inr ⟨_, rfl⟩) (fun t9 ht9 hW9 => ⟨some (.ref x9), [(b0, .inr (0, [.ref v0, .int 0, .int l0, .int (nI (n0))])), (v0, .inl (cb, m0, .inl (a0))), (x9, .inl (cb, q0, .inl (va_cpy a0 (fun _ => 0) 0 0 m0)))], rfl, by rw [ht9]; exact hP, hD, ⟨x9, rfl, rfl⟩, hS.F ht9⟩) hS.2.2 dJ7_copyOf_9075b_32

/-! ===== the law from its entry ===== -/
theorem wz_cs {s : State} {args : Array Value} (hts : ∀ w ∈ lw_tbl, w.before args s = true) : ∃ D : va_G, ∀ (k : Nat) (q : vw_C), ts_cl[k]? = some q → u_Kn s q.1 q.2.1 q.2.2 (D.1 k) (D.2 k) := by
  have h : ∀ k, ∃ (cC : ClassId) (iS : Nat → Nat), k < 13 → u_Kn s (ts_cn k) (ts_T k) (ts_N k) cC iS := by
    intro k
    by_cases hk : k < 13
    · obtain ⟨cC, iS, h9⟩ := u_known (C := ts_cn k) (T := ts_T k) (N := ts_N k) (n := ts_N k) hts (fun w h => (List.mem_filter.mp (ts_lay_in hk w h)).1) (hts _ (ts_wL_gd _ (List.mem_map.mpr ⟨k, List.mem_range.mpr hk, rfl⟩)).1)
      exact ⟨cC, iS, fun _ => h9⟩
    · exact ⟨0, fun _ => 0, fun q => absurd q hk⟩
  refine ⟨(fun k => Classical.choose (h k), fun k => Classical.choose (Classical.choose_spec (h k))), fun k q hq => ?_⟩
  have hk : k < 13 := by
    have := (List.getElem?_eq_some_iff.mp hq).1
    simpa [ts_cl] using this
  rw [ts_cl_at hk] at hq
  cases hq
  exact Classical.choose_spec (Classical.choose_spec (h k)) hk
theorem wz_ar {s : State} {args : Array Value} {ty : FieldType} (h : (Cond.arrayClass ty).before args s = true) : ∃ c : ClassId, ArrOfT s c ty ∧ s.vm.findClass ("[" ++ ty.toString) = some c := by
  obtain ⟨c, k, comp, h1, h2, h3⟩ := Cond.arrayClass_spec h
  exact ⟨c, fun n z => ⟨fun k h => (by cases h), k, h2, comp, h3⟩, h1⟩
theorem wz_ao {s : State} {C : String} (h : va_AO C s) : ∃ c : ClassId, ArrOfT s c (.object C) ∧ va_RA s c (.object C) := by
  obtain ⟨comp, c, k, h1, h2, h3, h4, h5⟩ := Cond.arrayOver_spec h
  exact ⟨c, fun n z => ⟨fun k h => (by cases h), k, h3, comp, h4⟩, k, comp, h3, h4, h1, h5⟩
theorem wz_wA : ts_wA.all (fun w => decide (w ∈ lw_tbl)) = true := by
  refine List.all_eq_true.mpr fun w hw => decide_eq_true (ts_in_of ts_wA_at w hw)
theorem wz_Ks {s : State} {args : Array Value} (hts : ∀ w ∈ lw_tbl, w.before args s = true) : va_AO RX4 s ∧ va_AO RX2 s ∧ ∃ (D : va_G) (cA : Nat → ClassId), va_K D ts_cl (ts_tys cA) s := by
  have hA : ∀ w ∈ ts_wA, w.before args s = true := fun w hw => hts w (ts_in_of ts_wA_at w hw)
  have h4 : va_AO RX4 s := va_AO.of (hA (.arrayOver (.object RX4)) (by simp [ts_wA]))
  have h2 : va_AO RX2 s := va_AO.of (hA (.arrayOver (.object RX2)) (by simp [ts_wA]))
  refine ⟨h4, h2, ?_⟩
  obtain ⟨D, hD⟩ := wz_cs hts
  obtain ⟨c0, a0, b0⟩ := wz_ar (hA (.arrayClass .int) (by simp [ts_wA]))
  obtain ⟨c1, a1, b1⟩ := wz_ar (hA (.arrayClass .byte) (by simp [ts_wA]))
  obtain ⟨c2, a2, b2⟩ := wz_ar (hA (.arrayClass .long) (by simp [ts_wA]))
  obtain ⟨c3, a3, b3⟩ := wz_ao h4
  obtain ⟨c4, a4, b4⟩ := wz_ao h2
  refine ⟨D, fun k => match k with | 0 => c0 | 1 => c1 | 2 => c2 | 3 => c3 | _ => c4, hD, fun k q hq => ?_⟩
  match k, hq with
  | 0, hq => cases hq; exact ⟨a0, b0⟩
  | 1, hq => cases hq; exact ⟨a1, b1⟩
  | 2, hq => cases hq; exact ⟨a2, b2⟩
  | 3, hq => cases hq; exact ⟨a3, b3⟩
  | 4, hq => cases hq; exact ⟨a4, b4⟩
  | k + 5, hq => simp [ts_tys] at hq
def wz_w0 : List Cond := [.laysStatic Bundle.tN "UNASSIGNED_STACK" Bundle.steD, .laysStatic Bundle.tN "SUPPRESSED_SENTINEL" Bundle.listD, .initialized Bundle.tN, .castable rx_ns rx_ns, .declares ⟨"java/lang/RuntimeException", "<init>", "()V"⟩, .declares ⟨"java/lang/Exception", "<init>", "()V"⟩, .declares ⟨"java/lang/Throwable", "<init>", "()V"⟩, .classLink RL 8 (ts_cn 11), .methodLink RL 15 yX11_init, .classLink RL 16 (ts_cn 12), .methodLink RL 18 yX12_init]
set_option maxRecDepth 100000 in
theorem wz_w0_at : wz_w0.map some = ([1204, 1206, 90, 1179, 1180, 1182, 1184, 94, 96, 1243, 1245] : List Nat).map (fun i => lw_tbl[i]?) := by decide +kernel
theorem wz_rx {s : State} {args : Array Value} (hts : ∀ w ∈ lw_tbl, w.before args s = true) (hg : (Jvm.Cond.and given_1 narrow_1).before args s = true) : rx_X s.heap.size s s.heap := by
  have hs := flat_of_before _ hg
  have h1 : (Cond.isRef (.static Bundle.tN "UNASSIGNED_STACK" Bundle.steD)).before args s = true := hs _ (by decide +kernel)
  have h2 : (Cond.isRef (.static Bundle.tN "SUPPRESSED_SENTINEL" Bundle.listD)).before args s = true := hs _ (by decide +kernel)
  have h := fun w hw => hts w (ts_in_of wz_w0_at w hw)
  exact ⟨vx_Zqof (h _ (by simp [wz_w0])) (h _ (by simp [wz_w0])) h1 (fun a ha q => absurd ha (Nat.not_lt.mpr q)), vx_Zqof (h _ (by simp [wz_w0])) (h _ (by simp [wz_w0])) h2 (fun a ha q => absurd ha (Nat.not_lt.mpr q)),
    va_Nw.of rfl (h _ (by simp [wz_w0])), va_Nw.of rfl (h _ (by simp [wz_w0])), va_Nw.of rfl (h _ (by simp [wz_w0])), va_Nw.of rfl (h _ (by simp [wz_w0]))⟩
theorem wz_y0 : ts_mL[0]? = some (yX11_init, cX11_init, 1, none, 11) := rfl
set_option maxRecDepth 100000 in
theorem wz_y177 : ts_mL[177]? = some (yX12_init, cX12_init, 1, none, 12) := rfl
theorem wz_p0 : (parseMethodDescriptor yX11_init.desc).map (fun d => d.parameters.length) = some 0 := by decide +kernel
theorem wz_p177 : (parseMethodDescriptor yX12_init.desc).map (fun d => d.parameters.length) = some 0 := by decide +kernel
def wz_M0 : ts_M := (fun _ _ => 0, fun _ _ => 0, fun _ _ => none, 0)
/-- YOUR PART: from the entry, for every script of at most 2048 ints, the law comes to its end with true -/
theorem whole_start {p : Program} {e : Env} {s : State} {m : MethodId} {below : List Frame} {meth : Method} {c : Code} (l : Launch) (hflags : l.flags = flags0) {b L : Nat} {xs : Nat → Int32} (hL : L ≤ 2048) (C0 : lw_At p s m meth c b L xs) : W p l e room_1 s m #[Value.ref b] below meth c s.heap [] 0 0 (lw_Z below #[Value.ref b] s) (entryFrame m ([Value.ref b] : List Value).toArray 8) := by
  obtain ⟨hx, hb, hrt, hml, hown, hts, hX, hbl, hlocks, hgv⟩ := id C0
  have hfl : l.stackTraces = false := by
    unfold Launch.stackTraces
    rw [hflags]
    decide +kernel
  obtain ⟨hA4, hA2, D, cA, hK⟩ := wz_Ks hts
  have hw0 := fun w hw => ts_in_of wz_w0_at w hw
  have G : LW p s m c b L xs D s.heap.size cA := ⟨⟨hx, hb, hml, hown, hts, fun w h => (List.mem_filter.mp h).1, hK, ts_Nw_of hts, hA4, hA2, Nat.le_refl _, by decide, by decide⟩, hX, hbl, rfl, wz_rx hts hgv, hL⟩
  have hW0 : ts_Wd D s.heap.size cA wz_M0 s.heap := ⟨fun k q h => by simp [ts_w, wz_M0] at h, Nat.zero_le _⟩
  have hS0 : va_S (fun q : Nat => s.heap.size ≤ q) s.heap s.heap [] := va_S.rf
  obtain ⟨M9, u, he9, hn9, he10, hn10, hr, hrg⟩ := first_all (M := wz_M0) rfl
  have hl := lv_entry ([.ref b]) (n := 8) (Nat.le_of_ble_eq_true rfl)
  rw [lg_entry_eq]
  generalize (lg_sl ([.ref b]) ++ List.replicate (8 - (lg_sl ([.ref b])).length) Slot.unset).toArray = ls at hl ⊢
  have hl : lv_has ls 8 [(0, .ref b)] := hl
  have hz0 : ts_sz 0 = 0 := rfl
  rw [show (0 : Nat) = ts_sz 0 from rfl]
  refine wz_new (B := s.heap.size) (N := 0) G (M := wz_M0) rfl s0_11 (by decide) (by decide) (hw0 _ (by simp [wz_w0])) dq_0 hW0 hS0 (fun H1 hW1 hS1 => ?_)
  refine lv_dup hx hb dq_3 rfl ?_
  refine wz_ci (N := 1) (N' := 711) (o := 0) G rfl hn9 (by decide) (by decide) wz_y0 rfl rfl rfl (hw0 _ (by simp [wz_w0])) wz_p0 (he9 23) hl.1 (by show 1 + 0 ≤ 8; decide) dq_4 hW1 hS1 (fun H2 locs2 hW2 hS2 => ?_)
  refine lv_astore_n (lv' := [(1, .ref (s.heap.size + 0)), (0, .ref b)]) hx hb dq_7 rfl hl (by decide) rfl (fun ls1 hl1 => ?_)
  refine wz_new (N := 711) G (M := M9) hn9 sy (by decide) (by decide) (hw0 _ (by simp [wz_w0])) dq_8 hW2 hS2 (fun H3 hW3 hS3 => ?_)
  refine lv_dup hx hb dq_11 rfl ?_
  refine wz_ci (N := 712) (N' := 729) (o := 711) G (by show M9.2.2.2 + 1 = 712; rw [hn9]) hn10 (by decide) (by decide) wz_y177 rfl rfl rfl (hw0 _ (by simp [wz_w0])) wz_p177 (he10 29) hl1.1 (by show 1 + 0 ≤ 8; decide) dq_12 hW3 hS3 (fun H4 locs4 hW4 hS4 => ?_)
  refine lv_astore_n (lv' := [(2, .ref (s.heap.size + 711)), (1, .ref (s.heap.size + 0)), (0, .ref b)]) hx hb dq_15 rfl hl1 (by decide) rfl (fun ls2 hl2 => ?_)
  refine lv_iconst (v := 1) hx hb dq_16 (by decide) ?_
  refine wz_newL (N := 729) G hn10 s729 (by decide) rfl dq_17 hW4 hS4 (fun H5 hW5 hS5 => ?_)
  refine lv_astore_n (lv' := [(3, .ref (s.heap.size + 729)), (2, .ref (s.heap.size + 711)), (1, .ref (s.heap.size + 0)), (0, .ref b)]) hx hb dq_19 rfl hl2 (by decide) rfl (fun ls3 hl3 => ?_)
  refine lv_iconst (v := nI 0) hx hb dq_20 (by decide) ?_
  refine lv_istore (lv' := [(4, .int (nI 0)), (3, .ref (s.heap.size + 729)), (2, .ref (s.heap.size + 711)), (1, .ref (s.heap.size + 0)), (0, .ref b)]) hx hb dq_21 hl3 (by decide) rfl (fun ls4 hl4 => ?_)
  refine W.widen (k := 730 + 0) (n := ts_sz 730 + 6 * 0) (Nat.le_refl 730) (Nat.le_add_right (ts_sz 730) _) ?_
  exact wz_loop hfl G hrt hlocks (L + 1) 0 0 u H5 _ ls4 (by omega) (Nat.zero_le _) (Nat.le_refl _) (ts_Wd_rg hrg hW5) hS5 hr (lv_sub hl4 [4, 3, 2, 1, 0] rfl)

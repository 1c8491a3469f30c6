/-! ===== the law from its entry ===== -/
theorem dV_0 : decode code 0 = .ok (.new 18, 3) := by decide +kernel
theorem dV_3 : decode code 3 = .ok (.dup, 1) := by decide +kernel
theorem dV_4 : decode code 4 = .ok (.invokespecial 73, 3) := by decide +kernel
theorem dV_7 : decode code 7 = .ok (.astore_n 1, 1) := by decide +kernel
theorem yz_cs {s : State} {args : Array Value} (hts : ∀ w ∈ lw_tbl, w.before args s = true) : ∃ D : va_G, ∀ (k : Nat) (q : vw_C), ts_cl[k]? = some q → u_Kn s q.1 q.2.1 q.2.2 (D.1 k) (D.2 k) := by
  have h : ∀ k, ∃ (cC : ClassId) (iS : Nat → Nat), k < 12 → u_Kn s (ts_cn k) (ts_T k) (ts_N k) cC iS := by
    intro k
    by_cases hk : k < 12
    · obtain ⟨cC, iS, h9⟩ := u_known (C := ts_cn k) (T := ts_T k) (N := ts_N k) (n := ts_N k) hts (fun w h => (List.mem_filter.mp (ts_lay_in hk w h)).1) (hts _ (ts_wL_gd _ (List.mem_map.mpr ⟨k, List.mem_range.mpr hk, rfl⟩)).1)
      exact ⟨cC, iS, fun _ => h9⟩
    · exact ⟨0, fun _ => 0, fun q => absurd q hk⟩
  refine ⟨(fun k => Classical.choose (h k), fun k => Classical.choose (Classical.choose_spec (h k))), fun k q hq => ?_⟩
  have hk : k < 12 := by
    have := (List.getElem?_eq_some_iff.mp hq).1
    simpa [ts_cl] using this
  rw [ts_cl_at hk] at hq
  cases hq
  exact Classical.choose_spec (Classical.choose_spec (h k)) hk
theorem yz_ao {s : State} {C : String} (h : va_AO C s) : ∃ c : ClassId, ArrOfT s c (.object C) ∧ va_RA s c (.object C) := by
  obtain ⟨comp, c, k, h1, h2, h3, h4, h5⟩ := Cond.arrayOver_spec h
  exact ⟨c, fun n z => ⟨fun k h => (by cases h), k, h3, comp, h4⟩, k, comp, h3, h4, h1, h5⟩
theorem yz_Ks {s : State} {args : Array Value} (hts : ∀ w ∈ lw_tbl, w.before args s = true) : va_AO RX4 s ∧ va_AO RX2 s ∧ ∃ (D : va_G) (cA : Nat → ClassId), va_K D ts_cl (ts_tys cA) s := by
  have hA : ∀ w ∈ ts_wA, w.before args s = true := fun w hw => hts w (ts_in_of ts_wA_at w hw)
  have h4 : va_AO RX4 s := va_AO.of (hA (.arrayOver (.object RX4)) (by simp [ts_wA]))
  have h2 : va_AO RX2 s := va_AO.of (hA (.arrayOver (.object RX2)) (by simp [ts_wA]))
  refine ⟨h4, h2, ?_⟩
  obtain ⟨D, hD⟩ := yz_cs hts
  obtain ⟨c0, a0, b0⟩ := yz_ar (hA (.arrayClass .int) (by simp [ts_wA]))
  obtain ⟨c1, a1, b1⟩ := yz_ar (hA (.arrayClass .byte) (by simp [ts_wA]))
  obtain ⟨c3, a3, b3⟩ := yz_ao h4
  obtain ⟨c4, a4, b4⟩ := yz_ao h2
  refine ⟨D, fun k => match k with | 0 => c0 | 1 => c1 | 2 => c0 | 3 => c3 | _ => c4, hD, fun k q hq => ?_⟩
  match k, hq with
  | 0, hq => cases hq; exact ⟨a0, b0⟩
  | 1, hq => cases hq; exact ⟨a1, b1⟩
  | 2, hq => cases hq; exact ⟨a0, b0⟩
  | 3, hq => cases hq; exact ⟨a3, b3⟩
  | 4, hq => cases hq; exact ⟨a4, b4⟩
  | k + 5, hq => simp [ts_tys] at hq
/-- what holds at the law's entry -/
def lw_At (p : Program) (s : State) (m : MethodId) (meth : Method) (c : Code) (b L : Nat) (xs : Nat → Int32) : Prop :=
  p.tables.exec = Jvm.exec ∧ c.code = code ∧ meth.sig.returnType = ret ∧ c.maxLocals = 28 ∧ s.vm.findClass RL = some m.cls ∧ (∀ w ∈ lw_tbl, w.before #[Value.ref b] s = true) ∧ va_X b L xs s s.heap ∧ b < s.heap.size ∧ meth.locks = false ∧ (Jvm.Cond.and given_1 narrow_1).before #[Value.ref b] s = true ∧ L ≤ 260 ∧ (ts_cw YW).before #[Value.ref b] s = true ∧ meth.name = YW.1.name
theorem yz_sz : ts_sz 711 ≤ 100000 := by decide +kernel
def yM0 : ts_M := (fun _ _ => 0, fun _ _ => 0, fun _ _ => none, 0)
theorem yN_st : ts_step (ts_ev 13) YW (.new 18) 3 0 [] [] yM0 = some (.inl (3, [], [.inr (.inr (some 0))], ts_new yM0)) := by
  unfold ts_step
  dsimp only
  rw [show ts_cK YW.2.2.2.2 18 = some 11 from rfl]
  dsimp only
  exact if_pos ⟨s0_11, by decide⟩
theorem yI_st {M9 : ts_M} (he : ts_ev 13 0 [.inr (.inr (some 0))] (ts_new yM0) = some (none, M9)) : ts_step (ts_ev 13) YW (.invokespecial 73) 3 4 [] [.inr (.inr (some 0)), .inr (.inr (some 0))] (ts_new yM0) = some (.inl (7, [], [.inr (.inr (some 0))], M9)) := by
  unfold ts_step
  dsimp only
  rw [show ts_bi YW.2.2.2.2 73 = 0 by decide +kernel, show ts_cal YW.2.2.2.2 73 = some (0, 0, 2, 0) from rfl]
  refine (if_pos ⟨Nat.zero_le _, by decide⟩).trans ?_
  show ts_back (ts_knd 0) (ts_ev 13 0 [.inr (.inr (some 0))] (ts_new yM0)) 4 [] [.inr (.inr (some 0))] = _
  rw [he, show ts_knd 0 = 0 by decide +kernel]
  rfl
section BEGIN
variable {p : Program} {l : Launch} {e : Env} {s : State} {m : MethodId} {below : List Frame} {meth : Method} {c : Code} {b L : Nat} {xs : Nat → Int32} {Q : State → Prop}
theorem law_begin (C0 : lw_At p s m meth c b L xs)
    (kk : ∀ (D D' : va_G) (cA : Nat → ClassId) (cb : ClassId) (ad : Nat → Nat) (u : lt_m) (H : Heap) (sl : Array Slot), LC p s m meth c b L xs D D' s.heap.size cA cb ad → LI s D s.heap.size cA H u → cP 0 S00 [] u → lv_has sl 28 [(1, .ref s.heap.size), (0, .ref b)] → W p l e room_1 s m #[Value.ref b] below meth c H [] 711 100000 Q (F0 m 8 sl [])) :
    W p l e room_1 s m #[Value.ref b] below meth c s.heap [] 0 0 Q (entryFrame m ([Value.ref b] : List Value).toArray 28) := by
  obtain ⟨hx, hb, hrt, hml, hown, hts, hX, hbl, hlocks, hgv, hL, hcw, hnm⟩ := id C0
  obtain ⟨hA4, hA2, D, cA, hK⟩ := yz_Ks hts
  obtain ⟨D', cb, hK'⟩ := ent_K hts
  obtain ⟨ad, hSt⟩ := ent_S hts hgv
  have hjg := ent_jgd hts
  have hN : ts_sz ts_NN ≤ 100000 := yz_sz
  have hws : ∀ w ∈ ts_ws YW, w.before #[Value.ref b] s = true := by
    intro w hw
    rcases List.mem_cons.mp hw with e | e
    · subst e; exact hcw
    · exact hts w (List.mem_filter.mp e).1
  have Fx : ∀ (A : Nat → Prop) (N0 k0 z0 : Nat), (s.heap.size = s.heap.size + N0 ∧ k0 = 0 ∨ N0 = ts_NN) → k0 + (ts_NN - N0) ≤ 600130 → z0 + (ts_sz ts_NN - ts_sz N0) ≤ 7301080 → (∀ k, k < ts_NN → A (s.heap.size + k)) → (N0 = ts_NN ∨ ∀ q, A q ↔ s.heap.size ≤ q) → ts_Fx p room_1 s m #[Value.ref b] meth c YW D s.heap.size cA A 13 N0 ts_NN k0 z0 := fun A N0 k0 z0 h1 h2 h3 h4 h5 =>
    ⟨hx, hb, hml, hown, hws, hK, ts_Nw_of hts, hA4, hA2, Nat.le_refl _, h1, hnm, rfl, hrt, hlocks, by decide, by decide, h2, h3, h4, h5⟩
  have C : LC p s m meth c b L xs D D' s.heap.size cA cb ad := ⟨⟨⟨hx, hb, hml, hown, fun w hw => absurd hw List.not_mem_nil⟩, hjg, hK', by decide, by decide⟩, fun k0 z0 h1 h2 => Fx _ _ _ _ (Or.inr rfl) (by rw [Nat.sub_self]; exact h1) (by rw [Nat.sub_self]; exact h2) (fun k hk => ⟨Nat.le_add_right _ _, Nat.add_lt_add_left hk _⟩) (Or.inl rfl), rfl, hX, hbl, hL, ent_Z hts hgv, hSt⟩
  have F1 := Fx (aB s.heap.size) 0 0 0 (Or.inl ⟨rfl, rfl⟩) (Nat.le_of_ble_eq_true rfl) (by omega) (fun k hk => Nat.le_add_right _ _) (Or.inr fun q => Iff.rfl)
  have hcall : ∀ (y : Nat) (As : List ts_V) (M : ts_M) (v : Option ts_V) (M' : ts_M), ts_ev 13 y As M = some (v, M') → ts_Met l D s.heap.size cA (aB s.heap.size) 13 y As M v M' ∧ M.2.2.2 ≤ M'.2.2.2 := fun y As M v M' h => ⟨ts_sound l D s.heap.size cA _ 13 y As M v M' h, ts_ev_mono _ _ _ _ _ _ h⟩
  obtain ⟨M9, u, he9, hn9, hcp, hrg⟩ := first_all (M := yM0) rfl
  have hl := lv_entry ([.ref b]) (n := 28) (Nat.le_of_ble_eq_true rfl)
  rw [lg_entry_eq]
  generalize (lg_sl ([.ref b]) ++ List.replicate (28 - (lg_sl ([.ref b])).length) Slot.unset).toArray = sl at hl ⊢
  have hl : lv_has sl 28 [(0, .ref b)] := hl
  have hL0 : ts_Lr s.heap.size 28 [] sl := ⟨hl.1, hl.2.1, fun i v h => by simp [ts_lget] at h⟩
  have hW0 : ts_Wd D s.heap.size cA yM0 s.heap := ⟨fun k q h => by simp [ts_w, yM0] at h, Nat.zero_le _⟩
  have hsl0 : sl[0]? = some (Slot.val (.ref b)) := lv_at hl 0 rfl
  refine ts_stepW (H0 := s.heap) (Nat.le_refl _) (e := e) (below := below) (Q := Q) F1 hcall yN_st dV_0 rfl (Nat.le_refl _) (by decide) hW0 hL0 va_S.rf (fun H1 locs1 sl1 hW1 hL1 hS1 hk1 => ?_)
  have hs1 := hk1 b rfl hsl0
  refine lv_dup hx hb dV_3 rfl ?_
  refine ts_stepW (st := [.inr (.inr (some 0)), .inr (.inr (some 0))]) (H0 := s.heap) (Nat.le_refl _) (e := e) (below := below) (Q := Q) F1 hcall (yI_st (he9 6)) dV_4 rfl (Nat.zero_le _) (by rw [hn9]; exact Nat.le_refl _) hW1 hL1 hS1 (fun H2 locs2 sl2 hW2 hL2 hS2 hk2 => ?_)
  have hs2 := hk2 b rfl hs1
  rw [hn9]
  have hl2 : lv_has sl2 28 [(0, .ref b)] := ⟨hL2.1, hL2.2.1, fun q hq => by rw [List.mem_singleton.mp hq]; exact hs2⟩
  refine va_forget (fun q hq => hS2.2.2 q hq) ?_
  refine lv_astore_n (x := s.heap.size) (lv' := [(1, .ref s.heap.size), (0, .ref b)]) hx hb dV_7 rfl hl2 (by decide) rfl (fun sl3 hl3 => ?_)
  have hN7 : ts_sz 711 ≤ 100000 := yz_sz
  refine W.widen (k := 711) (n := 100000) (Nat.le_of_ble_eq_true rfl) (by omega) ?_
  exact kk D D' cA cb ad u H2 sl3 C ⟨ts_Wd_rg hrg hW2, hS2.1, hS2.2.1, fun q hq => absurd hq List.not_mem_nil⟩ hcp hl3
end BEGIN

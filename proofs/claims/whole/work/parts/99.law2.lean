/-! ===== a case of the law: both calls, the same answer ===== -/
section LAW
variable {p : Program} {l : Launch} {e : Env} {s : State} {m : MethodId} {below : List Frame} {meth : Method} {c : Code} {b L : Nat} {xs : Nat → Int32} {D : va_G} {B : Nat} {cA : Nat → ClassId} {H : Heap} {locs : List Loc} {cells slots : Nat} {Q : State → Prop}
/-- what goes on behind a case -/
def wz_K (p : Program) (l : Launch) (e : Env) (s : State) (m : MethodId) (below : List Frame) (meth : Method) (c : Code) (b : Nat) (D : va_G) (B : Nat) (cA : Nat → ClassId) (cells slots : Nat) (Q : State → Prop) (i T' pc : Nat) : Prop := ∀ (H1 : Heap) (locs1 : List Loc) (u1 : lt_m) (ls1 : Array Slot), ts_Wd D B cA (ts_fl u1) H1 → va_S (fun q : Nat => B ≤ q) s.heap H1 locs1 → RR dsD wlD T' u1 → lv_has ls1 8 (wz_lv b B i) → W p l e room_1 s m #[Value.ref b] below meth c H1 locs1 cells slots Q (F0 m pc ls1 [])
theorem wz_c0 (G : LW p s m c b L xs D B cA) {pc y z x1 x2 i T T' : Nat} {off : Int} {u : lt_m} {ls : Array Slot} (hd : decode code pc = .ok (.aload_n 1, 1) ∧ decode code (pc + 1) = .ok (.invokevirtual x1, 3) ∧ decode code (pc + 4) = .ok (.aload_n 2, 1) ∧ decode code (pc + 5) = .ok (.invokevirtual x2, 3) ∧ decode code (pc + 8) = .ok (.if_icmp .eq off, 3) ∧ ((pc + 8 : Nat) : Int) + off = ((1478 : Nat) : Int))
    (h1 : (y, x1, 0, 11) ∈ wz_all) (h2 : (z, x2, 0, 12) ∈ wz_all) (hk : ts_knd y = 1) (hi : i + 4 ≤ L) (hop : OP dsD wlD 0 T T' y z [] u) (hc : cells ≤ room_1.cells) (hs : slots ≤ room_1.slots) (hW : ts_Wd D B cA (ts_fl u) H) (hS : va_S (fun q : Nat => B ≤ q) s.heap H locs) (hl : lv_has ls 8 (wz_lv b B i))
    (kk : wz_K p l e s m below meth c b D B cA cells slots Q i T' 1478) : W p l e room_1 s m #[Value.ref b] below meth c H locs cells slots Q (F0 m pc ls []) := by
  obtain ⟨v, u1, u2, e1, e2, hr⟩ := hop
  obtain ⟨q, -, -, hni, -⟩ := wz_of h1
  obtain ⟨k, rfl⟩ := lt_int hni hk e1
  have hx := G.1.1
  have hb := G.1.2.1
  refine lv_aload_n hx hb hd.1 rfl (lv_at hl 1 rfl) ?_
  refine wz_call (As := []) (rest := []) G h1 e1 s0_11 (by decide) rfl hl.1 rfl (by show 0 ≤ 8; decide) hd.2.1 hc hs hW hS (fun H1 locs1 hW1 hS1 => ?_)
  refine lv_aload_n hx hb hd.2.2.1 rfl (lv_at hl 2 rfl) ?_
  refine wz_call (As := []) (rest := [.int k]) G h2 e2 sy (by decide) rfl hl.1 rfl (by show 1 + 0 ≤ 8; decide) hd.2.2.2.1 hc hs hW1 hS1 (fun H2 locs2 hW2 hS2 => ?_)
  exact lv_icmp_eq (tgt := 1478) hx hb hd.2.2.2.2.1 hd.2.2.2.2.2 (fun _ => kk H2 locs2 u2 ls hW2 hS2 hr hl) (fun q => absurd rfl q)
theorem wz_c1 (G : LW p s m c b L xs D B cA) {pc y z x1 x2 i T T' : Nat} {off : Int} {u : lt_m} {ls : Array Slot} (hd : decode code pc = .ok (.aload_n 1, 1) ∧ wz_ag (pc + 1) 1 ∧ decode code (pc + 7) = .ok (.invokevirtual x1, 3) ∧ decode code (pc + 10) = .ok (.aload_n 2, 1) ∧ wz_ag (pc + 11) 1 ∧ decode code (pc + 17) = .ok (.invokevirtual x2, 3) ∧ decode code (pc + 20) = .ok (.if_icmp .eq off, 3) ∧ ((pc + 20 : Nat) : Int) + off = ((1478 : Nat) : Int))
    (h1 : (y, x1, 1, 11) ∈ wz_all) (h2 : (z, x2, 1, 12) ∈ wz_all) (hk : ts_knd y = 1) (hi : i + 4 ≤ L) (hop : OP dsD wlD 0 T T' y z [.inl (xs (i + 1))] u) (hc : cells ≤ room_1.cells) (hs : slots ≤ room_1.slots) (hW : ts_Wd D B cA (ts_fl u) H) (hS : va_S (fun q : Nat => B ≤ q) s.heap H locs) (hl : lv_has ls 8 (wz_lv b B i))
    (kk : wz_K p l e s m below meth c b D B cA cells slots Q i T' 1478) : W p l e room_1 s m #[Value.ref b] below meth c H locs cells slots Q (F0 m pc ls []) := by
  obtain ⟨v, u1, u2, e1, e2, hr⟩ := hop
  obtain ⟨q, -, -, hni, -⟩ := wz_of h1
  obtain ⟨k, rfl⟩ := lt_int hni hk e1
  have hx := G.1.1
  have hb := G.1.2.1
  refine lv_aload_n hx hb hd.1 rfl (lv_at hl 1 rfl) ?_
  refine wz_arg (i := i) G (j := 1) (by decide) (by omega) hd.2.1 hl (by simp [wz_lv]) (by simp [wz_lv]) hS ?_
  refine wz_call (As := [.inl (xs (i + 1))]) (rest := []) G h1 e1 s0_11 (by decide) rfl hl.1 rfl (by show 0 ≤ 8; decide) hd.2.2.1 hc hs hW hS (fun H1 locs1 hW1 hS1 => ?_)
  refine lv_aload_n hx hb hd.2.2.2.1 rfl (lv_at hl 2 rfl) ?_
  refine wz_arg (i := i) G (j := 1) (by decide) (by omega) hd.2.2.2.2.1 hl (by simp [wz_lv]) (by simp [wz_lv]) hS1 ?_
  refine wz_call (As := [.inl (xs (i + 1))]) (rest := [.int k]) G h2 e2 sy (by decide) rfl hl.1 rfl (by show 1 + 0 ≤ 8; decide) hd.2.2.2.2.2.1 hc hs hW1 hS1 (fun H2 locs2 hW2 hS2 => ?_)
  exact lv_icmp_eq (tgt := 1478) hx hb hd.2.2.2.2.2.2.1 hd.2.2.2.2.2.2.2 (fun _ => kk H2 locs2 u2 ls hW2 hS2 hr hl) (fun q => absurd rfl q)
theorem wz_c2 (G : LW p s m c b L xs D B cA) {pc y z x1 x2 i T T' : Nat} {off : Int} {u : lt_m} {ls : Array Slot} (hd : decode code pc = .ok (.aload_n 1, 1) ∧ wz_ag (pc + 1) 1 ∧ wz_ag (pc + 7) 2 ∧ decode code (pc + 13) = .ok (.invokevirtual x1, 3) ∧ decode code (pc + 16) = .ok (.aload_n 2, 1) ∧ wz_ag (pc + 17) 1 ∧ wz_ag (pc + 23) 2 ∧ decode code (pc + 29) = .ok (.invokevirtual x2, 3) ∧ decode code (pc + 32) = .ok (.if_icmp .eq off, 3) ∧ ((pc + 32 : Nat) : Int) + off = ((1478 : Nat) : Int))
    (h1 : (y, x1, 2, 11) ∈ wz_all) (h2 : (z, x2, 2, 12) ∈ wz_all) (hk : ts_knd y = 1) (hi : i + 4 ≤ L) (hop : OP dsD wlD 0 T T' y z [.inl (xs (i + 1)), .inl (xs (i + 2))] u) (hc : cells ≤ room_1.cells) (hs : slots ≤ room_1.slots) (hW : ts_Wd D B cA (ts_fl u) H) (hS : va_S (fun q : Nat => B ≤ q) s.heap H locs) (hl : lv_has ls 8 (wz_lv b B i))
    (kk : wz_K p l e s m below meth c b D B cA cells slots Q i T' 1478) : W p l e room_1 s m #[Value.ref b] below meth c H locs cells slots Q (F0 m pc ls []) := by
  obtain ⟨v, u1, u2, e1, e2, hr⟩ := hop
  obtain ⟨q, -, -, hni, -⟩ := wz_of h1
  obtain ⟨k, rfl⟩ := lt_int hni hk e1
  have hx := G.1.1
  have hb := G.1.2.1
  refine lv_aload_n hx hb hd.1 rfl (lv_at hl 1 rfl) ?_
  refine wz_arg (i := i) G (j := 1) (by decide) (by omega) hd.2.1 hl (by simp [wz_lv]) (by simp [wz_lv]) hS ?_
  refine wz_arg (i := i) G (j := 2) (by decide) (by omega) hd.2.2.1 hl (by simp [wz_lv]) (by simp [wz_lv]) hS ?_
  refine wz_call (As := [.inl (xs (i + 1)), .inl (xs (i + 2))]) (rest := []) G h1 e1 s0_11 (by decide) rfl hl.1 rfl (by show 0 ≤ 8; decide) hd.2.2.2.1 hc hs hW hS (fun H1 locs1 hW1 hS1 => ?_)
  refine lv_aload_n hx hb hd.2.2.2.2.1 rfl (lv_at hl 2 rfl) ?_
  refine wz_arg (i := i) G (j := 1) (by decide) (by omega) hd.2.2.2.2.2.1 hl (by simp [wz_lv]) (by simp [wz_lv]) hS1 ?_
  refine wz_arg (i := i) G (j := 2) (by decide) (by omega) hd.2.2.2.2.2.2.1 hl (by simp [wz_lv]) (by simp [wz_lv]) hS1 ?_
  refine wz_call (As := [.inl (xs (i + 1)), .inl (xs (i + 2))]) (rest := [.int k]) G h2 e2 sy (by decide) rfl hl.1 rfl (by show 1 + 0 ≤ 8; decide) hd.2.2.2.2.2.2.2.1 hc hs hW1 hS1 (fun H2 locs2 hW2 hS2 => ?_)
  exact lv_icmp_eq (tgt := 1478) hx hb hd.2.2.2.2.2.2.2.2.1 hd.2.2.2.2.2.2.2.2.2 (fun _ => kk H2 locs2 u2 ls hW2 hS2 hr hl) (fun q => absurd rfl q)
theorem wz_c3 (G : LW p s m c b L xs D B cA) {pc y z x1 x2 i T T' : Nat} {off : Int} {u : lt_m} {ls : Array Slot} (hd : decode code pc = .ok (.aload_n 1, 1) ∧ wz_ag (pc + 1) 1 ∧ wz_ag (pc + 7) 2 ∧ wz_ag (pc + 13) 3 ∧ decode code (pc + 19) = .ok (.invokevirtual x1, 3) ∧ decode code (pc + 22) = .ok (.aload_n 2, 1) ∧ wz_ag (pc + 23) 1 ∧ wz_ag (pc + 29) 2 ∧ wz_ag (pc + 35) 3 ∧ decode code (pc + 41) = .ok (.invokevirtual x2, 3) ∧ decode code (pc + 44) = .ok (.if_icmp .eq off, 3) ∧ ((pc + 44 : Nat) : Int) + off = ((1478 : Nat) : Int))
    (h1 : (y, x1, 3, 11) ∈ wz_all) (h2 : (z, x2, 3, 12) ∈ wz_all) (hk : ts_knd y = 1) (hi : i + 4 ≤ L) (hop : OP dsD wlD 0 T T' y z [.inl (xs (i + 1)), .inl (xs (i + 2)), .inl (xs (i + 3))] u) (hc : cells ≤ room_1.cells) (hs : slots ≤ room_1.slots) (hW : ts_Wd D B cA (ts_fl u) H) (hS : va_S (fun q : Nat => B ≤ q) s.heap H locs) (hl : lv_has ls 8 (wz_lv b B i))
    (kk : wz_K p l e s m below meth c b D B cA cells slots Q i T' 1478) : W p l e room_1 s m #[Value.ref b] below meth c H locs cells slots Q (F0 m pc ls []) := by
  obtain ⟨v, u1, u2, e1, e2, hr⟩ := hop
  obtain ⟨q, -, -, hni, -⟩ := wz_of h1
  obtain ⟨k, rfl⟩ := lt_int hni hk e1
  have hx := G.1.1
  have hb := G.1.2.1
  refine lv_aload_n hx hb hd.1 rfl (lv_at hl 1 rfl) ?_
  refine wz_arg (i := i) G (j := 1) (by decide) (by omega) hd.2.1 hl (by simp [wz_lv]) (by simp [wz_lv]) hS ?_
  refine wz_arg (i := i) G (j := 2) (by decide) (by omega) hd.2.2.1 hl (by simp [wz_lv]) (by simp [wz_lv]) hS ?_
  refine wz_arg (i := i) G (j := 3) (by decide) (by omega) hd.2.2.2.1 hl (by simp [wz_lv]) (by simp [wz_lv]) hS ?_
  refine wz_call (As := [.inl (xs (i + 1)), .inl (xs (i + 2)), .inl (xs (i + 3))]) (rest := []) G h1 e1 s0_11 (by decide) rfl hl.1 rfl (by show 0 ≤ 8; decide) hd.2.2.2.2.1 hc hs hW hS (fun H1 locs1 hW1 hS1 => ?_)
  refine lv_aload_n hx hb hd.2.2.2.2.2.1 rfl (lv_at hl 2 rfl) ?_
  refine wz_arg (i := i) G (j := 1) (by decide) (by omega) hd.2.2.2.2.2.2.1 hl (by simp [wz_lv]) (by simp [wz_lv]) hS1 ?_
  refine wz_arg (i := i) G (j := 2) (by decide) (by omega) hd.2.2.2.2.2.2.2.1 hl (by simp [wz_lv]) (by simp [wz_lv]) hS1 ?_
  refine wz_arg (i := i) G (j := 3) (by decide) (by omega) hd.2.2.2.2.2.2.2.2.1 hl (by simp [wz_lv]) (by simp [wz_lv]) hS1 ?_
  refine wz_call (As := [.inl (xs (i + 1)), .inl (xs (i + 2)), .inl (xs (i + 3))]) (rest := [.int k]) G h2 e2 sy (by decide) rfl hl.1 rfl (by show 1 + 0 ≤ 8; decide) hd.2.2.2.2.2.2.2.2.2.1 hc hs hW1 hS1 (fun H2 locs2 hW2 hS2 => ?_)
  exact lv_icmp_eq (tgt := 1478) hx hb hd.2.2.2.2.2.2.2.2.2.2.1 hd.2.2.2.2.2.2.2.2.2.2.2 (fun _ => kk H2 locs2 u2 ls hW2 hS2 hr hl) (fun q => absurd rfl q)
end LAW

/-! ===== the law: the words of its calls, its start and end, a call out of its frame ===== -/
def R_law : String := "TransitSealsLaw"
def lw_P (b : Addr) (xs : List Int32) (args : Array Value) (s : State) : Prop := args = #[.ref b] ∧ s.IntsAt b xs ∧ xs.length ≤ 2048 ∧ (Jvm.Cond.and given_1 narrow_1).before args s = true
def lw_Q (_ : Array Value) (s : State) (o : Outcome) (t : State) : Prop := o = .returned (some (.int 1)) ∧ Framed s o t [] 601024 7293034
def lw_Z (below : List Frame) (a : Array Value) (s : State) : State → Prop := fun t => ∃ o, t.status = .running ∧ Ended t below o ∧ lw_Q a s o t
/-- the law's own end, with 1 on the stack, nothing written that was there before, its room as the claim has it -/
theorem lw_ret {p : Program} {l : Launch} {e : Env} {s : State} {m : MethodId} {below : List Frame} {meth : Method} {c : Code} {b : Nat} (hx : p.tables.exec = Jvm.exec) (hb : c.code = code) (hr : meth.sig.returnType = ret) (hlocks : meth.locks = false) {pc : Nat} {H : Heap} {ls : Array Slot} (hdg : decode code pc = .ok (.ireturn, 1)) : W p l e room_1 s m #[Value.ref b] below meth c H [] 601024 7293034 (lw_Z below #[Value.ref b] s) (F0 m pc ls [.int 1]) := by
  intro T hT X
  obtain ⟨fs, hret, hrun, hended, hW, hframe⟩ := X.leave (v := some (.int 1)) (hlocks := hlocks) (fun h => by rw [hr] at h; cases h)
  have hmeth' : T.vm.method? m = some meth := X.method'
  refine ⟨T.setFrames fs, ?_, .returned (some (.int 1)), hrun, hended, rfl, ⟨_, rfl⟩, hW, hframe⟩
  jvm_step X.here [X.here.top, hx, hb, hdg, hmeth', hr, ret, narrow_b1]
  (try refine ⟨rfl, ?_⟩); (try refine ⟨rfl, ?_⟩)
  first | (intro acts; rw [hret _ acts rfl rfl rfl]) | rw [hret _ _ rfl rfl rfl]
  exact Steps.refl _
/-- what holds at the law's entry: the machine, the code, the tables' words (any of lw_tbl by 'hts w (by decide +kernel)'), the script of L ints xs at the cell b, what the Statement gives of the start (any of its parts by flat_of_before) -/
def lw_At (p : Program) (s : State) (m : MethodId) (meth : Method) (c : Code) (b L : Nat) (xs : Nat → Int32) : Prop :=
  p.tables.exec = Jvm.exec ∧ c.code = code ∧ meth.sig.returnType = ret ∧ c.maxLocals = 8 ∧ s.vm.findClass R_law = some m.cls ∧ (∀ w ∈ lw_tbl, w.before #[Value.ref b] s = true) ∧ va_X b L xs s s.heap ∧ b < s.heap.size ∧ meth.locks = false ∧ (Jvm.Cond.and given_1 narrow_1).before #[Value.ref b] s = true
def wz_all : List (Nat × Nat × Nat × Nat) := [(26, 19, 1, 11), (179, 23, 1, 12), (28, 24, 1, 11), (180, 28, 1, 12), (29, 29, 0, 11), (182, 33, 0, 12), (57, 34, 2, 11), (192, 38, 2, 12), (58, 39, 2, 11), (195, 42, 2, 12), (66, 43, 2, 11), (200, 46, 2, 12), (70, 47, 2, 11), (203, 50, 2, 12), (76, 51, 2, 11), (208, 54, 2, 12), (78, 55, 2, 11), (209, 58, 2, 12), (89, 59, 3, 11), (212, 63, 3, 12), (93, 64, 1, 11), (216, 67, 1, 12), (98, 68, 1, 11), (221, 71, 1, 12), (100, 72, 3, 11), (223, 75, 3, 12), (113, 76, 2, 11), (230, 79, 2, 12), (117, 80, 1, 11), (232, 83, 1, 12), (119, 84, 2, 11), (234, 87, 2, 12), (121, 88, 1, 11), (236, 91, 1, 12), (123, 92, 1, 11), (238, 95, 1, 12), (124, 96, 1, 11), (239, 99, 1, 12), (129, 100, 2, 11), (242, 103, 2, 12), (130, 104, 2, 11), (243, 107, 2, 12), (132, 108, 1, 11), (244, 111, 1, 12), (134, 112, 1, 11), (246, 115, 1, 12), (135, 116, 1, 11), (247, 119, 1, 12), (137, 120, 1, 11), (248, 123, 1, 12), (138, 124, 1, 11), (249, 127, 1, 12), (140, 128, 0, 11), (250, 131, 0, 12), (143, 132, 1, 11), (254, 135, 1, 12), (144, 136, 1, 11), (255, 139, 1, 12), (145, 140, 0, 11), (253, 143, 0, 12), (147, 144, 2, 11), (256, 147, 2, 12), (148, 148, 2, 11), (257, 151, 2, 12), (152, 152, 2, 11), (260, 155, 2, 12), (155, 156, 1, 11), (261, 159, 1, 12), (160, 160, 0, 11), (263, 163, 0, 12), (161, 164, 1, 11), (264, 167, 1, 12), (162, 168, 0, 11), (265, 171, 0, 12), (163, 172, 2, 11), (266, 175, 2, 12), (166, 176, 1, 11), (267, 179, 1, 12), (167, 180, 0, 11), (270, 183, 0, 12), (169, 184, 0, 11), (271, 187, 0, 12), (171, 188, 0, 11), (272, 191, 0, 12), (173, 192, 1, 11), (273, 195, 1, 12), (274, 201, 1, 12), (178, 202, 0, 12)]
def wz_lk : List Cond := wz_all.map fun e => match ts_mL[e.1]? with | some q => Cond.methodLink RL e.2.1 q.1 | none => Cond.tt
def wz_sl : List Cond := wz_all.map fun e => match ts_mL[e.1]? with | some q => Cond.selects q.1.cls q.1 q.1 | none => Cond.tt
set_option maxRecDepth 100000 in
theorem wz_lk_at : wz_lk.map some = ([499, 1373, 508, 1377, 513, 1384, 632, 1426, 638, 1438, 674, 1459, 694, 1473, 725, 1492, 734, 1496, 780, 1509, 797, 1525, 820, 1545, 828, 1553, 891, 1581, 908, 1589, 916, 1597, 924, 1605, 932, 1613, 936, 1617, 960, 1630, 965, 1634, 974, 1639, 982, 1647, 986, 1651, 995, 1655, 1000, 1660, 1008, 1664, 1020, 1680, 1024, 1684, 1029, 1676, 1038, 1688, 1043, 1692, 1059, 1703, 1072, 1707, 1102, 1715, 1108, 1719, 1112, 1723, 1116, 1728, 1130, 1732, 1135, 1744, 1143, 1748, 1151, 1752, 1160, 1756, 1760, 1369] : List Nat).map (fun i => lw_tbl[i]?) := by decide +kernel
set_option maxRecDepth 100000 in
theorem wz_sl_at : wz_sl.map some = ([501, 1375, 510, 1379, 515, 1386, 634, 1428, 640, 1440, 676, 1461, 696, 1475, 727, 1494, 736, 1498, 782, 1511, 799, 1527, 822, 1547, 830, 1555, 893, 1583, 910, 1591, 918, 1599, 926, 1607, 934, 1615, 938, 1619, 962, 1632, 967, 1636, 976, 1641, 984, 1649, 988, 1653, 997, 1657, 1002, 1662, 1010, 1666, 1022, 1682, 1026, 1686, 1031, 1678, 1040, 1690, 1045, 1694, 1061, 1705, 1074, 1709, 1104, 1717, 1110, 1721, 1114, 1725, 1118, 1730, 1132, 1734, 1137, 1746, 1145, 1750, 1153, 1754, 1162, 1758, 1762, 1371] : List Nat).map (fun i => lw_tbl[i]?) := by decide +kernel
def wz_ok (e : Nat × Nat × Nat × Nat) : Bool := match ts_mL[e.1]? with
  | some q => !ts_st q && decide (¬ q.1.name = "<init>") && decide ((parseMethodDescriptor q.1.desc).map (fun d => d.parameters.length) = some e.2.2.1) && decide (q.2.2.2.2 = e.2.2.2)
  | none => false
theorem wz_all_ok : wz_all.all wz_ok = true := by decide +kernel
theorem wz_of {y x n c9 : Nat} (h : (y, x, n, c9) ∈ wz_all) : ∃ q, ts_mL[y]? = some q ∧ ts_st q = false ∧ ts_ni y ∧ Cond.methodLink RL x q.1 ∈ lw_tbl ∧ Cond.selects q.1.cls q.1 q.1 ∈ lw_tbl ∧ (parseMethodDescriptor q.1.desc).map (fun d => d.parameters.length) = some n ∧ q.2.2.2.2 = c9 := by
  have h1 := List.all_eq_true.mp wz_all_ok _ h
  unfold wz_ok at h1
  dsimp only at h1
  cases hq : ts_mL[y]? with
  | none => rw [hq] at h1; cases h1
  | some q =>
    rw [hq] at h1
    simp only [Bool.and_eq_true, decide_eq_true_eq, Bool.not_eq_true'] at h1
    obtain ⟨⟨⟨g1, g2⟩, g3⟩, g4⟩ := h1
    refine ⟨q, rfl, g1, fun q9 h9 => ?_, ts_in_of wz_lk_at _ (List.mem_map.mpr ⟨_, h, ?_⟩), ts_in_of wz_sl_at _ (List.mem_map.mpr ⟨_, h, ?_⟩), g3, g4⟩
    · rw [hq] at h9
      cases h9
      exact g2
    · dsimp only
      rw [hq]
    · dsimp only
      rw [hq]
/-! what answers an int -/
theorem ts_runN_int {call : ts_C} {Y : ts_Y} (hY : ∀ t, Y.2.2.2.1 = some t → t ≠ .long ∧ ∀ n, t ≠ .object n) (hY0 : ¬ Y.2.2.2.1 = none) : ∀ (n : Nat) (f : ts_F) (v : Option ts_V) (M' : ts_M), ts_runN call Y n f = some (v, M') → ∃ k : Int32, v = some (.inl k) := by
  have hrel : ts_RL call Y (fun _ _ => True) := ⟨fun _ => trivial, fun _ _ _ _ => trivial, fun _ _ _ _ => trivial, fun _ _ _ _ _ _ _ => trivial, fun _ _ _ _ _ => trivial, fun _ _ => trivial, fun _ _ _ _ _ _ _ => trivial, fun _ _ _ _ _ _ _ => trivial⟩
  intro n
  induction n with
  | zero => intro f v M' h; simp [ts_runN] at h
  | succ n ih =>
    intro f v M' h
    rw [ts_runN] at h
    cases h1 : ts_one call Y f with
    | none => rw [h1] at h; cases h
    | some z =>
      rw [h1] at h
      have h2 := h1
      unfold ts_one at h2
      split at h2
      · next i len hd =>
        split at h2
        · next hg =>
          rcases ts_step_rel hrel h2 hg.2 with ⟨f', rfl, -⟩ | ⟨v2, rfl, hi⟩
          · exact ih f' v M' h
          · cases h
            rcases hi with rfl | rfl | rfl | rfl
            · unfold ts_step at h2
              dsimp only at h2
              split at h2
              · next v9 _ =>
                split at h2
                · cases h2; exact ⟨v9, rfl⟩
                · cases h2
              · cases h2
            · unfold ts_step at h2
              dsimp only at h2
              split at h2
              · split at h2
                · next hq => exact absurd rfl (hY _ hq).1
                · cases h2
              · cases h2
            · unfold ts_step at h2
              dsimp only at h2
              split at h2
              · split at h2
                · next hq => exact absurd hq hY0
                · cases h2
              · cases h2
            · unfold ts_step at h2
              dsimp only at h2
              split at h2
              · split at h2
                · next n9 hq => exact absurd rfl ((hY _ hq).2 n9)
                · cases h2
              · cases h2
        · cases h2
      · cases h2
theorem lt_int {d y : Nat} {As : List ts_V} {u u' : lt_m} {v : ts_V} (hni : ts_ni y) (hk : ts_knd y = 1) (he : lt_ev d y As u = some (some v, u')) : ∃ k : Int32, v = .inl k := by
  have h : ts_ev d y As (ts_fl u) = some (some v, ts_fl u') := by rw [lt_ev_fl hni, he]; rfl
  cases d with
  | zero => simp [ts_ev] at h
  | succ d =>
    simp only [ts_ev] at h
    split at h
    · next Y hY =>
      split at h
      · obtain ⟨n, hn⟩ := ts_run_ex h
        unfold ts_knd at hk
        rw [hY] at hk
        dsimp only at hk
        obtain ⟨k, hk9⟩ := ts_runN_int (fun t ht => ⟨fun e => by rw [ht, e] at hk; simp at hk, fun n9 e => by rw [ht, e] at hk; simp at hk⟩) (fun e => by rw [e] at hk; simp at hk) n _ _ _ hn
        exact ⟨k, Option.some.inj hk9⟩
      · cases h
    · cases h
section LAW
variable {p : Program} {l : Launch} {e : Env} {s : State} {m : MethodId} {below : List Frame} {meth : Method} {c : Code} {b L : Nat} {xs : Nat → Int32} {D : va_G} {B : Nat} {cA : Nat → ClassId} {H : Heap} {locs : List Loc} {cells slots : Nat} {Q : State → Prop}
/-- what stays through the law -/
def LW (p : Program) (s : State) (m : MethodId) (c : Code) (b L : Nat) (xs : Nat → Int32) (D : va_G) (B : Nat) (cA : Nat → ClassId) : Prop :=
  lx_F p room_1 s m #[Value.ref b] c RL code 8 lw_tbl D B cA 30 ∧ va_X b L xs s s.heap ∧ b < s.heap.size ∧ B = s.heap.size ∧ rx_X B s s.heap ∧ L ≤ 2048
theorem wz_call (G : LW p s m c b L xs D B cA) {y x n c9 o : Nat} (h : (y, x, n, c9) ∈ wz_all) {As : List ts_V} {v : Option ts_V} {u u' : lt_m} (he : lt_ev 30 y (.inr (.inr (some o)) :: As) u = some (v, u')) (hsb : ts_sh o = (0, c9)) (hbn : o < ts_NN) (hlen : As.length = n) {pc : Nat} {sl : Array Slot} {st rest : List Value} (hsz : sl.size = 8)
    (hstk : st = (As.map (ts_val B)).reverse ++ .ref (B + o) :: rest) (hr : (rest.map fun v => v.category).sum ≤ 8) (hdec : decode code pc = .ok (.invokevirtual x, 3)) (hc : cells ≤ room_1.cells) (hs : slots ≤ room_1.slots) (hW : ts_Wd D B cA (ts_fl u) H) (hS : va_S (fun q : Nat => B ≤ q) s.heap H locs)
    (kk : ∀ (H1 : Heap) (locs1 : List Loc), ts_Wd D B cA (ts_fl u') H1 → va_S (fun q : Nat => B ≤ q) s.heap H1 locs1 → W p l e room_1 s m #[Value.ref b] below meth c H1 locs1 cells slots Q (F0 m (pc + 3) sl ((v.map (ts_val B)).toList ++ rest))) :
    W p l e room_1 s m #[Value.ref b] below meth c H locs cells slots Q (F0 m pc sl st) := by
  obtain ⟨q, hq, h1, h2, h3, h4, h5, h6⟩ := wz_of h
  have hts := G.1.2.2.2.2.1
  exact lx_callL G.1 hq (hts _ h4) h1 h2 (hts _ h3) h5 he (by rw [h6]; exact hsb) hbn hlen hsz hstk hr hdec hc hs hW hS kk
def wz_lv (b B i : Nat) : List (Nat × Value) := [(0, .ref b), (1, .ref (B + 0)), (2, .ref (B + 711)), (3, .ref (B + 729)), (4, .int (nI i))]
abbrev wz_ag (pc : Nat) (j : Int) : Prop := decode code pc = .ok (.aload_n 0, 1) ∧ decode code (pc + 1) = .ok (.iload 4, 2) ∧ decode code (pc + 3) = .ok (.iconst j, 1) ∧ decode code (pc + 4) = .ok (.iadd, 1) ∧ decode code (pc + 5) = .ok (.iaload, 1)
/-- an argument: a number of the script -/
theorem wz_arg (G : LW p s m c b L xs D B cA) {i j : Nat} {jj : Int} (hjj : Int32.ofInt jj = nI j) (hi : i + j < L) {pc : Nat} {ls : Array Slot} {lv : List (Nat × Value)} {st : List Value} (hd : wz_ag pc jj) (hl : lv_has ls 8 lv) (hl0 : (0, Value.ref b) ∈ lv) (hl4 : (4, Value.int (nI i)) ∈ lv) (hS : va_S (fun q : Nat => B ≤ q) s.heap H locs)
    (kk : W p l e room_1 s m #[Value.ref b] below meth c H locs cells slots Q (F0 m (pc + 6) ls (.int (xs (i + j)) :: st))) : W p l e room_1 s m #[Value.ref b] below meth c H locs cells slots Q (F0 m pc ls st) := by
  obtain ⟨⟨hx, hb, -⟩, hX, hbl, hB, -, hL⟩ := G
  refine lv_aload_n hx hb hd.1 rfl (hl.2.2 _ hl0) ?_
  refine lv_iload hx hb hd.2.1 (hl.2.2 _ hl4) ?_
  refine lv_iconst (v := nI j) hx hb hd.2.2.1 hjj ?_
  refine lv_iadd hx hb hd.2.2.2.1 ?_
  rw [nI_add]
  refine va_sld hx hb hX hbl (by rw [hB]; omega) hS (vp_in_nI hi (by omega)) hd.2.2.2.2 ?_
  rw [nI_clamp (by omega)]
  exact kk
end LAW

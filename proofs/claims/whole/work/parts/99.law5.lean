/-! ===== the law's loop; what it makes ===== -/
theorem dq_0 : decode code 0 = .ok (.new 8, 3) := by decide +kernel
theorem dq_3 : decode code 3 = .ok (.dup, 1) := by decide +kernel
theorem dq_4 : decode code 4 = .ok (.invokespecial 15, 3) := by decide +kernel
theorem dq_7 : decode code 7 = .ok (.astore_n 1, 1) := by decide +kernel
theorem dq_8 : decode code 8 = .ok (.new 16, 3) := by decide +kernel
theorem dq_11 : decode code 11 = .ok (.dup, 1) := by decide +kernel
theorem dq_12 : decode code 12 = .ok (.invokespecial 18, 3) := by decide +kernel
theorem dq_15 : decode code 15 = .ok (.astore_n 2, 1) := by decide +kernel
theorem dq_16 : decode code 16 = .ok (.iconst 1, 1) := by decide +kernel
theorem dq_17 : decode code 17 = .ok (.newarray .long, 2) := by decide +kernel
theorem dq_19 : decode code 19 = .ok (.astore_n 3, 1) := by decide +kernel
theorem dq_20 : decode code 20 = .ok (.iconst 0, 1) := by decide +kernel
theorem dq_21 : decode code 21 = .ok (.istore 4, 2) := by decide +kernel
theorem dq_23 : decode code 23 = .ok (.iload 4, 2) := by decide +kernel
theorem dq_25 : decode code 25 = .ok (.aload_n 0, 1) := by decide +kernel
theorem dq_26 : decode code 26 = .ok (.arraylength, 1) := by decide +kernel
theorem dq_27 : decode code 27 = .ok (.iconst 4, 1) := by decide +kernel
theorem dq_28 : decode code 28 = .ok (.isub, 1) := by decide +kernel
theorem dq_29 : decode code 29 = .ok (.if_icmp .gt 1455, 3) := by decide +kernel
theorem dq_32 : decode code 32 = .ok (.aload_n 0, 1) := by decide +kernel
theorem dq_33 : decode code 33 = .ok (.iload 4, 2) := by decide +kernel
theorem dq_35 : decode code 35 = .ok (.iaload, 1) := by decide +kernel
theorem dq_36 : decode code 36 = .ok (.bipush 63, 2) := by decide +kernel
theorem dq_38 : decode code 38 = .ok (.iand, 1) := by decide +kernel
theorem dq_1478 : decode code 1478 = .ok (.iinc 4 4, 3) := by decide +kernel
theorem dq_1481 : decode code 1481 = .ok (.goto (-1458), 3) := by decide +kernel
theorem dq_1484 : decode code 1484 = .ok (.iconst 1, 1) := by decide +kernel
theorem dq_1485 : decode code 1485 = .ok (.ireturn, 1) := by decide +kernel
theorem wz_sub4 {L i : Nat} (hL : L ≤ 2048) (hi : i ≤ L) (h : ¬ Int32.ofNat L - 4 < nI i) : i + 4 ≤ L := by
  have h1 : ¬ (nI L - 4 : Int32) < nI i := h
  rw [Int32.lt_iff_toInt_lt, Int32.toInt_sub, nI_toInt (by omega), nI_toInt (by omega), show (4 : Int32).toInt = 4 from rfl] at h1
  have h2 : ((L : Int) - 4).bmod (2 ^ 32) = (L : Int) - 4 := by
    rw [Int.bmod_def]
    split <;> omega
  rw [h2] at h1
  omega
theorem wz_szN : ts_sz 730 ≤ 100000 := by decide +kernel
section LAW
variable {p : Program} {l : Launch} {e : Env} {s : State} {m : MethodId} {below : List Frame} {meth : Method} {c : Code} {b L : Nat} {xs : Nat → Int32} {D : va_G} {B : Nat} {cA : Nat → ClassId} {H : Heap} {locs : List Loc} {cells slots : Nat} {Q : State → Prop}
theorem wz_loop (hfl : l.stackTraces = false) (G : LW p s m c b L xs D B cA) (hrt : meth.sig.returnType = ret) (hlocks : meth.locks = false) : ∀ (n i T : Nat) (u : lt_m) (H : Heap) (locs : List Loc) (ls : Array Slot), L < i + n → i ≤ L → T ≤ 10 * i → ts_Wd D B cA (ts_fl u) H → va_S (fun q : Nat => B ≤ q) s.heap H locs → RR dsD wlD T u → lv_has ls 8 (wz_lv b B i) →
    W p l e room_1 s m #[Value.ref b] below meth c H locs (730 + i) (ts_sz 730 + 6 * i) (lw_Z below #[Value.ref b] s) (F0 m 23 ls []) := by
  obtain ⟨⟨hx, hb, -⟩, hX, hbl, hB, -, hL⟩ := id G
  have hbA : ¬ (fun q : Nat => B ≤ q) b := by show ¬ B ≤ b; omega
  have hN := wz_szN
  intro n
  induction n with
  | zero => intro i T u H locs ls h1 h2; exact absurd h1 (by omega)
  | succ n ih =>
    intro i T u H locs ls h1 h2 hT hW hS hr hl
    refine lv_iload hx hb dq_23 (lv_at hl 4 rfl) ?_
    refine lv_aload_n hx hb dq_25 rfl (lv_at hl 0 rfl) ?_
    refine va_slen hx hb hX hbl hbA hS dq_26 ?_
    refine lv_iconst (v := 4) hx hb dq_27 (by decide) ?_
    refine lv_isub hx hb dq_28 ?_
    refine lv_icmp_gt (tgt := 1484) hx hb dq_29 (by decide) (fun _ => ?_) (fun q => ?_)
    · refine lv_iconst (v := 1) hx hb dq_1484 (by decide) ?_
      refine va_forget (fun q hq => by have := hS.2.2 q hq; rw [hB] at this; exact this) ?_
      refine W.widen (k := 601024) (n := 7293034) (by omega) (by omega) ?_
      exact lw_ret hx hb hrt hlocks dq_1485
    · have hi : i + 4 ≤ L := wz_sub4 hL h2 q
      refine lv_aload_n hx hb dq_32 rfl (lv_at hl 0 rfl) ?_
      refine lv_iload hx hb dq_33 (lv_at hl 4 rfl) ?_
      refine va_sld hx hb hX hbl hbA hS (vp_in_nI (by omega) (by omega)) dq_35 ?_
      refine lv_bipush (v := 63) hx hb dq_36 (by decide) ?_
      refine lv_iand hx hb dq_38 ?_
      refine wz_sw (i := i) (T := T) (u := u) ⟨hfl, G, hi, hr, by omega, by show 730 + i + 1 ≤ 601024; omega, by show ts_sz 730 + 6 * i + 6 ≤ 7293034; omega, hW, hS, hl, ?_⟩
      intro T' hT' H1 locs1 u1 ls1 hW1 hS1 hr1 hl1
      refine lv_iinc (v := nI (i + 4)) (lv' := [(4, .int (nI (i + 4))), (0, .ref b), (1, .ref (B + 0)), (2, .ref (B + 711)), (3, .ref (B + 729))]) hx hb dq_1478 hl1 (k := 4) rfl (nI_add i 4) (by decide) rfl (fun ls2 hl2 => ?_)
      refine lv_goto (tgt := 23) hx hb dq_1481 (by decide) ?_
      refine W.widen (k := 730 + (i + 4)) (n := ts_sz 730 + 6 * (i + 4)) (by omega) (by omega) ?_
      exact ih (i + 4) T' u1 H1 locs1 ls2 (by omega) hi (by omega) hW1 hS1 hr1 (lv_sub hl2 [1, 2, 3, 4, 0] rfl)
theorem wz_fresh (hB : B = s.heap.size) {M : ts_M} {T : State} {H1 : Heap} {q : Nat} {e9 : va_E} (hT : T.heap = H1) (X : Stand p l e room_1 s m #[Value.ref b] below meth c T locs (M.2.2.2 + 1) slots) (hP1 : va_P D ts_cl (ts_w B cA M ++ [(q, e9)]) H1) (hD1 : va_D (fun q : Nat => B ≤ q) (ts_w B cA M ++ [(q, e9)])) : q = B + M.2.2.2 := by
  have h1 : T.heap.size ≤ s.heap.size + (M.2.2.2 + 1) := X.same.2.2.1
  rw [hT] at h1
  have hl : (ts_w B cA M ++ [(q, e9)])[M.2.2.2]? = some (q, e9) := by rw [List.getElem?_append_right (by rw [ts_w_len]; exact Nat.le_refl _), ts_w_len]; simp
  have h2 := (hP1 _ _ hl).lt
  have h3 : B ≤ q := hD1.2 _ _ hl
  dsimp only at h2
  have h4 : ¬ q < B + M.2.2.2 := fun h => by
    have hi : (ts_w B cA M ++ [(q, e9)])[q - B]? = some (B + (q - B), ts_ent B cA M (q - B)) := by rw [List.getElem?_append_left (by rw [ts_w_len]; omega), ts_w_at (by omega)]
    have := hD1.1 _ _ _ _ hi hl (by dsimp only; omega)
    omega
  omega
/-- an object more -/
theorem wz_new (G : LW p s m c b L xs D B cA) {M : ts_M} {c9 x N : Nat} (hn : M.2.2.2 = N) (hsh : ts_sh N = (0, c9)) (hc9 : c9 < 13) (hlt : N < ts_NN) (hlink : Cond.classLink RL x (ts_cn c9) ∈ lw_tbl) {pc : Nat} {ls : Array Slot} {st : List Value} (hdec : decode code pc = .ok (.new x, 3)) (hW : ts_Wd D B cA M H) (hS : va_S (fun q : Nat => B ≤ q) s.heap H locs)
    (kk : ∀ (H1 : Heap), ts_Wd D B cA (ts_new M) H1 → va_S (fun q : Nat => B ≤ q) s.heap H1 locs → W p l e room_1 s m #[Value.ref b] below meth c H1 locs (N + 1) (ts_sz (N + 1)) Q (F0 m (pc + 3) ls (.ref (B + N) :: st))) : W p l e room_1 s m #[Value.ref b] below meth c H locs N (ts_sz N) Q (F0 m pc ls st) := by
  subst hn
  obtain ⟨⟨hx, hb, hml, hown, hts, hT, hK, hNw, hA4, hA2, -, hRf, hRl⟩, hX, hbl, hB, -, hL⟩ := G
  have hwd := fun {w : Cond} (h : ts_gd w) => hts w (hT w (ts_gd_in h))
  have hz1 : ts_sz1 M.2.2.2 = ts_N c9 := by unfold ts_sz1; rw [hsh]; rfl
  have h9 : ts_sz (M.2.2.2 + 1) ≤ ts_sz 730 := ts_sz_le hlt
  have h8 := wz_szN
  rw [ts_sz_succ, hz1] at h9
  have hlt' : M.2.2.2 < 730 := hlt
  refine va_new (fs := ts_fs B (ts_new M) M.2.2.2) hx hb hts (fun w h => hT w (ts_lay_in hc9 w h)) (ts_ty c9) (ts_ty_ok hc9) hown (hts _ hlink) (hwd (ts_wL_gd _ (List.mem_map.mpr ⟨c9, List.mem_range.mpr hc9, rfl⟩))) (hwd (ts_wM_gd _ (List.mem_map.mpr ⟨c9, List.mem_range.mpr hc9, rfl⟩))) hK hW.1 ts_D hS (fun q h => by rw [hB]; exact h) (ts_cl_at hc9) (ts_new_fs hsh hc9) (by show M.2.2.2 + 1 ≤ 601024; omega) (by show ts_sz M.2.2.2 + ts_N c9 ≤ 7293034; omega) hdec (fun q H1 hP1 hD1 hS1 => ?_)
  intro T hT9 X
  have hq : q = B + M.2.2.2 := wz_fresh hB hT9 X hP1 hD1
  subst hq
  have := kk H1 ⟨by rw [ts_w_new, ts_ent_0 hsh]; exact hP1, Nat.succ_le_of_lt hlt⟩ hS1
  rw [ts_sz_succ, hz1] at this
  exact this T hT9 X
/-- a long[] more -/
theorem wz_newL (G : LW p s m c b L xs D B cA) {M : ts_M} {N : Nat} {n : Int32} (hn : M.2.2.2 = N) (hsh : ts_sh N = (3, 1)) (hlt : N < ts_NN) (hn1 : n = 1) {pc : Nat} {ls : Array Slot} {st : List Value} (hdec : decode code pc = .ok (.newarray .long, 2)) (hW : ts_Wd D B cA M H) (hS : va_S (fun q : Nat => B ≤ q) s.heap H locs)
    (kk : ∀ (H1 : Heap), ts_Wd D B cA (ts_new M) H1 → va_S (fun q : Nat => B ≤ q) s.heap H1 locs → W p l e room_1 s m #[Value.ref b] below meth c H1 locs (N + 1) (ts_sz (N + 1)) Q (F0 m (pc + 2) ls (.ref (B + N) :: st))) : W p l e room_1 s m #[Value.ref b] below meth c H locs N (ts_sz N) Q (F0 m pc ls (.int n :: st)) := by
  subst hn
  subst hn1
  obtain ⟨⟨hx, hb, hml, hown, hts, hT, hK, hNw, hA4, hA2, -, hRf, hRl⟩, hX, hbl, hB, -, hL⟩ := G
  have hwd := fun {w : Cond} (h : ts_gd w) => hts w (hT w (ts_gd_in h))
  have hz1 : ts_sz1 M.2.2.2 = 1 := by unfold ts_sz1; rw [hsh]; rfl
  have h9 : ts_sz (M.2.2.2 + 1) ≤ ts_sz 730 := ts_sz_le hlt
  have h8 := wz_szN
  rw [ts_sz_succ, hz1] at h9
  have hlt' : M.2.2.2 < 730 := hlt
  refine va_newa (atype := .long) (ty := .long) (a0 := (1, .inr (.inl fun _ => 0))) hx hb (hwd (ts_wA_gd (.arrayClass .long) (by simp [ts_wA]))) rfl hK hW.1 ts_D hS (fun q h => by rw [hB]; exact h) (fun _ => rfl) (by decide) rfl (by decide) (by show M.2.2.2 + 1 ≤ 601024; omega) (by show ts_sz M.2.2.2 + 1 ≤ 7293034; omega) hdec (fun q cA9 H1 hK1 hP1 hD1 hS1 => ?_)
  have hc9 : cA9 = cA 2 := Option.some.inj ((hK1.2 5 (cA9, .long) rfl).2.symm.trans (hK.2 2 _ rfl).2)
  subst hc9
  intro T hT9 X
  have hq : q = B + M.2.2.2 := wz_fresh hB hT9 X hP1 hD1
  subst hq
  have := kk H1 ⟨by rw [ts_w_new, ts_ent_3 (by rw [hsh]), hsh]; simp only [ts_new, ts_fr_self]; exact hP1, Nat.succ_le_of_lt hlt⟩ hS1
  rw [ts_sz_succ, hz1] at this
  exact this T hT9 X
/-- a constructor runs -/
theorem wz_ci (G : LW p s m c b L xs D B cA) {y x o N N' : Nat} {q : ts_Y} {M M' : ts_M} (hn : M.2.2.2 = N) (hn' : M'.2.2.2 = N') (hNN : N ≤ N') (hN' : N' ≤ 730) (hq : ts_mL[y]? = some q) (hin : q.1.name = "<init>") (hrn : q.2.2.2.1 = none) (hnst : ts_st q = false) (hlink : Cond.methodLink RL x q.1 ∈ lw_tbl)
    (hpar : (parseMethodDescriptor q.1.desc).map (fun d => d.parameters.length) = some 0) (he : ts_ev 30 y [.inr (.inr (some o))] M = some (none, M')) {pc : Nat} {sl : Array Slot} {rest : List Value} (hsz : sl.size = 8) (hr : (rest.map fun v => v.category).sum ≤ 8) (hdec : decode code pc = .ok (.invokespecial x, 3)) (hW : ts_Wd D B cA M H) (hS : va_S (fun q : Nat => B ≤ q) s.heap H locs)
    (kk : ∀ (H1 : Heap) (locs1 : List Loc), ts_Wd D B cA M' H1 → va_S (fun q : Nat => B ≤ q) s.heap H1 locs1 → W p l e room_1 s m #[Value.ref b] below meth c H1 locs1 N' (ts_sz N') Q (F0 m (pc + 3) sl rest)) : W p l e room_1 s m #[Value.ref b] below meth c H locs N (ts_sz N) Q (F0 m pc sl (.ref (B + o) :: rest)) := by
  subst hn
  subst hn'
  have hB := G.2.2.2.1
  have hts := G.1.2.2.2.2.1
  have h9 := ts_sz_le hNN
  have h7 : ts_sz M'.2.2.2 ≤ ts_sz 730 := ts_sz_le hN'
  have h8 := wz_szN
  intro T hT X
  have hz : H.size = B + M.2.2.2 := by
    have h1 : T.heap.size ≤ s.heap.size + M.2.2.2 := X.same.2.2.1
    rw [hT] at h1
    have h2 := hW.le (by rw [hB]; exact hS.1)
    omega
  refine lx_callI (As := []) (n := 0) (rest := rest) G.1 hq hin hrn hnst (hts _ hlink) hpar (ts_sound l D B cA 30 y _ M none M' he) rfl hsz rfl hr hdec (Or.inl hz) (by show M.2.2.2 + (M'.2.2.2 - M.2.2.2) ≤ 601024; omega) (by show ts_sz M.2.2.2 + (ts_sz M'.2.2.2 - ts_sz M.2.2.2) ≤ 7293034; omega) hW hS (fun H1 locs1 hW1 hS1 => ?_) T hT X
  have := kk H1 locs1 hW1 hS1
  rw [show M.2.2.2 + (M'.2.2.2 - M.2.2.2) = M'.2.2.2 by omega, show ts_sz M.2.2.2 + (ts_sz M'.2.2.2 - ts_sz M.2.2.2) = ts_sz M'.2.2.2 by omega]
  exact this
end LAW

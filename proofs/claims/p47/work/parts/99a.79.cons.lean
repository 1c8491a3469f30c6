/-! ===== constructors: their instructions ===== -/
section CONS
variable {d : Nat} {Y : ts_Y} {pc : Nat} {ls : List (Option ts_V)} {st r : List ts_V} {M M' : ts_M}
theorem cs_go {i : Instr} {len : Nat} {g : ts_F} (hd : decode Y.2.1 pc = .ok (i, len)) (hl : len = ts_len i len) (hc : ts_ci i = true → Y.1.name = "<init>") (hs : ts_step (ts_ev d) Y i len pc ls st M = some (.inl g)) : ts_run (ts_ev d) Y (pc, ls, st, M) = ts_run (ts_ev d) Y g := by
  have h1 : ts_one (ts_ev d) Y (pc, ls, st, M) = some (.inl g) := by
    unfold ts_one
    dsimp only
    rw [hd]
    dsimp only
    rw [if_pos ⟨hl, hc⟩]
    exact hs
  rw [ts_run_step, h1]
theorem cs_ret (hd : decode Y.2.1 pc = .ok (.return_, 1)) (hY : Y.2.2.2.1 = none) : ts_run (ts_ev d) Y (pc, ls, [], M) = some (none, M) := by
  have h1 : ts_one (ts_ev d) Y (pc, ls, [], M) = some (.inr (none, M)) := by
    unfold ts_one
    dsimp only
    rw [hd]
    dsimp only
    rw [if_pos ⟨rfl, fun q => by cases q⟩]
    unfold ts_step
    dsimp only
    rw [if_pos hY]
  rw [ts_run_step, h1]
theorem cs_ev {y : Nat} {As : List ts_V} {q : Option ts_R} (hy : ts_mL[y]? = some Y) (hl : (ts_ar As).length ≤ Y.2.2.1) (h : ts_run (ts_ev d) Y (0, ts_l0 As Y.2.2.1, [], M) = q) : ts_ev (d + 1) y As M = q := by
  simp only [ts_ev]
  rw [hy]
  dsimp only
  rw [if_pos hl]
  exact h
theorem cs_aload {k : Fin 4} {o : Option Nat} (hd : decode Y.2.1 pc = .ok (.aload_n k, 1)) (h : ts_lget ls k = some (.inr (.inr o))) : ts_run (ts_ev d) Y (pc, ls, st, M) = ts_run (ts_ev d) Y (pc + 1, ls, .inr (.inr o) :: st, M) := by
  refine cs_go hd rfl (fun q => by cases q) ?_
  unfold ts_step
  dsimp only
  rw [h]
theorem cs_iload {k : Fin 4} {x : Int32} (hd : decode Y.2.1 pc = .ok (.iload_n k, 1)) (h : ts_lget ls k = some (.inl x)) : ts_run (ts_ev d) Y (pc, ls, st, M) = ts_run (ts_ev d) Y (pc + 1, ls, .inl x :: st, M) := by
  refine cs_go hd rfl (fun q => by cases q) ?_
  unfold ts_step
  dsimp only
  rw [h]
theorem cs_putI {x c k a : Nat} {v : Int32} (hd : decode Y.2.1 pc = .ok (.putfield x, 3)) (hn : Y.1.name = "<init>") (hf : ts_fld Y.2.2.2.2 x = some (c, k)) (hc : c = Y.2.2.2.2) (hsh : ts_sh a = (0, c)) (ha : a < M.2.2.2) (ht : ts_ty c k = .int) : ts_run (ts_ev d) Y (pc, ls, .inl v :: .inr (.inr (some a)) :: r, M) = ts_run (ts_ev d) Y (pc + 3, ls, r, ts_wrI M a k v) := by
  refine cs_go hd rfl (fun q => hn) ?_
  unfold ts_step
  dsimp only
  rw [hf]
  dsimp only
  rw [if_neg (fun q => q.2 ⟨hn, hc⟩), if_pos ⟨hsh, ha, Or.inl ht⟩]
theorem cs_putR {x c k a o : Nat} (hd : decode Y.2.1 pc = .ok (.putfield x, 3)) (hn : Y.1.name = "<init>") (hf : ts_fld Y.2.2.2.2 x = some (c, k)) (hc : c = Y.2.2.2.2) (hsh : ts_sh a = (0, c)) (ha : a < M.2.2.2) (ht : ts_isr (ts_ty c k) = true) : ts_run (ts_ev d) Y (pc, ls, .inr (.inr (some o)) :: .inr (.inr (some a)) :: r, M) = ts_run (ts_ev d) Y (pc + 3, ls, r, ts_wrR M a k (some o)) := by
  refine cs_go hd rfl (fun q => hn) ?_
  unfold ts_step
  dsimp only
  rw [hf]
  dsimp only
  rw [if_neg (fun q => q.2 ⟨hn, hc⟩), if_pos ⟨hsh, ha, ht, Or.inl hn⟩]
theorem cs_newI {n : Int32} {k : Nat} (hd : decode Y.2.1 pc = .ok (.newarray .int, 2)) (hn : Y.1.name = "<init>") (hk : n = nI k) (hk2 : k ≤ 10000) (hsh : ts_sh M.2.2.2 = (1, k)) (hlt : M.2.2.2 < ts_NN) : ts_run (ts_ev d) Y (pc, ls, .inl n :: r, M) = ts_run (ts_ev d) Y (pc + 2, ls, .inr (.inr (some M.2.2.2)) :: r, ts_new M) := by
  refine cs_go hd rfl (fun q => hn) ?_
  unfold ts_step
  dsimp only
  subst hk
  have e : (nI k).toNatClampNeg = k := nI_clamp (by omega)
  rw [e, if_pos ⟨Or.inl ⟨rfl, hsh⟩, nI_pos' (by omega), hk2, hlt⟩]
theorem cs_newB {n : Int32} {k : Nat} (hd : decode Y.2.1 pc = .ok (.newarray .byte, 2)) (hn : Y.1.name = "<init>") (hk : n = nI k) (hk2 : k ≤ 10000) (hsh : ts_sh M.2.2.2 = (2, k)) (hlt : M.2.2.2 < ts_NN) : ts_run (ts_ev d) Y (pc, ls, .inl n :: r, M) = ts_run (ts_ev d) Y (pc + 2, ls, .inr (.inr (some M.2.2.2)) :: r, ts_new M) := by
  refine cs_go hd rfl (fun q => hn) ?_
  unfold ts_step
  dsimp only
  subst hk
  have e : (nI k).toNatClampNeg = k := nI_clamp (by omega)
  rw [e, if_pos ⟨Or.inr (Or.inl ⟨rfl, hsh⟩), nI_pos' (by omega), hk2, hlt⟩]
theorem cs_newL {n : Int32} {k : Nat} (hd : decode Y.2.1 pc = .ok (.newarray .long, 2)) (hn : Y.1.name = "<init>") (hk : n = nI k) (hk2 : k ≤ 10000) (hsh : ts_sh M.2.2.2 = (3, k)) (hlt : M.2.2.2 < ts_NN) : ts_run (ts_ev d) Y (pc, ls, .inl n :: r, M) = ts_run (ts_ev d) Y (pc + 2, ls, .inr (.inr (some M.2.2.2)) :: r, ts_new M) := by
  refine cs_go hd rfl (fun q => hn) ?_
  unfold ts_step
  dsimp only
  subst hk
  have e : (nI k).toNatClampNeg = k := nI_clamp (by omega)
  rw [e, if_pos ⟨Or.inr (Or.inr ⟨rfl, hsh⟩), nI_pos' (by omega), hk2, hlt⟩]
theorem cs_anew {n : Int32} {x k : Nat} (hd : decode Y.2.1 pc = .ok (.anewarray x, 3)) (hn : Y.1.name = "<init>") (hk : n = nI k) (hk2 : k ≤ 10000) (hsh : (ts_cK Y.2.2.2.2 x = some 4 ∧ ts_sh M.2.2.2 = (4, k)) ∨ (ts_cK Y.2.2.2.2 x = some 2 ∧ ts_sh M.2.2.2 = (5, k))) (hlt : M.2.2.2 < ts_NN) : ts_run (ts_ev d) Y (pc, ls, .inl n :: r, M) = ts_run (ts_ev d) Y (pc + 3, ls, .inr (.inr (some M.2.2.2)) :: r, ts_new M) := by
  refine cs_go hd rfl (fun q => hn) ?_
  unfold ts_step
  dsimp only
  subst hk
  have e : (nI k).toNatClampNeg = k := nI_clamp (by omega)
  rw [e, if_pos ⟨hsh, nI_pos' (by omega), hk2, hlt⟩]
theorem cs_new {x c : Nat} (hd : decode Y.2.1 pc = .ok (.new x, 3)) (hn : Y.1.name = "<init>") (hc : ts_cK Y.2.2.2.2 x = some c) (hsh : ts_sh M.2.2.2 = (0, c)) (hlt : M.2.2.2 < ts_NN) : ts_run (ts_ev d) Y (pc, ls, st, M) = ts_run (ts_ev d) Y (pc + 3, ls, .inr (.inr (some M.2.2.2)) :: st, ts_new M) := by
  refine cs_go hd rfl (fun q => hn) ?_
  unfold ts_step
  dsimp only
  rw [hc]
  dsimp only
  rw [if_pos ⟨hsh, hlt⟩]
theorem cs_dup {o : Option Nat} (hd : decode Y.2.1 pc = .ok (.dup, 1)) : ts_run (ts_ev d) Y (pc, ls, .inr (.inr o) :: r, M) = ts_run (ts_ev d) Y (pc + 1, ls, .inr (.inr o) :: .inr (.inr o) :: r, M) := by
  refine cs_go hd rfl (fun q => by cases q) ?_
  unfold ts_step
  dsimp only
  rw [if_pos (show ts_cat1 (.inr (.inr o)) = true from rfl)]
theorem cs_obj {x a : Nat} (hd : decode Y.2.1 pc = .ok (.invokespecial x, 3)) (hn : Y.1.name = "<init>") (hb : ts_bi Y.2.2.2.2 x = 1) (hr : ts_cats r ≤ 8) : ts_run (ts_ev d) Y (pc, ls, .inr (.inr (some a)) :: r, M) = ts_run (ts_ev d) Y (pc + 3, ls, r, M) := by
  refine cs_go hd rfl (fun q => hn) ?_
  unfold ts_step
  dsimp only
  rw [hb]
  exact if_pos hr
theorem cs_init {x y n z b : Nat} {as : List ts_V} (hd : decode Y.2.1 pc = .ok (.invokespecial x, 3)) (hn : Y.1.name = "<init>") (hb : ts_bi Y.2.2.2.2 x = 0) (hf : ts_cal Y.2.2.2.2 x = some (y, n, 2, z)) (hk : ts_knd y = 0) (hs : st.drop n = .inr (.inr (some b)) :: r) (ht : (st.take n).reverse = as) (hl : n ≤ st.length) (hr : ts_cats r ≤ 8) (he : ts_ev d y (.inr (.inr (some b)) :: as) M = some (none, M')) : ts_run (ts_ev d) Y (pc, ls, st, M) = ts_run (ts_ev d) Y (pc + 3, ls, r, M') := by
  refine cs_go hd rfl (fun q => hn) ?_
  unfold ts_step
  dsimp only
  rw [hb, hf]
  refine Eq.trans (b := match st.drop n with | .inr (.inr (some b)) :: r => if n ≤ st.length ∧ ts_cats r ≤ 8 then ts_back (ts_knd y) (ts_ev d y (.inr (.inr (some b)) :: (st.take n).reverse) M) pc ls r else none | _ => none) rfl ?_
  rw [hs]
  refine (if_pos ⟨hl, hr⟩).trans ?_
  rw [ht, he, hk]
  rfl
theorem cs_call {x y n z b : Nat} {as : List ts_V} (hd : decode Y.2.1 pc = .ok (.invokevirtual x, 3)) (hf : ts_cal Y.2.2.2.2 x = some (y, n, 0, z)) (hk : ts_knd y = 0) (hs : st.drop n = .inr (.inr (some b)) :: r) (ht : (st.take n).reverse = as) (hsh : ts_sh b = (0, ts_cls y)) (hlt : b < M.2.2.2) (hl : n ≤ st.length) (hr : ts_cats r ≤ 8) (he : ts_ev d y (.inr (.inr (some b)) :: as) M = some (none, M')) : ts_run (ts_ev d) Y (pc, ls, st, M) = ts_run (ts_ev d) Y (pc + 3, ls, r, M') := by
  refine cs_go hd rfl (fun q => by cases q) ?_
  unfold ts_step
  dsimp only
  rw [hf]
  refine Eq.trans (b := match st.drop n with | .inr (.inr (some b)) :: r => if ts_sh b = (0, ts_cls y) ∧ b < M.2.2.2 ∧ n ≤ st.length ∧ ts_cats r ≤ 8 then ts_back (ts_knd y) (ts_ev d y (.inr (.inr (some b)) :: (st.take n).reverse) M) pc ls r else none | _ => none) rfl ?_
  rw [hs]
  refine (if_pos ⟨hsh, hlt, hl, hr⟩).trans ?_
  rw [ht, he, hk]
  rfl
theorem cs_bi {n : Int} {v : Int32} (hd : decode Y.2.1 pc = .ok (.bipush n, 2)) (he : (Int8.ofInt n).toInt32 = v) : ts_run (ts_ev d) Y (pc, ls, st, M) = ts_run (ts_ev d) Y (pc + 2, ls, .inl v :: st, M) := by
  subst he
  exact cs_go hd rfl (fun q => by cases q) rfl
theorem cs_si {n : Int} {v : Int32} (hd : decode Y.2.1 pc = .ok (.sipush n, 3)) (he : (Int16.ofInt n).toInt32 = v) : ts_run (ts_ev d) Y (pc, ls, st, M) = ts_run (ts_ev d) Y (pc + 3, ls, .inl v :: st, M) := by
  subst he
  exact cs_go hd rfl (fun q => by cases q) rfl
theorem cs_ic {n : Int} {v : Int32} (hd : decode Y.2.1 pc = .ok (.iconst n, 1)) (he : Int32.ofInt n = v) : ts_run (ts_ev d) Y (pc, ls, st, M) = ts_run (ts_ev d) Y (pc + 1, ls, .inl v :: st, M) := by
  subst he
  exact cs_go hd rfl (fun q => by cases q) rfl
end CONS

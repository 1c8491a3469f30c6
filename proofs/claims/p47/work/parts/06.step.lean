/-! ===== one step ===== -/
/-! which instructions write local 0; what local 0 keeps -/
def ts_s0 : Instr → Bool
  | .istore n | .lstore n | .fstore n | .dstore n | .astore n => n == 0
  | .istore_n n | .lstore_n n | .fstore_n n | .dstore_n n | .astore_n n => (n : Nat) == 0
  | .iinc n _ => n == 0
  | _ => false
def ts_x0 (sl : Array Slot) : List (Nat × Value) := match (sl[0]? : Option Slot) with
  | some (Slot.val (Value.ref a)) => [(0, Value.ref a)]
  | _ => []
theorem ts_x0_mem {sl : Array Slot} {q : Nat × Value} (h : q ∈ ts_x0 sl) : sl[q.1]? = some (.val q.2) := by
  unfold ts_x0 at h
  split at h
  · next a h0 =>
    have : q = (0, .ref a) := by simpa using h
    subst this
    exact h0
  · cases h
theorem ts_x0_in {sl : Array Slot} {a : Nat} (h : sl[0]? = some (Slot.val (Value.ref a))) : ((0, .ref a) : Nat × Value) ∈ ts_x0 sl := by
  unfold ts_x0
  rw [h]
  exact List.mem_singleton.mpr rfl
theorem ts_Lr.hasx {B nL : Nat} {ls : List (Option ts_V)} {sl : Array Slot} (h : ts_Lr B nL ls sl) : lv_has sl nL (ts_x0 sl ++ ts_lv B ls) :=
  ⟨h.1, h.2.1, fun q hq => (List.mem_append.mp hq).elim ts_x0_mem (fun h2 => h.has.2.2 q h2)⟩
theorem ts_xs {sl1 : Array Slot} {nL : Nat} {v : Nat × Value} {x y : List (Nat × Value)} {f : Nat × Value → Bool} (h : lv_has sl1 nL (v :: (x ++ y).filter f)) : lv_has sl1 nL (v :: y.filter f) := by
  refine ⟨h.1, h.2.1, fun q hq => h.2.2 q ?_⟩
  rcases List.mem_cons.mp hq with e | e
  · exact List.mem_cons.mpr (Or.inl e)
  · have := List.mem_filter.mp e
    exact List.mem_cons_of_mem _ (List.mem_filter.mpr ⟨List.mem_append_right _ this.1, this.2⟩)
theorem ts_xk1 {sl sl1 : Array Slot} {nL n a : Nat} {v : Value} {y : List (Nat × Value)} (h : lv_has sl1 nL ((n, v) :: (ts_x0 sl ++ y).filter (fun q => !(q.1 == n) && !(q.1 + 1 == n && q.2.category == 2)))) (hz : (n == 0) = false) (h0 : sl[0]? = some (Slot.val (.ref a))) : sl1[0]? = some (Slot.val (.ref a)) := by
  have hn : ¬ n = 0 := by simpa using hz
  refine h.2.2 (0, .ref a) (List.mem_cons_of_mem _ (List.mem_filter.mpr ⟨List.mem_append_left _ (ts_x0_in h0), ?_⟩))
  have h1 : ((0 : Nat) == n) = false := by simp; omega
  simp [h1, Value.category]
theorem ts_xk2 {sl sl1 : Array Slot} {nL n a : Nat} {v : Value} {y : List (Nat × Value)} (h : lv_has sl1 nL ((n, v) :: (ts_x0 sl ++ y).filter (fun q => !(q.1 == n) && (!(q.1 == n + 1) && !(q.1 + 1 == n && q.2.category == 2))))) (hz : (n == 0) = false) (h0 : sl[0]? = some (Slot.val (.ref a))) : sl1[0]? = some (Slot.val (.ref a)) := by
  have hn : ¬ n = 0 := by simpa using hz
  refine h.2.2 (0, .ref a) (List.mem_cons_of_mem _ (List.mem_filter.mpr ⟨List.mem_append_left _ (ts_x0_in h0), ?_⟩))
  have h1 : ((0 : Nat) == n) = false := by simp; omega
  simp [h1, Value.category]
section STEP
variable {p : Program} {l : Launch} {e : Env} {R : Room} {s : State} {m : MethodId} {args : Array Value} {below : List Frame} {meth : Method} {c : Code} {H : Heap} {locs : List Loc} {Q : State → Prop} {Y : ts_Y} {D : va_G} {B : Nat} {cA : Nat → ClassId} {A : Nat → Prop} {d N0 N1 k0 z0 : Nat}
theorem ts_st_store1 {Z : Prop} {ls : List (Option ts_V)} {sl : Array Slot} {nL i : Nat} {v : ts_V} (hL : ts_Lr B nL ls sl) (hv : ts_isl (some v) = false) (kk : ∀ sl' : Array Slot, ts_Lr B nL (ts_lset ls i v) sl' → Z) : ∀ sl' : Array Slot, lv_has sl' nL ((i, ts_val B v) :: (ts_lv B ls).filter (fun q => !(q.1 == i) && !(q.1 + 1 == i && q.2.category == 2))) → Z := fun sl' h => kk sl' (ts_Lr.store1 hv h)
theorem ts_jmp_of {pc t : Nat} {off : Int} (h : ts_jmp pc off = some t) : (pc : Int) + off = (t : Int) := by
  unfold ts_jmp at h
  split at h
  · next q => rw [q]; cases h; rfl
  · cases h
theorem ts_to_of {pc pc' : Nat} {off : Int} {ls ls' : List (Option ts_V)} {st st' : List ts_V} {M M' : ts_M} (h : ts_to pc off ls st M = some (.inl (pc', ls', st', M'))) : (pc : Int) + off = (pc' : Int) ∧ ls' = ls ∧ st' = st ∧ M' = M := by
  unfold ts_to at h
  split at h
  · next t ht =>
    cases h
    exact ⟨ts_jmp_of ht, rfl, rfl, rfl⟩
  · cases h
theorem ts_back_of {k : Nat} {r : Option ts_R} {pc pc' : Nat} {ls ls' : List (Option ts_V)} {st st' : List ts_V} {M' : ts_M} (h : ts_back k r pc ls st = some (.inl (pc', ls', st', M'))) : ∃ v : Option ts_V, r = some (v, M') ∧ pc' = pc + 3 ∧ ls' = ls ∧ st' = v.toList ++ st := by
  unfold ts_back at h
  split at h <;> first | (split at h <;> first | (cases h; exact ⟨_, rfl, rfl, rfl, rfl⟩) | cases h) | cases h

theorem ts_fr_self {α : Type} {f : Nat → Nat → α} {a : Nat} {v : α} : ts_fr f a v a = fun _ => v := by funext q; simp [ts_fr]
theorem ts_c1 {v : ts_V} (h : ts_cat1 v = true) : (ts_val B v).category = 1 := by
  rw [ts_val_cat]
  rcases v with x | x | x
  · rfl
  · cases h
  · rfl
theorem ts_nf {ty : FieldType} {v : Int32} (h : ty = .int ∨ ty = .boolean ∧ (v = 0 ∨ v = 1)) : narrow ty (.int v) = .int v ∧ fits ty (.int v) = true := by
  rcases h with rfl | ⟨rfl, rfl | rfl⟩
  · exact ⟨rfl, rfl⟩
  · exact ⟨rfl, rfl⟩
  · exact ⟨rfl, rfl⟩
theorem ts_nfR {ty : FieldType} {o : Option Nat} (h : ts_isr ty = true) : narrow ty (va_rf o) = va_rf o ∧ fits ty (va_rf o) = true := by
  cases ty <;> first | (cases o <;> exact ⟨rfl, rfl⟩) | cases h
theorem ts_fin {A P : Prop} (h0 : ¬ (A ∧ ¬ P)) (h : A) : P := Classical.byContradiction fun q => h0 ⟨h, q⟩
theorem ts_no3 (k : Nat) : ¬ (ts_sh k).1 = 3 := by
  have h : ts_sAll.all (fun e => decide (¬ e.1 = 3)) = true := by decide +kernel
  unfold ts_sh
  rw [List.getD_eq_getElem?_getD]
  cases hk : ts_sAll[k]? with
  | none => exact (by decide)
  | some e => exact of_decide_eq_true (List.all_eq_true.mp h e (List.mem_of_getElem? hk))
theorem ts_tab : (List.range 12).all (fun c => (List.range (ts_N c)).all fun k => decide ((ts_T c k).1 = ts_cn c) && (decide (ts_ty c k = .int) || decide (ts_ty c k = .boolean) || ts_isr (ts_ty c k))) = true := by decide +kernel
theorem ts_tab_of {c k : Nat} (hc : c < 12) (hk : k < ts_N c) : (ts_T c k).1 = ts_cn c ∧ (ts_ty c k = .int ∨ ts_ty c k = .boolean ∨ ts_isr (ts_ty c k) = true) := by
  have h := List.all_eq_true.mp (List.all_eq_true.mp ts_tab c (List.mem_range.mpr hc)) k (List.mem_range.mpr hk)
  simp only [Bool.and_eq_true, Bool.or_eq_true, decide_eq_true_eq, or_assoc] at h
  exact h
theorem ts_decl {c k : Nat} (hc : c < 12) (hk : k < ts_N c) : (ts_T c k).1 = ts_cn c := (ts_tab_of hc hk).1
theorem ts_vin0 {n : Int32} (h0 : 0 ≤ n) (q : n < 0) : False := by
  rw [Int32.lt_iff_toInt_lt] at q
  rw [Int32.le_iff_toInt_le] at h0
  omega
theorem ts_new_fs {M : ts_M} {c : Nat} (hsh : ts_sh M.2.2.2 = (0, c)) (hc : c < 12) : ∀ j, j < ts_N c → defaultValue (ts_ty c j) = vp_V (ts_fs B (ts_new M) M.2.2.2) j := by
  intro j hj
  have e := ts_fs_at (B := B) (M := ts_new M) hsh hj
  unfold vp_V
  rw [List.getD_eq_getElem?_getD, e]
  unfold ts_gv
  rcases (ts_tab_of hc hj).2 with h | h | h
  · rw [h]; simp [ts_isr, ts_new, ts_fr, ts_val, defaultValue]
  · rw [h]; simp [ts_isr, ts_new, ts_fr, ts_val, defaultValue]
  · rw [if_pos h]
    simp only [ts_new, ts_fr, ts_val, if_pos, Option.map_none, va_rf, Option.getD_some]
    revert h
    cases ts_ty c j <;> intro h <;> first | rfl | cases h
theorem ts_fresh {H0 : Heap} (F : ts_Fx p R s m args meth c Y D B cA A d N0 N1 k0 z0) {M : ts_M} {T : State} {H1 : Heap} {slots q : Nat} {e9 : va_E} (hN : N0 ≤ M.2.2.2) (hlt : M.2.2.2 < ts_NN) (hW : ts_Wd D B cA M H) (hS : va_S A H0 H locs) (hT : T.heap = H1) (X : Stand p l e R s m args below meth c T locs (k0 + (M.2.2.2 + 1 - N0)) slots) (hP1 : va_P D ts_cl (ts_w B cA M ++ [(q, e9)]) H1) (hD1 : va_D A (ts_w B cA M ++ [(q, e9)])) : q = B + M.2.2.2 := by
  obtain ⟨-, -, -, -, -, -, -, -, -, hB, hz, -, -, -, -, -, -, -, -, -, hA1⟩ := F
  have hA9 := hA1.resolve_left (by omega)
  have h1 : T.heap.size ≤ s.heap.size + (k0 + (M.2.2.2 + 1 - N0)) := X.same.2.2.1
  rw [hT] at h1
  have hl : (ts_w B cA M ++ [(q, e9)])[M.2.2.2]? = some (q, e9) := by rw [List.getElem?_append_right (by rw [ts_w_len]; exact Nat.le_refl _), ts_w_len]; simp
  have h2 := (hP1 _ _ hl).lt
  have h3 : B ≤ q := (hA9 q).mp (hD1.2 _ _ hl)
  dsimp only at h2
  have h4 : ¬ q < B + M.2.2.2 := fun h => by
    have hi : (ts_w B cA M ++ [(q, e9)])[q - B]? = some (B + (q - B), ts_ent B cA M (q - B)) := by rw [List.getElem?_append_left (by rw [ts_w_len]; omega), ts_w_at (by omega)]
    have := hD1.1 _ _ _ _ hi hl (by dsimp only; omega)
    omega
  rcases hz with z | z <;> omega

theorem ts_stepW {H0 : Heap} (hB0 : B ≤ H0.size) (F : ts_Fx p R s m args meth c Y D B cA A d N0 N1 k0 z0) {call : ts_C} (hcall : ∀ (y : Nat) (As : List ts_V) (M : ts_M) (v : Option ts_V) (M' : ts_M), call y As M = some (v, M') → ts_Met l D B cA A d y As M v M' ∧ M.2.2.2 ≤ M'.2.2.2)
    {i : Instr} {len pc pc' : Nat} {ls ls' : List (Option ts_V)} {st st' : List ts_V} {M M' : ts_M} (hs : ts_step call Y i len pc ls st M = some (.inl (pc', ls', st', M'))) (hdec : decode Y.2.1 pc = .ok (i, len)) (hlen : len = ts_len i len) (hN : N0 ≤ M.2.2.2) (hle : M'.2.2.2 ≤ N1)
    {sl : Array Slot} (hW : ts_Wd D B cA M H) (hL : ts_Lr B Y.2.2.1 ls sl) (hS : va_S A H0 H locs)
    (kk : ∀ (H1 : Heap) (locs1 : List Loc) (sl1 : Array Slot), ts_Wd D B cA M' H1 → ts_Lr B Y.2.2.1 ls' sl1 → va_S A H0 H1 locs1 → (∀ a : Nat, ts_s0 i = false → sl[0]? = some (Slot.val (.ref a)) → sl1[0]? = some (Slot.val (.ref a))) → W p l e R s m args below meth c H1 locs1 (k0 + (M'.2.2.2 - N0)) (z0 + (ts_sz M'.2.2.2 - ts_sz N0)) Q (F0 m pc' sl1 (st'.map (ts_val B)))) :
    W p l e R s m args below meth c H locs (k0 + (M.2.2.2 - N0)) (z0 + (ts_sz M.2.2.2 - ts_sz N0)) Q (F0 m pc sl (st.map (ts_val B))) := by
  have hF := F
  obtain ⟨hx, hb, hml, hown, hts, hK, hNw, hA4, hA2, hB, hz, hnm, hY, hret, hlk, hRf, hRl, hRc, hRs, hA0, hA1⟩ := F
  have hwd := fun {w : Cond} (h : ts_gd w) => hF.word h
  have hYc := hY
  have hown2 : s.vm.findClass (ts_cn Y.2.2.2.2) = some m.cls := by rw [← hYc]; exact hown
  have hin : ∀ c, c < 12 → ∀ w ∈ u_ws (ts_cn c) (ts_T c) (ts_N c), w ∈ ts_ws Y := fun c h w hw => List.mem_cons_of_mem _ (ts_lay_in h w hw)
  cases i with

  | iadd =>
    have hlen : len = 1 := hlen
    subst hlen
    unfold ts_step at hs
    dsimp only at hs
    split at hs
    · cases hs
      exact lv_iadd hx hb hdec (kk _ _ _ hW hL hS (fun _ _ h => h))
    · cases hs
  | isub =>
    have hlen : len = 1 := hlen
    subst hlen
    unfold ts_step at hs
    dsimp only at hs
    split at hs
    · cases hs
      exact lv_isub hx hb hdec (kk _ _ _ hW hL hS (fun _ _ h => h))
    · cases hs
  | imul =>
    have hlen : len = 1 := hlen
    subst hlen
    unfold ts_step at hs
    dsimp only at hs
    split at hs
    · cases hs
      exact lv_imul hx hb hdec (kk _ _ _ hW hL hS (fun _ _ h => h))
    · cases hs
  | iand =>
    have hlen : len = 1 := hlen
    subst hlen
    unfold ts_step at hs
    dsimp only at hs
    split at hs
    · cases hs
      exact lv_iand hx hb hdec (kk _ _ _ hW hL hS (fun _ _ h => h))
    · cases hs
  | ior =>
    have hlen : len = 1 := hlen
    subst hlen
    unfold ts_step at hs
    dsimp only at hs
    split at hs
    · cases hs
      exact lv_ior hx hb hdec (kk _ _ _ hW hL hS (fun _ _ h => h))
    · cases hs
  | ixor =>
    have hlen : len = 1 := hlen
    subst hlen
    unfold ts_step at hs
    dsimp only at hs
    split at hs
    · cases hs
      exact lv_ixor hx hb hdec (kk _ _ _ hW hL hS (fun _ _ h => h))
    · cases hs
  | ishl =>
    have hlen : len = 1 := hlen
    subst hlen
    unfold ts_step at hs
    dsimp only at hs
    split at hs
    · cases hs
      exact lv_ishl hx hb hdec (kk _ _ _ hW hL hS (fun _ _ h => h))
    · cases hs
  | ishr =>
    have hlen : len = 1 := hlen
    subst hlen
    unfold ts_step at hs
    dsimp only at hs
    split at hs
    · cases hs
      exact lv_ishr hx hb hdec (kk _ _ _ hW hL hS (fun _ _ h => h))
    · cases hs
  | lmul =>
    have hlen : len = 1 := hlen
    subst hlen
    unfold ts_step at hs
    dsimp only at hs
    split at hs
    · cases hs
      exact lv_lmul hx hb hdec (kk _ _ _ hW hL hS (fun _ _ h => h))
    · cases hs
  | ladd =>
    have hlen : len = 1 := hlen
    subst hlen
    unfold ts_step at hs
    dsimp only at hs
    split at hs
    · cases hs
      exact lv_ladd hx hb hdec (kk _ _ _ hW hL hS (fun _ _ h => h))
    · cases hs
  | lsub =>
    have hlen : len = 1 := hlen
    subst hlen
    unfold ts_step at hs
    dsimp only at hs
    split at hs
    · cases hs
      exact lv_lsub hx hb hdec (kk _ _ _ hW hL hS (fun _ _ h => h))
    · cases hs
  | iushr =>
    have hlen : len = 1 := hlen
    subst hlen
    unfold ts_step at hs
    dsimp only at hs
    split at hs
    · cases hs
      exact lv_iushr hx hb hdec rfl (kk _ _ _ hW hL hS (fun _ _ h => h))
    · cases hs
  | lcmp =>
    have hlen : len = 1 := hlen
    subst hlen
    unfold ts_step at hs
    dsimp only at hs
    split at hs
    · cases hs
      exact W.lcmp hx hb hdec (kk _ _ _ hW hL hS (fun _ _ h => h))
    · cases hs
  | idiv =>
    have hlen : len = 1 := hlen
    subst hlen
    unfold ts_step at hs
    dsimp only at hs
    split at hs
    · split at hs
      · next hg =>
        cases hs
        exact lv_idiv hx hb hdec hg (kk _ _ _ hW hL hS (fun _ _ h => h))
      · cases hs
    · cases hs
  | irem =>
    have hlen : len = 1 := hlen
    subst hlen
    unfold ts_step at hs
    dsimp only at hs
    split at hs
    · split at hs
      · next hg =>
        cases hs
        exact lv_irem hx hb hdec hg (kk _ _ _ hW hL hS (fun _ _ h => h))
      · cases hs
    · cases hs
  | ldiv =>
    have hlen : len = 1 := hlen
    subst hlen
    unfold ts_step at hs
    dsimp only at hs
    split at hs
    · split at hs
      · next hg =>
        cases hs
        exact lv_ldiv hx hb hdec hg (kk _ _ _ hW hL hS (fun _ _ h => h))
      · cases hs
    · cases hs
  | i2b =>
    have hlen : len = 1 := hlen
    subst hlen
    unfold ts_step at hs
    dsimp only at hs
    split at hs
    · cases hs
      exact lv_i2b hx hb hdec rfl (kk _ _ _ hW hL hS (fun _ _ h => h))
    · cases hs
  | i2l =>
    have hlen : len = 1 := hlen
    subst hlen
    unfold ts_step at hs
    dsimp only at hs
    split at hs
    · cases hs
      exact lv_i2l hx hb hdec rfl (kk _ _ _ hW hL hS (fun _ _ h => h))
    · cases hs
  | l2i =>
    have hlen : len = 1 := hlen
    subst hlen
    unfold ts_step at hs
    dsimp only at hs
    split at hs
    · cases hs
      exact lv_l2i hx hb hdec rfl (kk _ _ _ hW hL hS (fun _ _ h => h))
    · cases hs
  | iconst n =>
    have hlen : len = 1 := hlen
    subst hlen
    unfold ts_step at hs
    dsimp only at hs
    cases hs
    exact lv_iconst hx hb hdec rfl (kk _ _ _ hW hL hS (fun _ _ h => h))
  | bipush n =>
    have hlen : len = 2 := hlen
    subst hlen
    unfold ts_step at hs
    dsimp only at hs
    cases hs
    exact lv_bipush hx hb hdec rfl (kk _ _ _ hW hL hS (fun _ _ h => h))
  | sipush n =>
    have hlen : len = 3 := hlen
    subst hlen
    unfold ts_step at hs
    dsimp only at hs
    cases hs
    exact lv_sipush hx hb hdec rfl (kk _ _ _ hW hL hS (fun _ _ h => h))
  | lconst n =>
    have hlen : len = 1 := hlen
    subst hlen
    unfold ts_step at hs
    dsimp only at hs
    cases hs
    exact lv_lconst hx hb hdec rfl (kk _ _ _ hW hL hS (fun _ _ h => h))
  | aconst_null =>
    have hlen : len = 1 := hlen
    subst hlen
    unfold ts_step at hs
    dsimp only at hs
    cases hs
    exact lv_null hx hb hdec (kk _ _ _ hW hL hS (fun _ _ h => h))
  | ldc x =>
    have hlen : len = 2 := hlen
    subst hlen
    unfold ts_step at hs
    dsimp only at hs
    split at hs
    · next v hv =>
      cases hs
      exact lv_ldc hx hb hown2 (hwd (ts_wI_gd _ (List.mem_map.mpr ⟨_, ts_cI_of hv, rfl⟩))) hdec (kk _ _ _ hW hL hS (fun _ _ h => h))
    · cases hs
  | ldc_w x =>
    have hlen : len = 3 := hlen
    subst hlen
    unfold ts_step at hs
    dsimp only at hs
    split at hs
    · next v hv =>
      cases hs
      exact lv_ldcw hx hb hown2 (hwd (ts_wI_gd _ (List.mem_map.mpr ⟨_, ts_cI_of hv, rfl⟩))) hdec (kk _ _ _ hW hL hS (fun _ _ h => h))
    · cases hs
  | ldc2_w x =>
    have hlen : len = 3 := hlen
    subst hlen
    unfold ts_step at hs
    dsimp only at hs
    split at hs
    · next v hv =>
      cases hs
      exact lv_ldc2 hx hb hown2 (hwd (ts_wJ_gd _ (List.mem_map.mpr ⟨_, ts_cJ_of hv, rfl⟩))) hdec (kk _ _ _ hW hL hS (fun _ _ h => h))
    · cases hs
  | iload n =>
    have hlen : len = 2 := hlen
    subst hlen
    unfold ts_step at hs
    dsimp only at hs
    split at hs
    · next v hv =>
      cases hs
      exact lv_iload hx hb hdec (hL.2.2 _ _ hv) (kk _ _ _ hW hL hS (fun _ _ h => h))
    · cases hs
  | iload_n n =>
    have hlen : len = 1 := hlen
    subst hlen
    unfold ts_step at hs
    dsimp only at hs
    split at hs
    · next v hv =>
      cases hs
      exact lv_iload_n hx hb hdec rfl (hL.2.2 _ _ hv) (kk _ _ _ hW hL hS (fun _ _ h => h))
    · cases hs
  | lload n =>
    have hlen : len = 2 := hlen
    subst hlen
    unfold ts_step at hs
    dsimp only at hs
    split at hs
    · next v hv =>
      cases hs
      exact lv_lload hx hb hdec (hL.2.2 _ _ hv) (kk _ _ _ hW hL hS (fun _ _ h => h))
    · cases hs
  | lload_n n =>
    have hlen : len = 1 := hlen
    subst hlen
    unfold ts_step at hs
    dsimp only at hs
    split at hs
    · next v hv =>
      cases hs
      exact lv_lload_n hx hb hdec rfl (hL.2.2 _ _ hv) (kk _ _ _ hW hL hS (fun _ _ h => h))
    · cases hs
  | aload n =>
    have hlen : len = 2 := hlen
    subst hlen
    unfold ts_step at hs
    dsimp only at hs
    split at hs
    · next v hv =>
      cases hs
      cases v with
      | none => exact lv_aloadN hx hb hdec (hL.2.2 _ _ hv) (kk _ _ _ hW hL hS (fun _ _ h => h))
      | some v => exact lv_aload hx hb hdec (hL.2.2 _ _ hv) (kk _ _ _ hW hL hS (fun _ _ h => h))
    · cases hs
  | aload_n n =>
    have hlen : len = 1 := hlen
    subst hlen
    unfold ts_step at hs
    dsimp only at hs
    split at hs
    · next v hv =>
      cases hs
      cases v with
      | none => exact lv_aload_nN hx hb hdec rfl (hL.2.2 _ _ hv) (kk _ _ _ hW hL hS (fun _ _ h => h))
      | some v => exact lv_aload_n hx hb hdec rfl (hL.2.2 _ _ hv) (kk _ _ _ hW hL hS (fun _ _ h => h))
    · cases hs
  | istore n =>
    have hlen : len = 2 := hlen
    subst hlen
    unfold ts_step at hs
    dsimp only at hs
    split at hs
    · split at hs
      · next hg =>
        cases hs
        exact lv_istore hx hb hdec hL.hasx hg rfl (fun sl1 h1 => kk _ _ _ hW (ts_Lr.store1 rfl (ts_xs h1)) hS (fun a hz h0 => ts_xk1 h1 hz h0))
      · cases hs
    · cases hs
  | istore_n n =>
    have hlen : len = 1 := hlen
    subst hlen
    unfold ts_step at hs
    dsimp only at hs
    split at hs
    · split at hs
      · next hg =>
        cases hs
        exact lv_istore_n hx hb hdec rfl hL.hasx hg rfl (fun sl1 h1 => kk _ _ _ hW (ts_Lr.store1 rfl (ts_xs h1)) hS (fun a hz h0 => ts_xk1 h1 hz h0))
      · cases hs
    · cases hs
  | lstore n =>
    have hlen : len = 2 := hlen
    subst hlen
    unfold ts_step at hs
    dsimp only at hs
    split at hs
    · split at hs
      · next hg =>
        cases hs
        exact lv_lstore hx hb hdec hL.hasx hg rfl (fun sl1 h1 => kk _ _ _ hW (ts_Lr.store2 rfl (ts_xs h1)) hS (fun a hz h0 => ts_xk2 h1 hz h0))
      · cases hs
    · cases hs
  | lstore_n n =>
    have hlen : len = 1 := hlen
    subst hlen
    unfold ts_step at hs
    dsimp only at hs
    split at hs
    · split at hs
      · next hg =>
        cases hs
        exact lv_lstore_n hx hb hdec rfl hL.hasx hg rfl (fun sl1 h1 => kk _ _ _ hW (ts_Lr.store2 rfl (ts_xs h1)) hS (fun a hz h0 => ts_xk2 h1 hz h0))
      · cases hs
    · cases hs
  | astore n =>
    have hlen : len = 2 := hlen
    subst hlen
    unfold ts_step at hs
    dsimp only at hs
    split at hs
    · next v r =>
      split at hs
      · next hg =>
        cases hs
        cases v with
        | none => exact lv_astoreN hx hb hdec hL.hasx hg rfl (fun sl1 h1 => kk _ _ _ hW (ts_Lr.store1 rfl (ts_xs h1)) hS (fun a hz h0 => ts_xk1 h1 hz h0))
        | some v => exact lv_astore hx hb hdec hL.hasx hg rfl (fun sl1 h1 => kk _ _ _ hW (ts_Lr.store1 rfl (ts_xs h1)) hS (fun a hz h0 => ts_xk1 h1 hz h0))
      · cases hs
    · cases hs
  | astore_n n =>
    have hlen : len = 1 := hlen
    subst hlen
    unfold ts_step at hs
    dsimp only at hs
    split at hs
    · next v r =>
      split at hs
      · next hg =>
        cases hs
        cases v with
        | none => exact lv_astore_nN hx hb hdec rfl hL.hasx hg rfl (fun sl1 h1 => kk _ _ _ hW (ts_Lr.store1 rfl (ts_xs h1)) hS (fun a hz h0 => ts_xk1 h1 hz h0))
        | some v => exact lv_astore_n hx hb hdec rfl hL.hasx hg rfl (fun sl1 h1 => kk _ _ _ hW (ts_Lr.store1 rfl (ts_xs h1)) hS (fun a hz h0 => ts_xk1 h1 hz h0))
      · cases hs
    · cases hs
  | iinc n d2 =>
    have hlen : len = 3 := hlen
    subst hlen
    unfold ts_step at hs
    dsimp only at hs
    split at hs
    · next x hv =>
      split at hs
      · next hg =>
        cases hs
        obtain ⟨k9, hk9⟩ := List.getElem?_of_mem (List.mem_append_right (ts_x0 sl) (ts_lv_mem (B := B) hv))
        exact lv_iinc hx hb hdec hL.hasx hk9 rfl hg rfl (fun sl1 h1 => kk _ _ _ hW (ts_Lr.store1 (v := .inl (x + Int32.ofInt d2)) rfl (ts_xs h1)) hS (fun a hz h0 => ts_xk1 h1 hz h0))
      · cases hs
    · cases hs
  | dup =>
    have hlen : len = 1 := hlen
    subst hlen
    unfold ts_step at hs
    dsimp only at hs
    split at hs
    · next v r =>
      split at hs
      · next hg =>
        cases hs
        exact lv_dup hx hb hdec (ts_c1 hg) (kk _ _ _ hW hL hS (fun _ _ h => h))
      · cases hs
    · cases hs
  | pop =>
    have hlen : len = 1 := hlen
    subst hlen
    unfold ts_step at hs
    dsimp only at hs
    split at hs
    · next v r =>
      split at hs
      · next hg =>
        cases hs
        exact lv_pop hx hb hdec (ts_c1 hg) (kk _ _ _ hW hL hS (fun _ _ h => h))
      · cases hs
    · cases hs
  | dup_x1 =>
    have hlen : len = 1 := hlen
    subst hlen
    unfold ts_step at hs
    dsimp only at hs
    split at hs
    · next v u r =>
      split at hs
      · next hg =>
        cases hs
        exact lv_dup_x1 hx hb hdec (ts_c1 hg.1) (ts_c1 hg.2) (kk _ _ _ hW hL hS (fun _ _ h => h))
      · cases hs
    · cases hs
  | dup2 =>
    have hlen : len = 1 := hlen
    subst hlen
    unfold ts_step at hs
    dsimp only at hs
    split at hs
    · next v u r =>
      split at hs
      · next hg =>
        cases hs
        exact lv_dup2_11 hx hb hdec (ts_c1 hg.1) (ts_c1 hg.2) (kk _ _ _ hW hL hS (fun _ _ h => h))
      · cases hs
    · cases hs
  | goto off =>
    have hlen : len = 3 := hlen
    subst hlen
    unfold ts_step at hs
    dsimp only at hs
    obtain ⟨h1, rfl, rfl, rfl⟩ := ts_to_of hs
    exact lv_goto hx hb hdec h1 (kk _ _ _ hW hL hS (fun _ _ h => h))
  | if_icmp op off =>
    have hlen : len = 3 := hlen
    subst hlen
    cases op with
    | eq =>
      unfold ts_step at hs
      dsimp only at hs
      split at hs
      · unfold ts_br at hs
        split at hs
        · next t ht =>
          split at hs
          · next hg =>
            cases hs
            exact lv_icmp_eq hx hb hdec (ts_jmp_of ht) (fun _ => kk _ _ _ hW hL hS (fun _ _ h => h)) (fun q => by first | exact absurd hg q | exact absurd q hg)
          · next hg =>
            cases hs
            exact lv_icmp_eq hx hb hdec (ts_jmp_of ht) (fun q => by first | exact absurd hg q | exact absurd q hg) (fun _ => kk _ _ _ hW hL hS (fun _ _ h => h))
        · cases hs
      · cases hs
    | ne =>
      unfold ts_step at hs
      dsimp only at hs
      split at hs
      · unfold ts_br at hs
        split at hs
        · next t ht =>
          split at hs
          · next hg =>
            cases hs
            exact lv_icmp_ne hx hb hdec (ts_jmp_of ht) (fun _ => kk _ _ _ hW hL hS (fun _ _ h => h)) (fun q => by first | exact absurd hg q | exact absurd q hg)
          · next hg =>
            cases hs
            exact lv_icmp_ne hx hb hdec (ts_jmp_of ht) (fun q => by first | exact absurd hg q | exact absurd q hg) (fun _ => kk _ _ _ hW hL hS (fun _ _ h => h))
        · cases hs
      · cases hs
    | lt =>
      unfold ts_step at hs
      dsimp only at hs
      split at hs
      · unfold ts_br at hs
        split at hs
        · next t ht =>
          split at hs
          · next hg =>
            cases hs
            exact lv_icmp_lt hx hb hdec (ts_jmp_of ht) (fun _ => kk _ _ _ hW hL hS (fun _ _ h => h)) (fun q => by first | exact absurd hg q | exact absurd q hg)
          · next hg =>
            cases hs
            exact lv_icmp_lt hx hb hdec (ts_jmp_of ht) (fun q => by first | exact absurd hg q | exact absurd q hg) (fun _ => kk _ _ _ hW hL hS (fun _ _ h => h))
        · cases hs
      · cases hs
    | ge =>
      unfold ts_step at hs
      dsimp only at hs
      split at hs
      · unfold ts_br at hs
        split at hs
        · next t ht =>
          split at hs
          · next hg =>
            cases hs
            exact lv_icmp_ge hx hb hdec (ts_jmp_of ht) (fun _ => kk _ _ _ hW hL hS (fun _ _ h => h)) (fun q => by first | exact absurd hg q | exact absurd q hg)
          · next hg =>
            cases hs
            exact lv_icmp_ge hx hb hdec (ts_jmp_of ht) (fun q => by first | exact absurd hg q | exact absurd q hg) (fun _ => kk _ _ _ hW hL hS (fun _ _ h => h))
        · cases hs
      · cases hs
    | gt =>
      unfold ts_step at hs
      dsimp only at hs
      split at hs
      · unfold ts_br at hs
        split at hs
        · next t ht =>
          split at hs
          · next hg =>
            cases hs
            exact lv_icmp_gt hx hb hdec (ts_jmp_of ht) (fun _ => kk _ _ _ hW hL hS (fun _ _ h => h)) (fun q => by first | exact absurd hg q | exact absurd q hg)
          · next hg =>
            cases hs
            exact lv_icmp_gt hx hb hdec (ts_jmp_of ht) (fun q => by first | exact absurd hg q | exact absurd q hg) (fun _ => kk _ _ _ hW hL hS (fun _ _ h => h))
        · cases hs
      · cases hs
    | le =>
      unfold ts_step at hs
      dsimp only at hs
      split at hs
      · unfold ts_br at hs
        split at hs
        · next t ht =>
          split at hs
          · next hg =>
            cases hs
            exact lv_icmp_le hx hb hdec (ts_jmp_of ht) (fun _ => kk _ _ _ hW hL hS (fun _ _ h => h)) (fun q => by first | exact absurd hg q | exact absurd q hg)
          · next hg =>
            cases hs
            exact lv_icmp_le hx hb hdec (ts_jmp_of ht) (fun q => by first | exact absurd hg q | exact absurd q hg) (fun _ => kk _ _ _ hW hL hS (fun _ _ h => h))
        · cases hs
      · cases hs
  | ifCond op off =>
    have hlen : len = 3 := hlen
    subst hlen
    cases op with
    | eq =>
      unfold ts_step at hs
      dsimp only at hs
      split at hs
      · unfold ts_br at hs
        split at hs
        · next t ht =>
          split at hs
          · next hg =>
            cases hs
            exact lv_if_eq hx hb hdec (ts_jmp_of ht) (fun _ => kk _ _ _ hW hL hS (fun _ _ h => h)) (fun q => by first | exact absurd hg q | exact absurd q hg)
          · next hg =>
            cases hs
            exact lv_if_eq hx hb hdec (ts_jmp_of ht) (fun q => by first | exact absurd hg q | exact absurd q hg) (fun _ => kk _ _ _ hW hL hS (fun _ _ h => h))
        · cases hs
      · cases hs
    | ne =>
      unfold ts_step at hs
      dsimp only at hs
      split at hs
      · unfold ts_br at hs
        split at hs
        · next t ht =>
          split at hs
          · next hg =>
            cases hs
            exact lv_if_ne hx hb hdec (ts_jmp_of ht) (fun _ => kk _ _ _ hW hL hS (fun _ _ h => h)) (fun q => by first | exact absurd hg q | exact absurd q hg)
          · next hg =>
            cases hs
            exact lv_if_ne hx hb hdec (ts_jmp_of ht) (fun q => by first | exact absurd hg q | exact absurd q hg) (fun _ => kk _ _ _ hW hL hS (fun _ _ h => h))
        · cases hs
      · cases hs
    | lt =>
      unfold ts_step at hs
      dsimp only at hs
      split at hs
      · unfold ts_br at hs
        split at hs
        · next t ht =>
          split at hs
          · next hg =>
            cases hs
            exact lv_if_lt hx hb hdec (ts_jmp_of ht) (fun _ => kk _ _ _ hW hL hS (fun _ _ h => h)) (fun q => by first | exact absurd hg q | exact absurd q hg)
          · next hg =>
            cases hs
            exact lv_if_lt hx hb hdec (ts_jmp_of ht) (fun q => by first | exact absurd hg q | exact absurd q hg) (fun _ => kk _ _ _ hW hL hS (fun _ _ h => h))
        · cases hs
      · cases hs
    | ge =>
      unfold ts_step at hs
      dsimp only at hs
      split at hs
      · unfold ts_br at hs
        split at hs
        · next t ht =>
          split at hs
          · next hg =>
            cases hs
            exact lv_if_ge hx hb hdec (ts_jmp_of ht) (fun _ => kk _ _ _ hW hL hS (fun _ _ h => h)) (fun q => by first | exact absurd hg q | exact absurd q hg)
          · next hg =>
            cases hs
            exact lv_if_ge hx hb hdec (ts_jmp_of ht) (fun q => by first | exact absurd hg q | exact absurd q hg) (fun _ => kk _ _ _ hW hL hS (fun _ _ h => h))
        · cases hs
      · cases hs
    | gt =>
      unfold ts_step at hs
      dsimp only at hs
      split at hs
      · unfold ts_br at hs
        split at hs
        · next t ht =>
          split at hs
          · next hg =>
            cases hs
            exact lv_if_gt hx hb hdec (ts_jmp_of ht) (fun _ => kk _ _ _ hW hL hS (fun _ _ h => h)) (fun q => by first | exact absurd hg q | exact absurd q hg)
          · next hg =>
            cases hs
            exact lv_if_gt hx hb hdec (ts_jmp_of ht) (fun q => by first | exact absurd hg q | exact absurd q hg) (fun _ => kk _ _ _ hW hL hS (fun _ _ h => h))
        · cases hs
      · cases hs
    | le =>
      unfold ts_step at hs
      dsimp only at hs
      split at hs
      · unfold ts_br at hs
        split at hs
        · next t ht =>
          split at hs
          · next hg =>
            cases hs
            exact lv_if_le hx hb hdec (ts_jmp_of ht) (fun _ => kk _ _ _ hW hL hS (fun _ _ h => h)) (fun q => by first | exact absurd hg q | exact absurd q hg)
          · next hg =>
            cases hs
            exact lv_if_le hx hb hdec (ts_jmp_of ht) (fun q => by first | exact absurd hg q | exact absurd q hg) (fun _ => kk _ _ _ hW hL hS (fun _ _ h => h))
        · cases hs
      · cases hs
  | ifnull off =>
    have hlen : len = 3 := hlen
    subst hlen
    unfold ts_step at hs
    dsimp only at hs
    split at hs
    · obtain ⟨h1, rfl, rfl, rfl⟩ := ts_to_of hs
      exact lv_ifnullN hx hb hdec h1 (kk _ _ _ hW hL hS (fun _ _ h => h))
    · cases hs
      exact lv_ifnull hx hb hdec (kk _ _ _ hW hL hS (fun _ _ h => h))
    · cases hs
  | ifnonnull off =>
    have hlen : len = 3 := hlen
    subst hlen
    unfold ts_step at hs
    dsimp only at hs
    split at hs
    · cases hs
      exact lv_ifnonnullN hx hb hdec (kk _ _ _ hW hL hS (fun _ _ h => h))
    · obtain ⟨h1, rfl, rfl, rfl⟩ := ts_to_of hs
      exact lv_ifnonnull hx hb hdec h1 (kk _ _ _ hW hL hS (fun _ _ h => h))
    · cases hs
  | tableswitch dflt lo hi offs =>
    clear hlen
    unfold ts_step at hs
    dsimp only at hs
    split at hs
    · split at hs
      · next hg =>
        obtain ⟨h1, rfl, rfl, rfl⟩ := ts_to_of hs
        exact lv_tableOut hx hb hdec hg h1 (kk _ _ _ hW hL hS (fun _ _ h => h))
      · next hg =>
        split at hs
        · next off ho =>
          obtain ⟨h1, rfl, rfl, rfl⟩ := ts_to_of hs
          exact lv_tableIn hx hb hdec (fun q => hg (Or.inl q)) (fun q => hg (Or.inr q)) ho h1 (kk _ _ _ hW hL hS (fun _ _ h => h))
        · cases hs
    · cases hs
  | getfield x =>
    have hlen : len = 3 := hlen
    subst hlen
    unfold ts_step at hs
    dsimp only at hs
    split at hs
    · next a r =>
      split at hs
      · next c2 k hf =>
        split at hs
        · next hg =>
          cases hs
          have hfm := ts_fld_of hf
          have hfo := List.all_eq_true.mp ts_fL_ok _ hfm
          simp only [Bool.and_eq_true, decide_eq_true_eq] at hfo
          exact va_get hx hb hts (hin c2 hfo.1) hown2 hK hW.1 a (ts_hent hg.1 hg.2) (ts_cl_at hfo.1) k hfo.2 (hwd (ts_wf_gd _ (List.mem_map.mpr ⟨_, hfm, rfl⟩))) (fun _ h => h) (ts_fs_at hg.1 hfo.2) hdec (kk _ _ _ hW hL hS (fun _ _ h => h))
        · cases hs
      · cases hs
    · cases hs
  | putfield x =>
    have hlen : len = 3 := hlen
    subst hlen
    unfold ts_step at hs
    dsimp only at hs
    split at hs
    · next c2 k hf =>
      split at hs
      · cases hs
      · next hfin0 =>
        have hfm := ts_fld_of hf
        have hfo := List.all_eq_true.mp ts_fL_ok _ hfm
        simp only [Bool.and_eq_true, decide_eq_true_eq] at hfo
        have hlink := hwd (ts_wf_gd _ (List.mem_map.mpr ⟨_, hfm, rfl⟩))
        split at hs
        · next v a r =>
          split at hs
          · next hg =>
            cases hs
            obtain ⟨hsh, ha, hty⟩ := hg
            have hir : ts_isr (ts_ty c2 k) = false := by rcases hty with q | ⟨q, -⟩ <;> rw [q] <;> rfl
            have hnf : narrow (ts_ty c2 k) (.int v) = .int v ∧ fits (ts_ty c2 k) (.int v) = true := ts_nf (by rcases hty with q | ⟨q, r⟩; exact Or.inl q; exact Or.inr ⟨q, r⟩)
            have fin2 : ∀ (H1 : Heap) (locs1 : List Loc), va_P D ts_cl ((ts_w B cA M).set a (B + a, .inr (c2, (ts_fs B M a).set k (.int v)))) H1 → va_D A ((ts_w B cA M).set a (B + a, .inr (c2, (ts_fs B M a).set k (.int v)))) → va_S A H0 H1 locs1 → W p l e R s m args below meth c H1 locs1 (k0 + (M.2.2.2 - N0)) (z0 + (ts_sz M.2.2.2 - ts_sz N0)) Q (F0 m (pc + 3) sl (st'.map (ts_val B))) := fun H1 locs1 hP1 _ hS1 => kk _ _ _ ⟨by rw [← ts_w_putI ha hsh hfo.2 hir]; exact hP1, hW.2⟩ hL hS1 (fun _ _ h => h)
            by_cases hfin : (ts_T c2 k).2.2.2 = true
            · obtain ⟨hi1, hi2⟩ := ts_fin hfin0 hfin
              subst hi2
              exact va_putF hx hb hts (hin _ hfo.1) (ts_ty _) (ts_ty_ok hfo.1) (ts_nm hfo.1) hown2 hK hW.1 (ts_D hA0 hW.2) hS a (ts_hent hsh ha) (ts_cl_at hfo.1) k hfo.2 hlink (fun _ h => h) hfin (by rw [hnm]; exact hi1) (ts_decl hfo.1 hfo.2) (ts_ty_ok hfo.1 k hfo.2) hnf.1 hnf.2 (by rw [ts_fs_len hsh]; exact hfo.2) hdec fin2
            · exact va_put hx hb hts (hin _ hfo.1) (ts_ty _) (ts_ty_ok hfo.1) (ts_nm hfo.1) hown2 hK hW.1 (ts_D hA0 hW.2) hS a (ts_hent hsh ha) (ts_cl_at hfo.1) k hfo.2 hlink (fun _ h => h) (by simpa using hfin) (ts_ty_ok hfo.1 k hfo.2) hnf.1 hnf.2 (by rw [ts_fs_len hsh]; exact hfo.2) hdec fin2
          · cases hs
        · next o a r =>
          split at hs
          · next hg =>
            cases hs
            obtain ⟨hsh, ha, hir, -⟩ := hg
            have hnf : narrow (ts_ty c2 k) (va_rf ((some o).map fun q => B + q)) = va_rf ((some o).map fun q => B + q) ∧ fits (ts_ty c2 k) (va_rf ((some o).map fun q => B + q)) = true := ts_nfR hir
            have fin2 : ∀ (H1 : Heap) (locs1 : List Loc), va_P D ts_cl ((ts_w B cA M).set a (B + a, .inr (c2, (ts_fs B M a).set k (va_rf ((some o).map fun q => B + q))))) H1 → va_D A ((ts_w B cA M).set a (B + a, .inr (c2, (ts_fs B M a).set k (va_rf ((some o).map fun q => B + q))))) → va_S A H0 H1 locs1 → W p l e R s m args below meth c H1 locs1 (k0 + (M.2.2.2 - N0)) (z0 + (ts_sz M.2.2.2 - ts_sz N0)) Q (F0 m (pc + 3) sl (st'.map (ts_val B))) := fun H1 locs1 hP1 _ hS1 => kk _ _ _ ⟨by rw [← ts_w_putR ha hsh hfo.2 hir]; exact hP1, hW.2⟩ hL hS1 (fun _ _ h => h)
            by_cases hfin : (ts_T c2 k).2.2.2 = true
            · obtain ⟨hi1, hi2⟩ := ts_fin hfin0 hfin
              subst hi2
              exact va_putF hx hb hts (hin _ hfo.1) (ts_ty _) (ts_ty_ok hfo.1) (ts_nm hfo.1) hown2 hK hW.1 (ts_D hA0 hW.2) hS a (ts_hent hsh ha) (ts_cl_at hfo.1) k hfo.2 hlink (fun _ h => h) hfin (by rw [hnm]; exact hi1) (ts_decl hfo.1 hfo.2) (ts_ty_ok hfo.1 k hfo.2) hnf.1 hnf.2 (by rw [ts_fs_len hsh]; exact hfo.2) hdec fin2
            · exact va_put hx hb hts (hin _ hfo.1) (ts_ty _) (ts_ty_ok hfo.1) (ts_nm hfo.1) hown2 hK hW.1 (ts_D hA0 hW.2) hS a (ts_hent hsh ha) (ts_cl_at hfo.1) k hfo.2 hlink (fun _ h => h) (by simpa using hfin) (ts_ty_ok hfo.1 k hfo.2) hnf.1 hnf.2 (by rw [ts_fs_len hsh]; exact hfo.2) hdec fin2
          · cases hs
        · cases hs
    · cases hs
  | iaload =>
    have hlen : len = 1 := hlen
    subst hlen
    unfold ts_step at hs
    dsimp only at hs
    split at hs
    · next j a r =>
      split at hs
      · next hg =>
        cases hs
        obtain ⟨h1, ha, hj, hl⟩ := hg
        exact va_iald hx hb hK hW.1 a 0 (by rw [ts_w_at ha, ts_ent_1 h1]) rfl (ts_vin hj hl) hdec (kk _ _ _ hW hL hS (fun _ _ h => h))
      · cases hs
    · cases hs
  | baload =>
    have hlen : len = 1 := hlen
    subst hlen
    unfold ts_step at hs
    dsimp only at hs
    split at hs
    · next j a r =>
      split at hs
      · next hg =>
        cases hs
        obtain ⟨h1, ha, hj, hl⟩ := hg
        exact va_bald hx hb hK hW.1 a 1 (by rw [ts_w_at ha, ts_ent_2 h1]) rfl (ts_vin hj hl) hdec (kk _ _ _ hW hL hS (fun _ _ h => h))
      · cases hs
    · cases hs
  | laload =>
    have hlen : len = 1 := hlen
    subst hlen
    unfold ts_step at hs
    dsimp only at hs
    split at hs
    · next j a r =>
      split at hs
      · next hg =>
        exact absurd hg.1 (ts_no3 a)
      · cases hs
    · cases hs
  | iastore =>
    have hlen : len = 1 := hlen
    subst hlen
    unfold ts_step at hs
    dsimp only at hs
    split at hs
    · next v j a r =>
      split at hs
      · next hg =>
        cases hs
        obtain ⟨h1, ha, hj, hl⟩ := hg
        exact va_iast hx hb hK hW.1 (ts_D hA0 hW.2) hS a 0 (by rw [ts_w_at ha, ts_ent_1 h1]) rfl (ts_vin hj hl) hdec (fun H1 locs1 hP1 _ hS1 => kk _ _ _ ⟨by rw [← ts_w_astI ha h1]; exact hP1, hW.2⟩ hL hS1 (fun _ _ h => h))
      · cases hs
    · cases hs
  | bastore =>
    have hlen : len = 1 := hlen
    subst hlen
    unfold ts_step at hs
    dsimp only at hs
    split at hs
    · next v j a r =>
      split at hs
      · next hg =>
        cases hs
        obtain ⟨h1, ha, hj, hl⟩ := hg
        exact va_bast hx hb hK hW.1 (ts_D hA0 hW.2) hS a 1 (by rw [ts_w_at ha, ts_ent_2 h1]) rfl (ts_vin hj hl) hdec (fun H1 locs1 hP1 _ hS1 => kk _ _ _ ⟨by rw [← ts_w_astB ha h1]; exact hP1, hW.2⟩ hL hS1 (fun _ _ h => h))
      · cases hs
    · cases hs
  | lastore =>
    have hlen : len = 1 := hlen
    subst hlen
    unfold ts_step at hs
    dsimp only at hs
    split at hs
    · next v j a r =>
      split at hs
      · next hg =>
        exact absurd hg.1 (ts_no3 a)
      · cases hs
    · cases hs
  | aaload =>
    have hlen : len = 1 := hlen
    subst hlen
    unfold ts_step at hs
    dsimp only at hs
    split at hs
    · next j a r =>
      split at hs
      · next hg =>
        cases hs
        obtain ⟨h1, ha, hj, hl⟩ := hg
        rcases h1 with h1 | h1
        · exact va_aldq (cA := cA 3) (C := RX4) (n := (ts_sh a).2) (f := fun j => (M.2.2.1 a j).map fun q => B + q) hx hb hK hW.1 a 3 (by rw [ts_w_at ha, ts_ent_4 h1]) rfl (ts_vin hj hl) hdec (kk _ _ _ hW hL hS (fun _ _ h => h))
        · exact va_aldq (cA := cA 4) (C := RX2) (n := (ts_sh a).2) (f := fun j => (M.2.2.1 a j).map fun q => B + q) hx hb hK hW.1 a 4 (by rw [ts_w_at ha, ts_ent_5 h1]) rfl (ts_vin hj hl) hdec (kk _ _ _ hW hL hS (fun _ _ h => h))
      · cases hs
    · cases hs
  | aastore =>
    have hlen : len = 1 := hlen
    subst hlen
    unfold ts_step at hs
    dsimp only at hs
    split at hs
    · next v j a r =>
      split at hs
      · next hg =>
        cases hs
        obtain ⟨h1, hv, ha, hj, hl⟩ := hg
        rcases h1 with ⟨h1, h2⟩ | ⟨h1, h2⟩
        · exact va_astq hx hb hK hW.1 (ts_D hA0 hW.2) hS a 3 v 4 (r := (RX4, TX4, 14)) (by rw [ts_w_at ha, ts_ent_4 h1]) rfl (ts_hent h2 hv) rfl (ts_vin hj hl) hdec (fun H1 locs1 hP1 _ hS1 => kk _ _ _ ⟨by rw [← ts_w_astQ ha h1]; exact hP1, hW.2⟩ hL hS1 (fun _ _ h => h))
        · exact va_astq hx hb hK hW.1 (ts_D hA0 hW.2) hS a 4 v 2 (r := (RX2, TX2, 7)) (by rw [ts_w_at ha, ts_ent_5 h1]) rfl (ts_hent h2 hv) rfl (ts_vin hj hl) hdec (fun H1 locs1 hP1 _ hS1 => kk _ _ _ ⟨by rw [← ts_w_astQ5 ha h1]; exact hP1, hW.2⟩ hL hS1 (fun _ _ h => h))
      · cases hs
    · cases hs
  | arraylength =>
    have hlen : len = 1 := hlen
    subst hlen
    unfold ts_step at hs
    dsimp only at hs
    split at hs
    · next a r =>
      split at hs
      · next hg =>
        cases hs
        obtain ⟨h1, h2, ha⟩ := hg
        have h9 : (ts_sh a).1 = 1 ∨ (ts_sh a).1 = 2 ∨ (ts_sh a).1 = 3 ∨ (ts_sh a).1 = 4 ∨ (ts_sh a).1 = 5 := by omega
        rcases h9 with h | h | h | h | h
        · exact va_alen (cA := cA 0) (x := ((ts_sh a).2, .inl (M.1 a))) (ty := .int) hx hb hK hW.1 a 0 (by rw [ts_w_at ha, ts_ent_1 h]) rfl rfl hdec (kk _ _ _ hW hL hS (fun _ _ h => h))
        · exact va_alen (cA := cA 1) (x := ((ts_sh a).2, .inl (M.1 a))) (ty := .byte) hx hb hK hW.1 a 1 (by rw [ts_w_at ha, ts_ent_2 h]) rfl rfl hdec (kk _ _ _ hW hL hS (fun _ _ h => h))
        · exact absurd h (ts_no3 a)
        · exact va_alen (cA := cA 3) (x := ((ts_sh a).2, .inr (.inr (.inr (.inr fun j => (M.2.2.1 a j).map fun q => B + q))))) (ty := .object RX4) hx hb hK hW.1 a 3 (by rw [ts_w_at ha, ts_ent_4 h]) rfl rfl hdec (kk _ _ _ hW hL hS (fun _ _ h => h))
        · exact va_alen (cA := cA 4) (x := ((ts_sh a).2, .inr (.inr (.inr (.inr fun j => (M.2.2.1 a j).map fun q => B + q))))) (ty := .object RX2) hx hb hK hW.1 a 4 (by rw [ts_w_at ha, ts_ent_5 h]) rfl rfl hdec (kk _ _ _ hW hL hS (fun _ _ h => h))
      · cases hs
    · cases hs
  | invokevirtual x =>
    have hlen : len = 3 := hlen
    subst hlen
    unfold ts_step at hs
    dsimp only at hs
    split at hs
    · next y n z hc =>
      split at hs
      · next b r hst =>
        split at hs
        · next hg =>
          obtain ⟨hsb, hbn, hn1, hr4⟩ := hg
          obtain ⟨v, hcl, rfl, rfl, rfl⟩ := ts_back_of hs
          obtain ⟨hM, hMM⟩ := hcall _ _ _ _ _ hcl
          have hcm := ts_cal_of hc
          have hok := List.all_eq_true.mp ts_okC_all _ hcm
          unfold ts_okC at hok
          dsimp only at hok
          cases hq : ts_mL[y]? with
          | none => rw [hq] at hok; cases hok
          | some q =>
            have hcq : ts_cls y = q.2.2.2.2 := by unfold ts_cls; rw [hq]
            refine ts_callW hB0 hF hc hq hM (fun _ => ⟨b, _, rfl, fun _ => ⟨by rw [← hcq]; exact hsb, hbn⟩⟩) (by rw [if_neg (by decide)]; simp; omega) hL.1 (r := r) ?_ hr4 hdec hN hMM hle hW hS (fun H1 locs1 hW1 hS1 => ?_)
            · rw [List.reverse_cons, List.reverse_reverse, List.append_assoc, List.singleton_append, ← hst, List.take_append_drop]
            · have := kk H1 locs1 sl hW1 hL hS1 (fun _ _ h => h)
              rw [List.map_append] at this
              cases v <;> exact this
        · cases hs
      · cases hs
    · cases hs
  | invokespecial x =>
    have hlen : len = 3 := hlen
    subst hlen
    unfold ts_step at hs
    dsimp only at hs
    split at hs
    · next hbi =>
      split at hs
      · next b r =>
        split at hs
        · next hg =>
          cases hs
          exact W.objInit hx hb hown2 (hwd (ts_wo_gd _ (List.mem_map.mpr ⟨_, ts_bi1 hbi, rfl⟩))) (hwd (ts_wo2_gd _ (by simp [ts_wo2]))) (hwd (ts_wo2_gd _ (by simp [ts_wo2]))) rfl (by rw [hml]; exact hL.1) rfl hdec (by omega) (by exact Nat.le_trans (Nat.add_le_add_right (lv_room (m := m) (pc := pc) (ls := sl) (rest := List.map (ts_val B) (.inr (.inr (some b)) :: st')) (ts_sum (B := B) hg)) 12) (by omega)) (kk _ _ _ hW hL hS (fun _ _ h => h))
        · cases hs
      · cases hs
    · split at hs
      · next y n z hc =>
        split at hs
        · next b r hst =>
          split at hs
          · next hg =>
            obtain ⟨hn1, hr4⟩ := hg
            obtain ⟨v, hcl, rfl, rfl, rfl⟩ := ts_back_of hs
            obtain ⟨hM, hMM⟩ := hcall _ _ _ _ _ hcl
            have hcm := ts_cal_of hc
            have hok := List.all_eq_true.mp ts_okC_all _ hcm
            unfold ts_okC at hok
            dsimp only at hok
            cases hq : ts_mL[y]? with
            | none => rw [hq] at hok; cases hok
            | some q =>
              refine ts_callW hB0 hF hc hq hM (fun _ => ⟨b, _, rfl, fun h => absurd h (by decide)⟩) (by rw [if_neg (by decide)]; simp; omega) hL.1 (r := r) ?_ hr4 hdec hN hMM hle hW hS (fun H1 locs1 hW1 hS1 => ?_)
              · rw [List.reverse_cons, List.reverse_reverse, List.append_assoc, List.singleton_append, ← hst, List.take_append_drop]
              · have := kk H1 locs1 sl hW1 hL hS1 (fun _ _ h => h)
                rw [List.map_append] at this
                cases v <;> exact this
          · cases hs
        · cases hs
      · cases hs
  | invokestatic x =>
    have hlen : len = 3 := hlen
    subst hlen
    unfold ts_step at hs
    dsimp only at hs
    split at hs
    · next hbi =>
      split at hs
      · next y9 z9 r =>
        split at hs
        · next hg =>
          cases hs
          exact va_mmin hx hb (by rw [hml]; exact hL.1.symm) hown2 (hwd (ts_wy_gd _ (List.mem_map.mpr ⟨_, ts_bi2 hbi, rfl⟩))) (hwd (ts_wz_gd _ (by simp [ts_wz]))) (hwd (ts_wz_gd _ (by simp [ts_wz]))) (hwd (ts_wz_gd _ (by simp [ts_wz]))) (by omega) (by have := ts_sum (B := B) hg; omega) (by omega) (by have := ts_sz_le hN; have := ts_sz_le hle; omega) hdec (kk _ _ _ hW hL hS (fun _ _ h => h))
        · cases hs
      · cases hs
    · next hbi =>
      split at hs
      · next y9 z9 r =>
        split at hs
        · next hg =>
          cases hs
          exact va_mmax hx hb (by rw [hml]; exact hL.1.symm) hown2 (hwd (ts_wx_gd _ (List.mem_map.mpr ⟨_, ts_bi3 hbi, rfl⟩))) (hwd (ts_wz_gd _ (by simp [ts_wz]))) (hwd (ts_wz_gd _ (by simp [ts_wz]))) (hwd (ts_wz_gd _ (by simp [ts_wz]))) (by omega) (by have := ts_sum (B := B) hg; omega) (by omega) (by have := ts_sz_le hN; have := ts_sz_le hle; omega) hdec (kk _ _ _ hW hL hS (fun _ _ h => h))
        · cases hs
      · cases hs
    · split at hs
      · next y n z hc =>
        split at hs
        · next hg =>
          obtain ⟨hn1, hr4⟩ := hg
          obtain ⟨v, hcl, rfl, rfl, rfl⟩ := ts_back_of hs
          obtain ⟨hM, hMM⟩ := hcall _ _ _ _ _ hcl
          have hcm := ts_cal_of hc
          have hok := List.all_eq_true.mp ts_okC_all _ hcm
          unfold ts_okC at hok
          dsimp only at hok
          cases hq : ts_mL[y]? with
          | none => rw [hq] at hok; cases hok
          | some q =>
            refine ts_callW hB0 hF hc hq hM (fun h => absurd rfl h) (by rw [if_pos rfl]; simp; omega) hL.1 (r := st.drop n) ?_ hr4 hdec hN hMM hle hW hS (fun H1 locs1 hW1 hS1 => ?_)
            · rw [List.reverse_reverse, List.take_append_drop]
            · have := kk H1 locs1 sl hW1 hL hS1 (fun _ _ h => h)
              rw [List.map_append] at this
              cases v <;> exact this
        · cases hs
      · cases hs
  | new x =>
    have hlen : len = 3 := hlen
    subst hlen
    unfold ts_step at hs
    dsimp only at hs
    split at hs
    · next c2 hck =>
      split at hs
      · next hg =>
        cases hs
        obtain ⟨hsh, hlt⟩ := hg
        have hkm := ts_cK_of hck
        have hko := List.all_eq_true.mp ts_kL_ok _ hkm
        simp only [decide_eq_true_eq] at hko
        have hz1 : ts_sz1 M.2.2.2 = ts_N c2 := by unfold ts_sz1; rw [hsh]; rfl
        have hle : M.2.2.2 + 1 ≤ N1 := hle
        have h9 := ts_sz_le hle
        have h8 := ts_sz_le hN
        have hA9 := hA1.resolve_left (by omega)
        rw [ts_sz_succ, hz1] at h9
        have hcl : (Cond.classLink (ts_cn Y.2.2.2.2) x (ts_cn c2)).before args s = true := hwd (ts_wK_gd _ (List.mem_map.mpr ⟨_, hkm, rfl⟩))
        refine va_new (fs := ts_fs B (ts_new M) M.2.2.2) hx hb hts (hin c2 hko) (ts_ty c2) (ts_ty_ok hko) hown2 hcl (hwd (ts_wL_gd _ (List.mem_map.mpr ⟨c2, List.mem_range.mpr hko, rfl⟩))) (hwd (ts_wM_gd _ (List.mem_map.mpr ⟨c2, List.mem_range.mpr hko, rfl⟩))) hK hW.1 (ts_D hA0 hW.2) hS (fun q h => (hA9 q).mpr (Nat.le_trans hB0 h)) (ts_cl_at hko) (ts_new_fs hsh hko) (by omega) (by omega) hdec (fun q H1 hP1 hD1 hS1 => ?_)
        intro T hT X
        have hq : q = B + M.2.2.2 := ts_fresh hF hN hlt hW hS hT (by rw [show k0 + (M.2.2.2 - N0) + 1 = k0 + (M.2.2.2 + 1 - N0) by omega] at X; exact X) hP1 hD1
        subst hq
        have := kk H1 locs sl ⟨by rw [ts_w_new, ts_ent_0 hsh]; exact hP1, Nat.succ_le_of_lt hlt⟩ hL hS1 (fun _ _ h => h)
        rw [show (ts_new M).2.2.2 = M.2.2.2 + 1 from rfl, ts_sz_succ, hz1, show k0 + (M.2.2.2 + 1 - N0) = k0 + (M.2.2.2 - N0) + 1 by omega, show z0 + (ts_sz M.2.2.2 + ts_N c2 - ts_sz N0) = z0 + (ts_sz M.2.2.2 - ts_sz N0) + ts_N c2 by omega] at this
        exact this T hT X
      · cases hs
    · cases hs
  | newarray t =>
    have hlen : len = 2 := hlen
    subst hlen
    unfold ts_step at hs
    dsimp only at hs
    split at hs
    · next n r =>
      split at hs
      · next hg =>
        cases hs
        obtain ⟨hty, h0, hbig, hlt⟩ := hg
        have hz1 : ts_sz1 M.2.2.2 = n.toNatClampNeg := by unfold ts_sz1; rcases hty with ⟨-, q⟩ | ⟨-, q⟩ | ⟨-, q⟩ <;> rw [q] <;> rfl
        have hle : M.2.2.2 + 1 ≤ N1 := hle
        have h9 := ts_sz_le hle
        have h8 := ts_sz_le hN
        have hA9 := hA1.resolve_left (by omega)
        rw [ts_sz_succ, hz1] at h9
        have fin2 : ∀ (q : Nat) (e9 : va_E) (H1 : Heap), ts_ent B cA (ts_new M) M.2.2.2 = e9 → va_P D ts_cl (ts_w B cA M ++ [(q, e9)]) H1 → va_D A (ts_w B cA M ++ [(q, e9)]) → va_S A H0 H1 locs → W p l e R s m args below meth c H1 locs (k0 + (M.2.2.2 - N0) + 1) (z0 + (ts_sz M.2.2.2 - ts_sz N0) + n.toNatClampNeg) Q (F0 m (pc + 2) sl (.ref q :: r.map (ts_val B))) := by
          intro q e9 H1 he9 hP1 hD1 hS1 T hT X
          have hq : q = B + M.2.2.2 := ts_fresh hF hN hlt hW hS hT (by rw [show k0 + (M.2.2.2 - N0) + 1 = k0 + (M.2.2.2 + 1 - N0) by omega] at X; exact X) hP1 hD1
          subst hq
          have := kk H1 locs sl ⟨by rw [ts_w_new, he9]; exact hP1, Nat.succ_le_of_lt hlt⟩ hL hS1 (fun _ _ h => h)
          rw [show (ts_new M).2.2.2 = M.2.2.2 + 1 from rfl, ts_sz_succ, hz1, show k0 + (M.2.2.2 + 1 - N0) = k0 + (M.2.2.2 - N0) + 1 by omega, show z0 + (ts_sz M.2.2.2 + n.toNatClampNeg - ts_sz N0) = z0 + (ts_sz M.2.2.2 - ts_sz N0) + n.toNatClampNeg by omega] at this
          exact this T hT X
        have hn0 : ¬ n < 0 := fun q => ts_vin0 h0 q
        have hcb : k0 + (M.2.2.2 - N0) + 1 ≤ R.cells := by omega
        have hsb : z0 + (ts_sz M.2.2.2 - ts_sz N0) + n.toNatClampNeg ≤ R.slots := by omega
        rcases hty with ⟨rfl, q⟩ | ⟨rfl, q⟩ | ⟨rfl, q⟩
        · refine va_newa (atype := .int) (ty := .int) (a0 := (n.toNatClampNeg, .inl fun _ => 0)) hx hb (hwd (ts_wA_gd (.arrayClass .int) (by simp [ts_wA]))) rfl hK hW.1 (ts_D hA0 hW.2) hS (fun q h => (hA9 q).mpr (Nat.le_trans hB0 h)) (fun _ => rfl) hn0 rfl (by show _ * 4 ≤ _; omega) hcb hsb hdec (fun q9 cA9 H1 hK1 hP1 hD1 hS1 => ?_)
          have hc9 : cA9 = cA 0 := Option.some.inj ((hK1.2 5 (cA9, .int) rfl).2.symm.trans (hK.2 0 _ rfl).2)
          subst hc9
          exact fin2 q9 _ H1 (by rw [ts_ent_1 (by rw [q]), q]; simp only [ts_new, ts_fr_self]) hP1 hD1 hS1
        · refine va_newa (atype := .byte) (ty := .byte) (a0 := (n.toNatClampNeg, .inl fun _ => 0)) hx hb (hwd (ts_wA_gd (.arrayClass .byte) (by simp [ts_wA]))) rfl hK hW.1 (ts_D hA0 hW.2) hS (fun q h => (hA9 q).mpr (Nat.le_trans hB0 h)) (fun _ => rfl) hn0 rfl (by show _ * 1 ≤ _; omega) hcb hsb hdec (fun q9 cA9 H1 hK1 hP1 hD1 hS1 => ?_)
          have hc9 : cA9 = cA 1 := Option.some.inj ((hK1.2 5 (cA9, .byte) rfl).2.symm.trans (hK.2 1 _ rfl).2)
          subst hc9
          exact fin2 q9 _ H1 (by rw [ts_ent_2 (by rw [q]), q]; simp only [ts_new, ts_fr_self]) hP1 hD1 hS1
        · exact absurd (by rw [q]) (ts_no3 M.2.2.2)
      · cases hs
    · cases hs
  | anewarray x =>
    have hlen : len = 3 := hlen
    subst hlen
    unfold ts_step at hs
    dsimp only at hs
    split at hs
    · next n r =>
      split at hs
      · next hg =>
        cases hs
        obtain ⟨hty, h0, hbig, hlt⟩ := hg
        have hz1 : ts_sz1 M.2.2.2 = n.toNatClampNeg := by unfold ts_sz1; rcases hty with ⟨-, q⟩ | ⟨-, q⟩ <;> rw [q] <;> rfl
        have hle : M.2.2.2 + 1 ≤ N1 := hle
        have h9 := ts_sz_le hle
        have h8 := ts_sz_le hN
        have hA9 := hA1.resolve_left (by omega)
        rw [ts_sz_succ, hz1] at h9
        have fin2 : ∀ (q : Nat) (e9 : va_E) (H1 : Heap), ts_ent B cA (ts_new M) M.2.2.2 = e9 → va_P D ts_cl (ts_w B cA M ++ [(q, e9)]) H1 → va_D A (ts_w B cA M ++ [(q, e9)]) → va_S A H0 H1 locs → W p l e R s m args below meth c H1 locs (k0 + (M.2.2.2 - N0) + 1) (z0 + (ts_sz M.2.2.2 - ts_sz N0) + n.toNatClampNeg) Q (F0 m (pc + 3) sl (.ref q :: r.map (ts_val B))) := by
          intro q e9 H1 he9 hP1 hD1 hS1 T hT X
          have hq : q = B + M.2.2.2 := ts_fresh hF hN hlt hW hS hT (by rw [show k0 + (M.2.2.2 - N0) + 1 = k0 + (M.2.2.2 + 1 - N0) by omega] at X; exact X) hP1 hD1
          subst hq
          have := kk H1 locs sl ⟨by rw [ts_w_new, he9]; exact hP1, Nat.succ_le_of_lt hlt⟩ hL hS1 (fun _ _ h => h)
          rw [show (ts_new M).2.2.2 = M.2.2.2 + 1 from rfl, ts_sz_succ, hz1, show k0 + (M.2.2.2 + 1 - N0) = k0 + (M.2.2.2 - N0) + 1 by omega, show z0 + (ts_sz M.2.2.2 + n.toNatClampNeg - ts_sz N0) = z0 + (ts_sz M.2.2.2 - ts_sz N0) + n.toNatClampNeg by omega] at this
          exact this T hT X
        have hn0 : ¬ n < 0 := fun q => ts_vin0 h0 q
        have hcb : k0 + (M.2.2.2 - N0) + 1 ≤ R.cells := by omega
        have hsb : z0 + (ts_sz M.2.2.2 - ts_sz N0) + n.toNatClampNeg ≤ R.slots := by omega
        rcases hty with ⟨hck, q⟩ | ⟨hck, q⟩
        · refine va_newq hx hb hown2 (hwd (ts_wK_gd (Cond.classLink (ts_cn Y.2.2.2.2) x RX4) (List.mem_map.mpr ⟨_, ts_cK_of hck, rfl⟩))) hA4 hK hW.1 (ts_D hA0 hW.2) hS (fun q h => (hA9 q).mpr (Nat.le_trans hB0 h)) hn0 rfl (by omega) hcb hsb hdec (fun q9 cA9 H1 hK1 hP1 hD1 hS1 => ?_)
          obtain ⟨_, _, _, _, _, f1⟩ := (hK1.2 5 (cA9, .object RX4) rfl).2
          obtain ⟨_, _, _, _, _, f2⟩ := (hK.2 3 _ rfl).2
          have hc9 : cA9 = cA 3 := Option.some.inj (f1.symm.trans f2)
          subst hc9
          exact fin2 q9 _ H1 (by rw [ts_ent_4 (by rw [q]), q]; simp [ts_new, ts_fr]) hP1 hD1 hS1
        · refine va_newq hx hb hown2 (hwd (ts_wK_gd (Cond.classLink (ts_cn Y.2.2.2.2) x RX2) (List.mem_map.mpr ⟨_, ts_cK_of hck, rfl⟩))) hA2 hK hW.1 (ts_D hA0 hW.2) hS (fun q h => (hA9 q).mpr (Nat.le_trans hB0 h)) hn0 rfl (by omega) hcb hsb hdec (fun q9 cA9 H1 hK1 hP1 hD1 hS1 => ?_)
          obtain ⟨_, _, _, _, _, f1⟩ := (hK1.2 5 (cA9, .object RX2) rfl).2
          obtain ⟨_, _, _, _, _, f2⟩ := (hK.2 4 _ rfl).2
          have hc9 : cA9 = cA 4 := Option.some.inj (f1.symm.trans f2)
          subst hc9
          exact fin2 q9 _ H1 (by rw [ts_ent_5 (by rw [q]), q]; simp [ts_new, ts_fr]) hP1 hD1 hS1
      · cases hs
    · cases hs
  | ireturn =>
    clear hlen
    unfold ts_step at hs
    dsimp only at hs
    repeat (split at hs)
    all_goals (cases hs)
  | lreturn =>
    clear hlen
    unfold ts_step at hs
    dsimp only at hs
    repeat (split at hs)
    all_goals (cases hs)
  | return_ =>
    clear hlen
    unfold ts_step at hs
    dsimp only at hs
    repeat (split at hs)
    all_goals (cases hs)
  | areturn =>
    clear hlen
    unfold ts_step at hs
    dsimp only at hs
    repeat (split at hs)
    all_goals (cases hs)
  | _ => cases (show (none : Option (ts_F ⊕ ts_R)) = some (.inl (pc', ls', st', M')) from hs)
end STEP

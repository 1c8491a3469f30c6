/-! ===== what the tables say, entry by entry ===== -/
theorem ts_in_of {ws : List Cond} {is : List Nat} (h : ws.map some = is.map (fun i => lw_tbl[i]?)) : ∀ w ∈ ws, w ∈ lw_tbl := by
  intro w hw
  have h1 : some w ∈ is.map (fun i => lw_tbl[i]?) := h ▸ List.mem_map_of_mem hw
  obtain ⟨i, -, hi⟩ := List.mem_map.mp h1
  exact List.mem_of_getElem? hi
def ts_gd (w : Cond) : Prop := w ∈ lw_tbl ∧ goodWord w = true
def ts_tb : List Cond := lw_tbl.filter goodWord
theorem ts_gd_in {w : Cond} (h : ts_gd w) : w ∈ ts_tb := List.mem_filter.mpr h
def ts_ws (Y : ts_Y) : List Cond := ts_cw Y :: ts_tb
theorem ts_cw_good (Y : ts_Y) : goodWord (ts_cw Y) = true := by first | rfl | simp [ts_cw, goodWord, Cond.onTables, Cond.keeps]
theorem ts_ws_good {Y Z : ts_Y} (hZ : Z ∈ ts_mL) : GoodIn (ts_ws Y) (ts_ws Z) := by
  intro w hw
  rcases List.mem_cons.mp hw with rfl | hw
  · exact ⟨List.mem_cons_of_mem _ (ts_gd_in ⟨ts_wm_in _ hZ, ts_cw_good _⟩), good_of_word (ts_cw_good _)⟩
  · exact ⟨List.mem_cons_of_mem _ hw, good_of_word (List.mem_filter.mp hw).2⟩
theorem ts_wf_gd : ∀ w ∈ ts_wf, ts_gd w := by
  intro w hw
  refine ⟨ts_in_of ts_wf_at w hw, ?_⟩
  obtain ⟨e, -, rfl⟩ := List.mem_map.mp hw
  first | rfl | simp [goodWord, Cond.onTables, Cond.keeps]
theorem ts_wi_gd : ∀ w ∈ ts_wi, ts_gd w := by
  intro w hw
  refine ⟨ts_in_of ts_wi_at w hw, ?_⟩
  obtain ⟨e, -, rfl⟩ := List.mem_map.mp hw
  first | rfl | simp [goodWord, Cond.onTables, Cond.keeps]
theorem ts_wk_gd : ∀ w ∈ ts_wk, ts_gd w := by
  intro w hw
  refine ⟨ts_in_of ts_wk_at w hw, ?_⟩
  obtain ⟨e, -, rfl⟩ := List.mem_map.mp hw
  split <;> first | rfl | simp [goodWord, Cond.onTables, Cond.keeps]
theorem ts_tt_notin : (Cond.tt ∈ lw_tbl) → False := by
  intro h
  have h1 : lw_tbl.all (fun w => match w with | .tt => false | _ => true) = true := by decide +kernel
  have h2 := List.all_eq_true.mp h1 _ h
  cases h2
theorem ts_wv_gd : ∀ w ∈ ts_wv, ts_gd w := by
  intro w hw
  have h0 := ts_in_of ts_wv_at w hw
  refine ⟨h0, ?_⟩
  obtain ⟨e, -, rfl⟩ := List.mem_map.mp hw
  revert h0
  split
  · intro _; first | rfl | simp [goodWord, Cond.onTables, Cond.keeps]
  · intro h; exact (ts_tt_notin h).elim
theorem ts_wc_gd : ∀ w ∈ ts_wc, ts_gd w := by
  intro w hw
  have h0 := ts_in_of ts_wc_at w hw
  refine ⟨h0, ?_⟩
  obtain ⟨e, -, rfl⟩ := List.mem_map.mp hw
  revert h0
  split
  · intro _; first | rfl | simp [goodWord, Cond.onTables, Cond.keeps]
  · intro h; exact (ts_tt_notin h).elim
theorem ts_wo_gd : ∀ w ∈ ts_wo, ts_gd w := by
  intro w hw
  refine ⟨ts_in_of ts_wo_at w hw, ?_⟩
  obtain ⟨e, -, rfl⟩ := List.mem_map.mp hw
  first | rfl | simp [goodWord, Cond.onTables, Cond.keeps]
theorem ts_wx_gd : ∀ w ∈ ts_wx, ts_gd w := by
  intro w hw
  refine ⟨ts_in_of ts_wx_at w hw, ?_⟩
  obtain ⟨e, -, rfl⟩ := List.mem_map.mp hw
  first | rfl | simp [goodWord, Cond.onTables, Cond.keeps]
theorem ts_wy_gd : ∀ w ∈ ts_wy, ts_gd w := by
  intro w hw
  refine ⟨ts_in_of ts_wy_at w hw, ?_⟩
  obtain ⟨e, -, rfl⟩ := List.mem_map.mp hw
  first | rfl | simp [goodWord, Cond.onTables, Cond.keeps]
theorem ts_wI_gd : ∀ w ∈ ts_wI, ts_gd w := by
  intro w hw
  refine ⟨ts_in_of ts_wI_at w hw, ?_⟩
  obtain ⟨e, -, rfl⟩ := List.mem_map.mp hw
  first | rfl | simp [goodWord, Cond.onTables, Cond.keeps]
theorem ts_wJ_gd : ∀ w ∈ ts_wJ, ts_gd w := by
  intro w hw
  refine ⟨ts_in_of ts_wJ_at w hw, ?_⟩
  obtain ⟨e, -, rfl⟩ := List.mem_map.mp hw
  first | rfl | simp [goodWord, Cond.onTables, Cond.keeps]
theorem ts_wK_gd : ∀ w ∈ ts_wK, ts_gd w := by
  intro w hw
  refine ⟨ts_in_of ts_wK_at w hw, ?_⟩
  obtain ⟨e, -, rfl⟩ := List.mem_map.mp hw
  first | rfl | simp [goodWord, Cond.onTables, Cond.keeps]
theorem ts_wL_gd : ∀ w ∈ ts_wL, ts_gd w := by
  intro w hw
  refine ⟨ts_in_of ts_wL_at w hw, ?_⟩
  obtain ⟨e, -, rfl⟩ := List.mem_map.mp hw
  first | rfl | simp [goodWord, Cond.onTables, Cond.keeps]
theorem ts_wM_gd : ∀ w ∈ ts_wM, ts_gd w := by
  intro w hw
  refine ⟨ts_in_of ts_wM_at w hw, ?_⟩
  obtain ⟨e, -, rfl⟩ := List.mem_map.mp hw
  first | rfl | simp [goodWord, Cond.onTables, Cond.keeps]
theorem ts_wl_gd : ∀ w ∈ ts_wl, ts_gd w := by
  intro w hw
  refine ⟨ts_in_of ts_wl_at w hw, ?_⟩
  obtain ⟨c, -, hc⟩ := List.mem_flatMap.mp hw
  obtain ⟨k, -, rfl⟩ := List.mem_map.mp hc
  unfold u_lay
  split <;> first | rfl | simp [goodWord, Cond.onTables, Cond.keeps]
theorem ts_wo2_gd : ∀ w ∈ ts_wo2, ts_gd w := fun w hw => ⟨ts_in_of ts_wo2_at w hw, List.all_eq_true.mp (show ts_wo2.all goodWord = true by decide +kernel) w hw⟩
theorem ts_wz_gd : ∀ w ∈ ts_wz, ts_gd w := fun w hw => ⟨ts_in_of ts_wz_at w hw, List.all_eq_true.mp (show ts_wz.all goodWord = true by decide +kernel) w hw⟩
theorem ts_wA_gd : ∀ w ∈ ts_wA.take 2, ts_gd w := fun w hw => ⟨ts_in_of ts_wA_at w (List.mem_of_mem_take hw), List.all_eq_true.mp (show (ts_wA.take 2).all goodWord = true by decide +kernel) w hw⟩
/-- what is so of each method -/
def ts_okY (q : ts_Y) : Bool := decide (q.1.cls = ts_cn q.2.2.2.2) && plainName q.1.cls && decide (q.2.2.1 ≤ 20) && decide (q.1.cls ≠ "java/lang/invoke/MethodHandle") && decide (q.1.cls ≠ "java/lang/invoke/VarHandle")
theorem ts_okY_all : ts_mL.all ts_okY = true := by decide +kernel
theorem ts_okY_of {q : ts_Y} (h : q ∈ ts_mL) : q.1.cls = ts_cn q.2.2.2.2 ∧ plainName q.1.cls = true ∧ q.2.2.1 ≤ 20 ∧ q.1.cls ≠ "java/lang/invoke/MethodHandle" ∧ q.1.cls ≠ "java/lang/invoke/VarHandle" := by
  have h1 := List.all_eq_true.mp ts_okY_all q h
  simp only [ts_okY, Bool.and_eq_true, decide_eq_true_eq] at h1
  exact ⟨h1.1.1.1.1, h1.1.1.1.2, h1.1.1.2, h1.1.2, h1.2⟩
/-- .. of each call -/
def ts_okC (e : Nat × Nat × Nat × Nat × Nat × Nat) : Bool := match ts_mL[e.2.2.1]? with
  | none => false
  | some q => decide ((parseMethodDescriptor q.1.desc).map (fun d => d.parameters.length) = some e.2.2.2.1) && decide (e.2.2.2.2.2 < 2) &&
    (if e.2.2.2.2.1 = 0 then decide (e.2.2.1 ∈ ts_vL) && !ts_st q else if e.2.2.2.2.1 = 1 then ts_st q else decide (e.2.2.2.2.1 = 2) && decide (q.1.name = "<init>") && decide (q.2.2.2.1 = none) && !ts_st q)
theorem ts_okC_all : ts_cL.all ts_okC = true := by decide +kernel
theorem ts_cal_of {o x y n k z : Nat} (h : ts_cal o x = some (y, n, k, z)) : (o, x, y, n, k, z) ∈ ts_cL := by
  unfold ts_cal at h
  cases hf : ts_cL.find? (fun e => e.1 == o && e.2.1 == x) with
  | none => rw [hf] at h; cases h
  | some e =>
    rw [hf] at h
    obtain ⟨a, b, c⟩ := e
    have h1 := List.find?_some hf
    have h2 := List.mem_of_find?_eq_some hf
    simp only [Bool.and_eq_true, beq_iff_eq] at h1
    simp only [Option.map_some, Option.some.injEq] at h
    rw [← h1.1, ← h1.2, ← h]
    exact h2
theorem ts_fld_of {o x c k : Nat} (h : ts_fld o x = some (c, k)) : (o, x, c, k) ∈ ts_fL := by
  unfold ts_fld at h
  cases hf : ts_fL.find? (fun e => e.1 == o && e.2.1 == x) with
  | none => rw [hf] at h; cases h
  | some e =>
    rw [hf] at h
    obtain ⟨a, b, c⟩ := e
    have h1 := List.find?_some hf
    have h2 := List.mem_of_find?_eq_some hf
    simp only [Bool.and_eq_true, beq_iff_eq] at h1
    simp only [Option.map_some, Option.some.injEq] at h
    rw [← h1.1, ← h1.2, ← h]
    exact h2
theorem ts_cI_of {o x : Nat} {v : Int32} (h : ts_cI o x = some v) : (o, x, v) ∈ ts_iL := by
  unfold ts_cI at h
  cases hf : ts_iL.find? (fun e => e.1 == o && e.2.1 == x) with
  | none => rw [hf] at h; cases h
  | some e =>
    rw [hf] at h
    obtain ⟨a, b, c⟩ := e
    have h1 := List.find?_some hf
    have h2 := List.mem_of_find?_eq_some hf
    simp only [Bool.and_eq_true, beq_iff_eq] at h1
    simp only [Option.map_some, Option.some.injEq] at h
    rw [← h1.1, ← h1.2, ← h]
    exact h2
theorem ts_cJ_of {o x : Nat} {v : Int64} (h : ts_cJ o x = some v) : (o, x, v) ∈ ts_jL := by
  unfold ts_cJ at h
  cases hf : ts_jL.find? (fun e => e.1 == o && e.2.1 == x) with
  | none => rw [hf] at h; cases h
  | some e =>
    rw [hf] at h
    obtain ⟨a, b, c⟩ := e
    have h1 := List.find?_some hf
    have h2 := List.mem_of_find?_eq_some hf
    simp only [Bool.and_eq_true, beq_iff_eq] at h1
    simp only [Option.map_some, Option.some.injEq] at h
    rw [← h1.1, ← h1.2, ← h]
    exact h2
theorem ts_cK_of {o x v : Nat} (h : ts_cK o x = some v) : (o, x, v) ∈ ts_kL := by
  unfold ts_cK at h
  cases hf : ts_kL.find? (fun e => e.1 == o && e.2.1 == x) with
  | none => rw [hf] at h; cases h
  | some e =>
    rw [hf] at h
    obtain ⟨a, b, c⟩ := e
    have h1 := List.find?_some hf
    have h2 := List.mem_of_find?_eq_some hf
    simp only [Bool.and_eq_true, beq_iff_eq] at h1
    simp only [Option.map_some, Option.some.injEq] at h
    rw [← h1.1, ← h1.2, ← h]
    exact h2
theorem ts_bi1 {o x : Nat} (h : ts_bi o x = 1) : (o, x) ∈ ts_oL := by
  unfold ts_bi at h
  by_cases h1 : ts_oL.any (fun e => e.1 == o && e.2 == x) = true
  · obtain ⟨e, he, h2⟩ := List.any_eq_true.mp h1
    simp only [Bool.and_eq_true, beq_iff_eq] at h2
    rw [← h2.1, ← h2.2]
    exact he
  · rw [if_neg h1] at h
    split at h
    · cases h
    · split at h <;> cases h
theorem ts_bi2 {o x : Nat} (h : ts_bi o x = 2) : (o, x) ∈ ts_nL := by
  unfold ts_bi at h
  split at h
  · cases h
  · by_cases h1 : ts_nL.any (fun e => e.1 == o && e.2 == x) = true
    · obtain ⟨e, he, h2⟩ := List.any_eq_true.mp h1
      simp only [Bool.and_eq_true, beq_iff_eq] at h2
      rw [← h2.1, ← h2.2]
      exact he
    · rw [if_neg h1] at h
      split at h <;> cases h
theorem ts_bi3 {o x : Nat} (h : ts_bi o x = 3) : (o, x) ∈ ts_xL := by
  unfold ts_bi at h
  split at h
  · cases h
  · split at h
    · cases h
    · by_cases h1 : ts_xL.any (fun e => e.1 == o && e.2 == x) = true
      · obtain ⟨e, he, h2⟩ := List.any_eq_true.mp h1
        simp only [Bool.and_eq_true, beq_iff_eq] at h2
        rw [← h2.1, ← h2.2]
        exact he
      · rw [if_neg h1] at h
        cases h
theorem ts_fL_ok : ts_fL.all (fun e => decide (e.2.2.1 < 12) && decide (e.2.2.2 < ts_N e.2.2.1)) = true := by decide +kernel
theorem ts_kL_ok : ts_kL.all (fun e => decide (e.2.2 < 12)) = true := by decide +kernel
def ts_cl : List vw_C := (List.range 12).map fun c => (ts_cn c, ts_T c, ts_N c)
theorem ts_cl_at {c : Nat} (h : c < 12) : ts_cl[c]? = some (ts_cn c, ts_T c, ts_N c) := by
  unfold ts_cl
  rw [List.getElem?_map, List.getElem?_range h]
  rfl
theorem ts_lay_in {c : Nat} (h : c < 12) : ∀ w ∈ u_ws (ts_cn c) (ts_T c) (ts_N c), w ∈ ts_tb := fun w hw => ts_gd_in (ts_wl_gd w (List.mem_flatMap.mpr ⟨c, List.mem_range.mpr h, hw⟩))
theorem ts_nm {c : Nat} (h : c < 12) : ∀ a, a < ts_N c → ∀ b, b < ts_N c → a ≠ b → (ts_T c a).2.1 ≠ (ts_T c b).2.1 := by
  match c, h with
  | 0, _ => exact nmX0
  | 1, _ => exact nmX1
  | 2, _ => exact nmX2
  | 3, _ => exact nmX3
  | 4, _ => exact nmX4
  | 5, _ => exact nmX5
  | 6, _ => exact nmX6
  | 7, _ => exact nmX7
  | 8, _ => exact nmX8
  | 9, _ => exact nmX9
  | 10, _ => exact nmX10
  | 11, _ => exact nmX11
  | n + 12, h => omega
theorem ts_ty_ok {c : Nat} (h : c < 12) : ∀ k, k < ts_N c → parseFieldDescriptor (ts_T c k).2.2.1 = some (ts_ty c k) := by
  match c, h with
  | 0, _ => exact tyX0_ok
  | 1, _ => exact tyX1_ok
  | 2, _ => exact tyX2_ok
  | 3, _ => exact tyX3_ok
  | 4, _ => exact tyX4_ok
  | 5, _ => exact tyX5_ok
  | 6, _ => exact tyX6_ok
  | 7, _ => exact tyX7_ok
  | 8, _ => exact tyX8_ok
  | 9, _ => exact tyX9_ok
  | 10, _ => exact tyX10_ok
  | 11, _ => exact tyX11_ok
  | n + 12, h => omega
def ts_Nw (U : State) : Prop := ∀ e ∈ ts_cL, e.2.2.2.2.2 = 1 → ∀ q, ts_mL[e.2.2.1]? = some q → va_Nw (.methodLinkNest (ts_cn e.1) e.2.1 q.1 RX11) U
theorem ts_Nw_warm {s U : State} (hW : s.WarmedH U.vm) (h : ts_Nw s) : ts_Nw U := fun e he h1 q hq => va_Nw.warmM hW (h e he h1 q hq)
theorem ts_Nw_same {u U : State} (hvm : u.vm = U.vm) (h : ts_Nw u) : ts_Nw U := fun e he h1 q hq => va_Nw.same rfl hvm (h e he h1 q hq)
theorem ts_Nw_of {args : Array Value} {s : State} (hts : ∀ w ∈ lw_tbl, w.before args s = true) : ts_Nw s := by
  intro e he h1 q hq
  refine va_Nw.of rfl (hts _ (ts_in_of ts_wn_at _ (List.mem_map.mpr ⟨e, List.mem_filter.mpr ⟨he, by simp [h1]⟩, ?_⟩)))
  simp only [hq]

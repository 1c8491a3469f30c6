/-! ===== what the law's premises give of the JDK ===== -/
def yw_0 : List Cond := [.sameMethod yJ5_ensureCapacityInternal_d00df.cls yJ5_ensureCapacityInternal_d00df.cls yJ5_ensureCapacityInternal_d00df.name yJ5_ensureCapacityInternal_d00df.desc, .sameMethod yJ5_newCapacity_0f7a4.cls yJ5_newCapacity_0f7a4.cls yJ5_newCapacity_0f7a4.name yJ5_newCapacity_0f7a4.desc, .sameMethod yJ5_putStringAt_47b60.cls yJ5_putStringAt_47b60.cls yJ5_putStringAt_47b60.name yJ5_putStringAt_47b60.desc, .sameMethod yJ5_inflateIfNeededFor_a7421.cls yJ5_inflateIfNeededFor_a7421.cls yJ5_inflateIfNeededFor_a7421.name yJ5_inflateIfNeededFor_a7421.desc,
  .privateMethod yJ5_ensureCapacityInternal_d00df, .privateMethod yJ5_newCapacity_0f7a4, .privateMethod yJ5_putStringAt_47b60, .privateMethod yJ5_inflateIfNeededFor_a7421,
  .instanceMethod yJ5_ensureCapacityInternal_d00df, .instanceMethod yJ5_newCapacity_0f7a4, .instanceMethod yJ5_putStringAt_47b60, .instanceMethod yJ5_inflateIfNeededFor_a7421,
  .laysStatic RJ0 "COMPACT_STRINGS" "Z", .laysStatic RJ3 "SIOOBE_FORMATTER" "Ljava/util/function/BiFunction;", .laysStatic RJ6 "DigitOnes" "[B", .laysStatic RJ6 "DigitTens" "[B",
  .initialized RJ0, .initialized RJ3, .initialized RJ6, .instantiable RJ4 4, .instantiable RJ0 4, .arrayClass .byte,
  .stringRef RL 82 "012301|", .stringRef RL 96 "-", .stringRef RL 104 ":", .stringRef RL 106 ",", .stringRef RL 108 ",0-3:9|", .stringRef RL 125 ""]
set_option maxRecDepth 100000 in
theorem yw_at : yw_0.map some = ([1330, 1331, 1332, 1333, 1157, 1161, 1207, 1211, 1158, 1162, 1208, 1212, 974, 990, 1254, 1256, 39, 44, 47, 1100, 1270, 1129, 1322, 1323, 1324, 1325, 1326, 1327] : List Nat).map (fun i => lw_tbl[i]?) := by decide +kernel
theorem yw_of {s : State} {args : Array Value} (hts : ∀ w ∈ lw_tbl, w.before args s = true) (k : Nat) {w : Cond} (h : yw_0[k]? = some w) : w.before args s = true := hts w (ts_in_of yw_at w (List.mem_of_getElem? h))
theorem ent_jgd {s : State} {args : Array Value} (hts : ∀ w ∈ lw_tbl, w.before args s = true) : ∀ w, jgd w → w.before args s = true := by
  obtain ⟨cC, kC, hfc, -⟩ := Cond.instantiable_spec (yw_of hts 19 (w := .instantiable RJ4 4) rfl)
  intro w hw
  rcases List.mem_append.mp hw.1 with h | h
  · exact hts w h
  · simp only [jsel, List.mem_cons, List.not_mem_nil, or_false] at h
    rcases h with rfl | rfl | rfl | rfl
    · exact j_selP ⟨by decide, by decide⟩ hfc (yw_of hts 0 rfl) (yw_of hts 4 rfl) (yw_of hts 8 rfl)
    · exact j_selP ⟨by decide, by decide⟩ hfc (yw_of hts 1 rfl) (yw_of hts 5 rfl) (yw_of hts 9 rfl)
    · exact j_selP ⟨by decide, by decide⟩ hfc (yw_of hts 2 rfl) (yw_of hts 6 rfl) (yw_of hts 10 rfl)
    · exact j_selP ⟨by decide, by decide⟩ hfc (yw_of hts 3 rfl) (yw_of hts 7 rfl) (yw_of hts 11 rfl)
theorem yz_ar {s : State} {args : Array Value} {ty : FieldType} (h : (Cond.arrayClass ty).before args s = true) : ∃ c : ClassId, ArrOfT s c ty ∧ s.vm.findClass ("[" ++ ty.toString) = some c := by
  obtain ⟨c, k, comp, h1, h2, h3⟩ := Cond.arrayClass_spec h
  exact ⟨c, fun n z => ⟨fun k h => (by cases h), k, h2, comp, h3⟩, h1⟩
theorem ent_K {s : State} {args : Array Value} (hts : ∀ w ∈ lw_tbl, w.before args s = true) : ∃ (D' : va_G) (cb : ClassId), va_K D' jcl [(cb, .byte)] s := by
  have hj : ∀ w ∈ j_tb, w.before args s = true := fun w hw => ent_jgd hts w ⟨(List.mem_filter.mp hw).1, (List.mem_filter.mp hw).2⟩
  obtain ⟨c4, i4, k4⟩ := u_known (C := RJ4) (T := TJ4) (N := 4) (n := 4) hj (fun w h => List.mem_filter.mpr ⟨(j_u4 w h).1, (j_u4 w h).2⟩) (yw_of hts 19 (w := .instantiable RJ4 4) rfl)
  obtain ⟨c0, i0, k0⟩ := u_known (C := RJ0) (T := TJ0) (N := 4) (n := 4) hj (fun w h => List.mem_filter.mpr ⟨(j_u0 w h).1, (j_u0 w h).2⟩) (yw_of hts 20 (w := .instantiable RJ0 4) rfl)
  obtain ⟨cb, a, b⟩ := yz_ar (yw_of hts 21 (w := .arrayClass .byte) rfl)
  refine ⟨(fun k => match k with | 0 => c4 | _ => c0, fun k => match k with | 0 => i4 | _ => i0), cb, fun k q hq => ?_, fun k q hq => ?_⟩
  · match k, hq with
    | 0, hq => cases hq; exact k4
    | 1, hq => cases hq; exact k0
    | k + 2, hq => simp [jcl] at hq
  · match k, hq with
    | 0, hq => cases hq; exact ⟨a, b⟩
    | k + 1, hq => simp at hq
abbrev yFl : List Cond := flatC (Jvm.Cond.and given_1 narrow_1)
abbrev yE1 (j : Nat) : Cond := Cond.eq (.elem (.static RJ6 "DigitOnes" "[B") (.int (Int32.ofNat j))) (.int (nI (48 + j % 10)))
abbrev yE2 (j : Nat) : Cond := Cond.eq (.elem (.static RJ6 "DigitTens" "[B") (.int (Int32.ofNat j))) (.int (nI (48 + j / 10)))
set_option maxRecDepth 100000 in
theorem yOnes : (yFl.drop 14).take 100 = (List.range 100).map yE1 := by decide +kernel
set_option maxRecDepth 100000 in
theorem yTens : (yFl.drop 117).take 100 = (List.range 100).map yE2 := by decide +kernel
theorem yO1 {j : Nat} (hj : j < 100) : yE1 j ∈ yFl := List.mem_of_mem_drop (List.mem_of_mem_take (yOnes ▸ List.mem_map_of_mem (List.mem_range.mpr hj)))
theorem yO2 {j : Nat} (hj : j < 100) : yE2 j ∈ yFl := List.mem_of_mem_drop (List.mem_of_mem_take (yTens ▸ List.mem_map_of_mem (List.mem_range.mpr hj)))
theorem ent_Z {s : State} {args : Array Value} (hts : ∀ w ∈ lw_tbl, w.before args s = true) (hg : (Jvm.Cond.and given_1 narrow_1).before args s = true) : jZ (fun q => s.heap.size ≤ q) s s.heap := by
  have hs := flat_of_before _ hg
  have hA : ∀ a : Nat, a < s.heap.size → ¬ (fun q : Nat => s.heap.size ≤ q) a := fun a ha q => absurd ha (Nat.not_lt.mpr q)
  obtain ⟨t1, e1, T1⟩ := va_Tof (args := args) (s := s) (tm := .static RJ6 "DigitOnes" "[B") (ty := .byte) (N := 100) (f := fun k => .int (nI (48 + k % 10))) (by decide) (hs _ (by decide +kernel)) (va_eqt (hs (Cond.eq (.length (.static RJ6 "DigitOnes" "[B")) (.int (Int32.ofNat 100))) (by decide +kernel))) (fun j hj => va_eqt (hs _ (yO1 hj))) hA
  obtain ⟨t2, e2, T2⟩ := va_Tof (args := args) (s := s) (tm := .static RJ6 "DigitTens" "[B") (ty := .byte) (N := 100) (f := fun k => .int (nI (48 + k / 10))) (by decide) (hs _ (by decide +kernel)) (va_eqt (hs (Cond.eq (.length (.static RJ6 "DigitTens" "[B")) (.int (Int32.ofNat 100))) (by decide +kernel))) (fun j hj => va_eqt (hs _ (yO2 hj))) hA
  exact ⟨va_Zof (yw_of hts 12 rfl) (yw_of hts 16 rfl) (va_eqt (hs (Cond.eq (.static RJ0 "COMPACT_STRINGS" "Z") (.int 1)) (by decide +kernel))) hA, ⟨t1, va_Zof (yw_of hts 14 rfl) (yw_of hts 18 rfl) e1 hA, T1⟩, ⟨t2, va_Zof (yw_of hts 15 rfl) (yw_of hts 18 rfl) e2 hA, T2⟩, va_Zqof (yw_of hts 13 rfl) (yw_of hts 17 rfl) (hs _ (by decide +kernel)) hA⟩
/-! the six texts of the law -/
def yIx : List Nat := [82, 96, 104, 106, 108, 125]
def yTx : List (List Nat) := [[48, 49, 50, 51, 48, 49, 124], [45], [58], [44], [44, 48, 45, 51, 58, 57, 124], []]
def ySt : List String := ["012301|", "-", ":", ",", ",0-3:9|", ""]
abbrev yTm (i : Nat) : Term := .string RL (yIx.getD i 0)
abbrev yLn (i : Nat) : Nat := (yTx.map List.length).getD i 0
def yL1 (i : Nat) : List Cond := [Cond.exactly (yTm i) "java/lang/String", Cond.eq (.field (yTm i) "java/lang/String" "coder" "B") (.int 0), Cond.arrayOf (.field (yTm i) "java/lang/String" "value" "[B") .byte, Cond.eq (.length (.field (yTm i) "java/lang/String" "value" "[B")) (.int (Int32.ofNat (yLn i)))]
def yL2 (i : Nat) : List Cond := (List.range (yLn i)).map fun j => Cond.eq (.elem (.field (yTm i) "java/lang/String" "value" "[B") (.int (Int32.ofNat j))) (.int (((yTx.map (List.map nI)).getD i []).getD j 0))
def yL3 (i : Nat) : List Cond := (List.range i).map fun j => Cond.not (Cond.eq (yTm j) (yTm i))
set_option maxRecDepth 100000 in
theorem yS_all : (yFl.drop 247).take 56 = (List.range 6).flatMap fun i => yL1 i ++ (yL2 i ++ yL3 i) := by decide +kernel
theorem yS_of {i : Nat} (hi : i < 6) {w : Cond} (h : w ∈ yL1 i ++ (yL2 i ++ yL3 i)) : w ∈ yFl := List.mem_of_mem_drop (List.mem_of_mem_take (yS_all ▸ List.mem_flatMap.mpr ⟨i, List.mem_range.mpr hi, h⟩))
theorem yD (t : List Nat) (j : Nat) : (t.map nI).getD j 0 = nI (t.getD j 0) := by
  rw [List.getD_eq_getElem?_getD, List.getD_eq_getElem?_getD, List.getElem?_map]
  cases t[j]? <;> rfl
theorem ent_S {s : State} {args : Array Value} (hts : ∀ w ∈ lw_tbl, w.before args s = true) (hg : (Jvm.Cond.and given_1 narrow_1).before args s = true) : ∃ ad : Nat → Nat, ∀ i, i < 6 → jStr (fun q => s.heap.size ≤ q) (ad i) (yTx.getD i []) s s.heap ∧ vk_R RL (yIx.getD i 0) (ySt.getD i "") (ad i) s := by
  have hs := flat_of_before _ hg
  have hA : ∀ a : Nat, a < s.heap.size → ¬ (fun q : Nat => s.heap.size ≤ q) a := fun a ha q => absurd ha (Nat.not_lt.mpr q)
  obtain ⟨adK, adV, ⟨hS, -⟩, hE⟩ := vk_Sof (args := args) (s := s) (N := 6) (tm := yTm) (len := yTx.map List.length) (byt := yTx.map (List.map nI)) (A := fun q => s.heap.size ≤ q)
    (fun i hi => by rcases (show i = 0 ∨ i = 1 ∨ i = 2 ∨ i = 3 ∨ i = 4 ∨ i = 5 by omega) with rfl | rfl | rfl | rfl | rfl | rfl <;> decide) (fun i hi => hs _ (yS_of hi (List.mem_append_left _ (List.mem_of_getElem? (i := 0) rfl)))) (fun i hi => hs _ (yS_of hi (List.mem_append_left _ (List.mem_of_getElem? (i := 1) rfl))))
    (fun i hi => hs _ (yS_of hi (List.mem_append_left _ (List.mem_of_getElem? (i := 2) rfl)))) (fun i hi => hs _ (yS_of hi (List.mem_append_left _ (List.mem_of_getElem? (i := 3) rfl))))
    (fun i hi j hj => hs _ (yS_of hi (List.mem_append_right _ (List.mem_append_left _ (List.mem_map.mpr ⟨j, List.mem_range.mpr hj, rfl⟩))))) (fun i j hi hj hij => by
      rcases Nat.lt_or_ge i j with h | h
      · exact Or.inl (hs _ (yS_of hj (List.mem_append_right _ (List.mem_append_right _ (List.mem_map.mpr ⟨i, List.mem_range.mpr h, rfl⟩)))))
      · exact Or.inr (hs _ (yS_of hi (List.mem_append_right _ (List.mem_append_right _ (List.mem_map.mpr ⟨j, List.mem_range.mpr (by omega), rfl⟩)))))) hA
  refine ⟨adK, fun i hi => ⟨?_, vk_R.of (A := args) ?_ (hE i hi)⟩⟩
  · obtain ⟨h1, h2, h3, h4⟩ := hS i hi
    have e1 : (yTx.map List.length).getD i 0 = (yTx.getD i []).length := by
      rcases (show i = 0 ∨ i = 1 ∨ i = 2 ∨ i = 3 ∨ i = 4 ∨ i = 5 by omega) with rfl | rfl | rfl | rfl | rfl | rfl <;> rfl
    have e2 : (yTx.map (List.map nI)).getD i [] = (yTx.getD i []).map nI := by
      rcases (show i = 0 ∨ i = 1 ∨ i = 2 ∨ i = 3 ∨ i = 4 ∨ i = 5 by omega) with rfl | rfl | rfl | rfl | rfl | rfl <;> rfl
    refine ⟨adV i, h1, h2, h3, ?_⟩
    rw [e1, e2] at h4
    have e3 : (fun j => Value.int (((yTx.getD i []).map nI).getD j 0)) = fun j => Value.int (nI ((yTx.getD i []).getD j 0)) := funext fun j => congrArg Value.int (yD _ j)
    rw [e3] at h4
    exact h4
  · rcases (show i = 0 ∨ i = 1 ∨ i = 2 ∨ i = 3 ∨ i = 4 ∨ i = 5 by omega) with rfl | rfl | rfl | rfl | rfl | rfl
    · exact yw_of hts 22 rfl
    · exact yw_of hts 23 rfl
    · exact yw_of hts 24 rfl
    · exact yw_of hts 25 rfl
    · exact yw_of hts 26 rfl
    · exact yw_of hts 27 rfl

/-! ===== the picture of the memory in the heap ===== -/
def ts_val (B : Nat) : ts_V → Value
  | .inl x => .int x
  | .inr (.inl x) => .long x
  | .inr (.inr o) => va_rf (o.map fun k => B + k)
def ts_fs (B : Nat) (M : ts_M) (k : Nat) : List Value := (List.range (ts_N (ts_sh k).2)).map fun j => ts_val B (ts_gv (ts_sh k).2 j M k)
def ts_ent (B : Nat) (cA : Nat → ClassId) (M : ts_M) (k : Nat) : va_E := match (ts_sh k).1 with
  | 0 => .inr ((ts_sh k).2, ts_fs B M k)
  | 1 => .inl (cA 0, (ts_sh k).2, .inl (M.1 k))
  | 2 => .inl (cA 1, (ts_sh k).2, .inl (M.1 k))
  | 3 => .inl (cA 2, (ts_sh k).2, .inr (.inl (M.2.1 k)))
  | 4 => .inl (cA 3, (ts_sh k).2, .inr (.inr (.inr (.inr fun j => (M.2.2.1 k j).map fun q => B + q))))
  | _ => .inl (cA 4, (ts_sh k).2, .inr (.inr (.inr (.inr fun j => (M.2.2.1 k j).map fun q => B + q))))
def ts_w (B : Nat) (cA : Nat → ClassId) (M : ts_M) : va_W := (List.range M.2.2.2).map fun k => (B + k, ts_ent B cA M k)
def ts_tys (cA : Nat → ClassId) : List (ClassId × FieldType) := [(cA 0, .int), (cA 1, .byte), (cA 2, .int), (cA 3, .object RX4), (cA 4, .object RX2)]
theorem ts_w_at {B : Nat} {cA : Nat → ClassId} {M : ts_M} {k : Nat} (h : k < M.2.2.2) : (ts_w B cA M)[k]? = some (B + k, ts_ent B cA M k) := by
  unfold ts_w
  rw [List.getElem?_map, List.getElem?_range h]
  rfl
theorem ts_w_len {B : Nat} {cA : Nat → ClassId} {M : ts_M} : (ts_w B cA M).length = M.2.2.2 := by simp [ts_w]
theorem ts_w_set {B : Nat} {cA : Nat → ClassId} {M M' : ts_M} {a : Nat} {e : va_E} (hn : M'.2.2.2 = M.2.2.2) (ha : a < M.2.2.2) (he : ts_ent B cA M' a = e) (ho : ∀ k, k ≠ a → ts_ent B cA M' k = ts_ent B cA M k) : (ts_w B cA M).set a (B + a, e) = ts_w B cA M' := by
  apply List.ext_getElem?
  intro i
  by_cases hl : i < M.2.2.2
  · by_cases hi : i = a
    · subst hi
      rw [List.getElem?_set_self (by rw [ts_w_len]; exact ha), ts_w_at (by rw [hn]; exact ha), he]
    · rw [List.getElem?_set_ne (Ne.symm hi), ts_w_at hl, ts_w_at (by rw [hn]; exact hl), ho i hi]
  · rw [List.getElem?_eq_none (by rw [List.length_set, ts_w_len]; omega), List.getElem?_eq_none (by rw [ts_w_len, hn]; omega)]
theorem ts_ent_congr {B : Nat} {cA : Nat → ClassId} {M M' : ts_M} {k : Nat} (h1 : M'.1 k = M.1 k) (h2 : M'.2.1 k = M.2.1 k) (h3 : M'.2.2.1 k = M.2.2.1 k) : ts_ent B cA M' k = ts_ent B cA M k := by
  unfold ts_ent ts_fs ts_gv
  rw [h1, h2, h3]
theorem ts_up_ne {α : Type} {f : Nat → Nat → α} {a j k : Nat} {v : α} (h : k ≠ a) : ts_up f a j v k = f k := by
  funext q
  simp [ts_up, h]
theorem ts_fr_ne {α : Type} {f : Nat → Nat → α} {a k : Nat} {v : α} (h : k ≠ a) : ts_fr f a v k = f k := by
  funext q
  simp [ts_fr, h]
theorem ts_D {A : Nat → Prop} {B : Nat} {cA : Nat → ClassId} {M : ts_M} (hA : ∀ k, k < ts_NN → A (B + k)) (hle : M.2.2.2 ≤ ts_NN) : va_D A (ts_w B cA M) := by
  refine ⟨fun i j p q hi hj h => ?_, fun k q hk => ?_⟩
  · have li : i < M.2.2.2 := by have := (List.getElem?_eq_some_iff.mp hi).1; rwa [ts_w_len] at this
    have lj : j < M.2.2.2 := by have := (List.getElem?_eq_some_iff.mp hj).1; rwa [ts_w_len] at this
    rw [ts_w_at li] at hi
    rw [ts_w_at lj] at hj
    cases hi
    cases hj
    exact Nat.add_left_cancel h
  · have lk : k < M.2.2.2 := by have := (List.getElem?_eq_some_iff.mp hk).1; rwa [ts_w_len] at this
    rw [ts_w_at lk] at hk
    cases hk
    exact hA k (Nat.lt_of_lt_of_le lk hle)
theorem ts_ent_0 {B : Nat} {cA : Nat → ClassId} {M : ts_M} {k c : Nat} (h : ts_sh k = (0, c)) : ts_ent B cA M k = .inr (c, ts_fs B M k) := by
  unfold ts_ent; rw [h]; rfl
theorem ts_ent_1 {B : Nat} {cA : Nat → ClassId} {M : ts_M} {k : Nat} (h : (ts_sh k).1 = 1) : ts_ent B cA M k = .inl (cA 0, (ts_sh k).2, .inl (M.1 k)) := by
  unfold ts_ent; rw [h]; rfl
theorem ts_ent_2 {B : Nat} {cA : Nat → ClassId} {M : ts_M} {k : Nat} (h : (ts_sh k).1 = 2) : ts_ent B cA M k = .inl (cA 1, (ts_sh k).2, .inl (M.1 k)) := by
  unfold ts_ent; rw [h]; rfl
theorem ts_ent_3 {B : Nat} {cA : Nat → ClassId} {M : ts_M} {k : Nat} (h : (ts_sh k).1 = 3) : ts_ent B cA M k = .inl (cA 2, (ts_sh k).2, .inr (.inl (M.2.1 k))) := by
  unfold ts_ent; rw [h]; rfl
theorem ts_ent_4 {B : Nat} {cA : Nat → ClassId} {M : ts_M} {k : Nat} (h : (ts_sh k).1 = 4) : ts_ent B cA M k = .inl (cA 3, (ts_sh k).2, .inr (.inr (.inr (.inr fun j => (M.2.2.1 k j).map fun q => B + q)))) := by
  unfold ts_ent; rw [h]; rfl
theorem ts_ent_5 {B : Nat} {cA : Nat → ClassId} {M : ts_M} {k : Nat} (h : (ts_sh k).1 = 5) : ts_ent B cA M k = .inl (cA 4, (ts_sh k).2, .inr (.inr (.inr (.inr fun j => (M.2.2.1 k j).map fun q => B + q)))) := by
  unfold ts_ent; rw [h]; rfl
theorem ts_fs_at {B : Nat} {M : ts_M} {k c j : Nat} (h : ts_sh k = (0, c)) (hj : j < ts_N c) : (ts_fs B M k)[j]? = some (ts_val B (ts_gv c j M k)) := by
  unfold ts_fs
  rw [h, List.getElem?_map, List.getElem?_range hj]
  rfl
theorem ts_fs_len {B : Nat} {M : ts_M} {k c : Nat} (h : ts_sh k = (0, c)) : (ts_fs B M k).length = ts_N c := by
  unfold ts_fs
  rw [h]; simp
theorem ts_fs_set {B : Nat} {M M' : ts_M} {k c j : Nat} {v : ts_V} (h : ts_sh k = (0, c)) (hj : j < ts_N c) (hv : ts_gv c j M' k = v) (ho : ∀ i, i ≠ j → ts_gv c i M' k = ts_gv c i M k) : (ts_fs B M k).set j (ts_val B v) = ts_fs B M' k := by
  apply List.ext_getElem?
  intro i
  by_cases hl : i < ts_N c
  · by_cases hi : i = j
    · subst hi
      rw [List.getElem?_set_self (by rw [ts_fs_len h]; exact hj), ts_fs_at h hj, hv]
    · rw [List.getElem?_set_ne (Ne.symm hi), ts_fs_at h hl, ts_fs_at h hl, ho i hi]
  · rw [List.getElem?_eq_none (by rw [List.length_set, ts_fs_len h]; omega), List.getElem?_eq_none (by rw [ts_fs_len h]; omega)]
/-! what a write makes of the picture -/
theorem ts_w_putI {B : Nat} {cA : Nat → ClassId} {M : ts_M} {a c j : Nat} {v : Int32} (ha : a < M.2.2.2) (h : ts_sh a = (0, c)) (hj : j < ts_N c) (hr : ts_isr (ts_ty c j) = false) : (ts_w B cA M).set a (B + a, .inr (c, (ts_fs B M a).set j (.int v))) = ts_w B cA (ts_wrI M a j v) := by
  refine ts_w_set rfl ha ?_ fun k hk => ts_ent_congr (ts_up_ne hk) rfl rfl
  rw [ts_ent_0 h]
  have := ts_fs_set (B := B) (M := M) (M' := ts_wrI M a j v) (v := .inl v) h hj (by unfold ts_gv ts_wrI; rw [hr]; simp [ts_up]) (fun i hi => by unfold ts_gv ts_wrI; simp [ts_up, hi])
  rw [← this]
  rfl
theorem ts_w_putR {B : Nat} {cA : Nat → ClassId} {M : ts_M} {a c j : Nat} {v : Option Nat} (ha : a < M.2.2.2) (h : ts_sh a = (0, c)) (hj : j < ts_N c) (hr : ts_isr (ts_ty c j) = true) : (ts_w B cA M).set a (B + a, .inr (c, (ts_fs B M a).set j (va_rf (v.map fun q => B + q)))) = ts_w B cA (ts_wrR M a j v) := by
  refine ts_w_set rfl ha ?_ fun k hk => ts_ent_congr rfl rfl (ts_up_ne hk)
  rw [ts_ent_0 h]
  have := ts_fs_set (B := B) (M := M) (M' := ts_wrR M a j v) (v := .inr (.inr v)) h hj (by unfold ts_gv ts_wrR; rw [hr]; simp [ts_up]) (fun i hi => by unfold ts_gv ts_wrR; simp [ts_up, hi])
  rw [← this]
  rfl
theorem ts_w_astI {B : Nat} {cA : Nat → ClassId} {M : ts_M} {a j : Nat} {v : Int32} (ha : a < M.2.2.2) (h : (ts_sh a).1 = 1) : (ts_w B cA M).set a (B + a, .inl (cA 0, (ts_sh a).2, .inl (upd (M.1 a) j v))) = ts_w B cA (ts_wrI M a j v) := by
  refine ts_w_set rfl ha ?_ fun k hk => ts_ent_congr (ts_up_ne hk) rfl rfl
  rw [ts_ent_1 h]
  congr 4
  funext q
  simp [ts_wrI, ts_up, upd]
theorem ts_w_astB {B : Nat} {cA : Nat → ClassId} {M : ts_M} {a j : Nat} {v : Int32} (ha : a < M.2.2.2) (h : (ts_sh a).1 = 2) : (ts_w B cA M).set a (B + a, .inl (cA 1, (ts_sh a).2, .inl (upd (M.1 a) j v))) = ts_w B cA (ts_wrI M a j v) := by
  refine ts_w_set rfl ha ?_ fun k hk => ts_ent_congr (ts_up_ne hk) rfl rfl
  rw [ts_ent_2 h]
  congr 4
  funext q
  simp [ts_wrI, ts_up, upd]
theorem ts_w_astL {B : Nat} {cA : Nat → ClassId} {M : ts_M} {a j : Nat} {v : Int64} (ha : a < M.2.2.2) (h : (ts_sh a).1 = 3) : (ts_w B cA M).set a (B + a, .inl (cA 2, (ts_sh a).2, .inr (.inl (vp_updL (M.2.1 a) j v)))) = ts_w B cA (ts_wrL M a j v) := by
  refine ts_w_set rfl ha ?_ fun k hk => ts_ent_congr rfl (ts_up_ne hk) rfl
  rw [ts_ent_3 h]
  congr 5
  funext q
  simp [ts_wrL, ts_up, vp_updL]
theorem ts_w_astQ {B : Nat} {cA : Nat → ClassId} {M : ts_M} {a j v : Nat} (ha : a < M.2.2.2) (h : (ts_sh a).1 = 4) : (ts_w B cA M).set a (B + a, .inl (cA 3, (ts_sh a).2, .inr (.inr (.inr (.inr (va_up (fun j => (M.2.2.1 a j).map fun q => B + q) j (some (B + v)))))))) = ts_w B cA (ts_wrR M a j (some v)) := by
  refine ts_w_set rfl ha ?_ fun k hk => ts_ent_congr rfl rfl (ts_up_ne hk)
  rw [ts_ent_4 h]
  congr 8
  funext q
  by_cases hq : q = j <;> simp [ts_wrR, ts_up, va_up, hq]
theorem ts_w_astQ5 {B : Nat} {cA : Nat → ClassId} {M : ts_M} {a j v : Nat} (ha : a < M.2.2.2) (h : (ts_sh a).1 = 5) : (ts_w B cA M).set a (B + a, .inl (cA 4, (ts_sh a).2, .inr (.inr (.inr (.inr (va_up (fun j => (M.2.2.1 a j).map fun q => B + q) j (some (B + v)))))))) = ts_w B cA (ts_wrR M a j (some v)) := by
  refine ts_w_set rfl ha ?_ fun k hk => ts_ent_congr rfl rfl (ts_up_ne hk)
  rw [ts_ent_5 h]
  congr 8
  funext q
  by_cases hq : q = j <;> simp [ts_wrR, ts_up, va_up, hq]
theorem ts_w_new {B : Nat} {cA : Nat → ClassId} {M : ts_M} : ts_w B cA (ts_new M) = ts_w B cA M ++ [(B + M.2.2.2, ts_ent B cA (ts_new M) M.2.2.2)] := by
  unfold ts_w
  rw [show (ts_new M).2.2.2 = M.2.2.2 + 1 from rfl, List.range_succ, List.map_append]
  congr 1
  apply List.map_congr_left
  intro k hk
  have hk : k ≠ M.2.2.2 := by have := List.mem_range.mp hk; omega
  rw [ts_ent_congr (M := M) (M' := ts_new M) (ts_fr_ne hk) (ts_fr_ne hk) (ts_fr_ne hk)]
/-- the heap holds the memory -/
def ts_Wd (D : va_G) (B : Nat) (cA : Nat → ClassId) (M : ts_M) (H : Heap) : Prop := va_P D ts_cl (ts_w B cA M) H ∧ M.2.2.2 ≤ ts_NN
theorem ts_Wd.le {D : va_G} {B : Nat} {cA : Nat → ClassId} {M : ts_M} {H : Heap} (h : ts_Wd D B cA M H) (hB : B ≤ H.size) : B + M.2.2.2 ≤ H.size := by
  by_cases h0 : M.2.2.2 = 0
  · omega
  · have h1 := (h.1 (M.2.2.2 - 1) _ (ts_w_at (by omega))).lt
    dsimp only at h1
    omega
theorem ts_vin {j : Int32} {n : Nat} (h0 : 0 ≤ j) (h : j.toNatClampNeg < n) : vp_in j n := by
  rintro (q | q)
  · rw [Int32.lt_iff_toInt_lt] at q
    rw [Int32.le_iff_toInt_le] at h0
    simp at q h0
    omega
  · omega
/-! locals -/
def ts_Lr (B nL : Nat) (ls : List (Option ts_V)) (sl : Array Slot) : Prop := sl.size = nL ∧ lv_wf sl ∧ ∀ (i : Nat) (v : ts_V), ts_lget ls i = some v → sl[i]? = some (.val (ts_val B v))
def ts_lv (B : Nat) (ls : List (Option ts_V)) : List (Nat × Value) := (List.range ls.length).filterMap fun i => (ts_lget ls i).map fun v => (i, ts_val B v)
theorem ts_lget_lt {ls : List (Option ts_V)} {i : Nat} {v : ts_V} (h : ts_lget ls i = some v) : i < ls.length := by
  unfold ts_lget at h
  rcases Nat.lt_or_ge i ls.length with q | q
  · exact q
  · rw [List.getElem?_eq_none q] at h; cases h
theorem ts_lv_mem {B : Nat} {ls : List (Option ts_V)} {i : Nat} {v : ts_V} (h : ts_lget ls i = some v) : (i, ts_val B v) ∈ ts_lv B ls :=
  List.mem_filterMap.mpr ⟨i, List.mem_range.mpr (ts_lget_lt h), by rw [h]; rfl⟩
theorem ts_Lr.has {B nL : Nat} {ls : List (Option ts_V)} {sl : Array Slot} (h : ts_Lr B nL ls sl) : lv_has sl nL (ts_lv B ls) := by
  refine ⟨h.1, h.2.1, fun q hq => ?_⟩
  obtain ⟨i, -, hi⟩ := List.mem_filterMap.mp hq
  cases hv : ts_lget ls i with
  | none => rw [hv] at hi; cases hi
  | some v =>
    rw [hv] at hi
    cases hi
    exact h.2.2 i v hv
theorem ts_val_cat {B : Nat} (v : ts_V) : (ts_val B v).category = if ts_isl (some v) then 2 else 1 := by
  rcases v with x | x | x
  · rfl
  · rfl
  · cases x <;> rfl
theorem ts_lget_set {ls : List (Option ts_V)} {i j : Nat} {v w : ts_V} (h : ts_lget (ts_lset ls i v) j = some w) : (j = i ∧ w = v) ∨ (j ≠ i ∧ ts_lget ls j = some w ∧ (j + 1 = i → ts_isl (some w) = false) ∧ (ts_isl (some v) = true → j ≠ i + 1)) := by
  have g : ∀ (l : List (Option ts_V)) (a b : Nat) (x : Option ts_V) (y : ts_V), ts_lget (l.set a x) b = some y → (b = a ∧ x = some y) ∨ (b ≠ a ∧ ts_lget l b = some y) := by
    intro l a b x y hy
    have hlt := ts_lget_lt hy
    rw [List.length_set] at hlt
    by_cases hb : b = a
    · subst hb
      refine Or.inl ⟨rfl, ?_⟩
      unfold ts_lget at hy
      rw [List.getElem?_set_self hlt] at hy
      exact hy
    · refine Or.inr ⟨hb, ?_⟩
      unfold ts_lget at hy ⊢
      rwa [List.getElem?_set_ne (Ne.symm hb)] at hy
  have base : ∀ b y, ts_lget (ls.set (i - 1) (ts_nol (ts_lget ls (i - 1)))) b = some y → ts_lget ls b = some y ∧ (b + 1 = i → ts_isl (some y) = false) := by
    intro b y hy
    rcases g _ _ _ _ _ hy with ⟨rfl, h2⟩ | ⟨h1, h2⟩
    · unfold ts_nol at h2
      split at h2
      · cases h2
      · next o hno =>
        refine ⟨h2, fun _ => ?_⟩
        rcases y with x | x | x
        · rfl
        · exact absurd h2 (hno x)
        · rfl
    · exact ⟨h2, fun q => by omega⟩
  unfold ts_lset at h
  by_cases hv : ts_isl (some v) = true
  · rw [if_pos hv] at h
    rcases g _ _ _ _ _ h with ⟨h1, h2⟩ | ⟨h1, h2⟩
    · cases h2; exact Or.inl ⟨h1, rfl⟩
    · rcases g _ _ _ _ _ h2 with ⟨_, q⟩ | ⟨q1, q2⟩
      · cases q
      · exact Or.inr ⟨h1, (base _ _ q2).1, (base _ _ q2).2, fun _ => q1⟩
  · rw [if_neg hv] at h
    rcases g _ _ _ _ _ h with ⟨h1, h2⟩ | ⟨h1, h2⟩
    · cases h2; exact Or.inl ⟨h1, rfl⟩
    · exact Or.inr ⟨h1, (base _ _ h2).1, (base _ _ h2).2, fun q => absurd q hv⟩
theorem ts_Lr.store1 {B nL i : Nat} {ls : List (Option ts_V)} {v : ts_V} {sl' : Array Slot} (hv : ts_isl (some v) = false) (h : lv_has sl' nL ((i, ts_val B v) :: (ts_lv B ls).filter (fun q => !(q.1 == i) && !(q.1 + 1 == i && q.2.category == 2)))) : ts_Lr B nL (ts_lset ls i v) sl' := by
  refine ⟨h.1, h.2.1, fun j w hj => ?_⟩
  rcases ts_lget_set hj with ⟨rfl, rfl⟩ | ⟨h1, h2, h3, -⟩
  · exact h.2.2 _ List.mem_cons_self
  · refine h.2.2 (j, ts_val B w) (List.mem_cons_of_mem _ (List.mem_filter.mpr ⟨ts_lv_mem h2, ?_⟩))
    have e := ts_val_cat (B := B) w
    by_cases hji : j + 1 = i
    · rw [h3 hji] at e
      simp [h1, e]
    · simp [h1, hji]
theorem ts_Lr.store2 {B nL i : Nat} {ls : List (Option ts_V)} {v : ts_V} {sl' : Array Slot} (hv : ts_isl (some v) = true) (h : lv_has sl' nL ((i, ts_val B v) :: (ts_lv B ls).filter (fun q => !(q.1 == i) && (!(q.1 == i + 1) && !(q.1 + 1 == i && q.2.category == 2))))) : ts_Lr B nL (ts_lset ls i v) sl' := by
  refine ⟨h.1, h.2.1, fun j w hj => ?_⟩
  rcases ts_lget_set hj with ⟨rfl, rfl⟩ | ⟨h1, h2, h3, h4⟩
  · exact h.2.2 _ List.mem_cons_self
  · refine h.2.2 (j, ts_val B w) (List.mem_cons_of_mem _ (List.mem_filter.mpr ⟨ts_lv_mem h2, ?_⟩))
    have e := ts_val_cat (B := B) w
    by_cases hji : j + 1 = i
    · rw [h3 hji] at e
      simp [h1, h4 hv, e]
    · simp [h1, h4 hv, hji]

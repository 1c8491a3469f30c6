/-! ===== behind the constructors: three references move, all others are fixed; light memories, light runs ===== -/
abbrev lt_m : Type := (Nat → Nat → Int32) × (Nat → Nat → Int64) × Nat × Nat × Option Nat
abbrev lt_r : Type := Option ts_V × lt_m
/-- how far behind its object a fixed reference lies; 0: none -/
def ts_off (c k : Nat) : Nat := match c, k with
  | 0, 0 => 1
  | 0, 1 => 2
  | 0, 2 => 3
  | 1, 0 => 1
  | 1, 1 => 2
  | 2, 0 => 1
  | 2, 1 => 2
  | 2, 2 => 3
  | 2, 3 => 4
  | 3, 0 => 1
  | 3, 1 => 2
  | 3, 2 => 3
  | 4, 12 => 1
  | 4, 13 => 2
  | 5, 0 => 1
  | 5, 1 => 2
  | 5, 2 => 3
  | 5, 3 => 4
  | 5, 4 => 5
  | 5, 5 => 6
  | 6, 0 => 1
  | 7, 0 => 1
  | 8, 0 => 1
  | 10, 0 => 1
  | 11, 0 => 1
  | 11, 1 => 4
  | 11, 2 => 6
  | 11, 3 => 8
  | 11, 4 => 12
  | 11, 5 => 13
  | 11, 6 => 81
  | _, _ => 0
def ts_fsh (c k : Nat) : Nat × Nat := match c, k with
  | 0, 0 => (1, 30)
  | 0, 1 => (1, 30)
  | 0, 2 => (1, 30)
  | 1, 0 => (5, 8)
  | 1, 1 => (0, 2)
  | 2, 0 => (1, 6)
  | 2, 1 => (1, 6)
  | 2, 2 => (4, 20)
  | 2, 3 => (0, 0)
  | 3, 0 => (1, 8)
  | 3, 1 => (1, 8)
  | 3, 2 => (1, 8)
  | 4, 12 => (1, 8)
  | 4, 13 => (1, 8)
  | 5, 0 => (1, 12)
  | 5, 1 => (1, 6)
  | 5, 2 => (1, 144)
  | 5, 3 => (1, 144)
  | 5, 4 => (1, 12)
  | 5, 5 => (0, 10)
  | 6, 0 => (0, 10)
  | 7, 0 => (1, 8)
  | 8, 0 => (1, 12)
  | 10, 0 => (1, 200)
  | 11, 0 => (0, 6)
  | 11, 1 => (0, 8)
  | 11, 2 => (0, 7)
  | 11, 3 => (0, 3)
  | 11, 4 => (0, 9)
  | 11, 5 => (0, 2)
  | 11, 6 => (0, 1)
  | _, _ => (9, 0)
def ts_G (a k : Nat) : Option Nat := match ts_sh a with
  | (0, c) => if ts_off c k = 0 then none else some (a + ts_off c k)
  | (4, _) => some (a + 5 + 3 * k)
  | (5, _) => some (a + 69 + 68 * k)
  | _ => none
def ts_fl (m : lt_m) : ts_M := (m.1, m.2.1, fun a k => if a = 0 ∧ k = 7 then some m.2.2.1 else if a = 0 ∧ k = 8 then some m.2.2.2.1 else if a = 12 ∧ k = 0 then m.2.2.2.2 else ts_G a k, ts_NN)
def ts_un (M : ts_M) : lt_m := (M.1, M.2.1, (M.2.2.1 0 7).getD 0, (M.2.2.1 0 8).getD 0, M.2.2.1 12 0)
def ts_fz (M : ts_M) : Prop := M.2.2.2 = ts_NN ∧ (∃ x, M.2.2.1 0 7 = some x) ∧ (∃ x, M.2.2.1 0 8 = some x) ∧ ∀ a k, ¬ (a = 0 ∧ k = 7) → ¬ (a = 0 ∧ k = 8) → ¬ (a = 12 ∧ k = 0) → M.2.2.1 a k = ts_G a k
theorem ts_un_fl (m : lt_m) : ts_un (ts_fl m) = m := rfl
theorem ts_fl_fz (m : lt_m) : ts_fz (ts_fl m) := by
  refine ⟨rfl, ⟨_, rfl⟩, ⟨_, rfl⟩, fun a k h1 h2 h3 => ?_⟩
  simp only [ts_fl]
  rw [if_neg h1, if_neg h2, if_neg h3]
theorem ts_fl_un {M : ts_M} (h : ts_fz M) : ts_fl (ts_un M) = M := by
  obtain ⟨h1, ⟨x, h2⟩, ⟨y, h3⟩, h4⟩ := h
  obtain ⟨I, J, Rf, n⟩ := M
  dsimp only at h1 h2 h3 h4
  subst h1
  simp only [ts_fl, ts_un, h2, h3, Option.getD_some]
  congr 3
  funext a k
  by_cases c1 : a = 0 ∧ k = 7
  · rw [if_pos c1, c1.1, c1.2, h2]
  · rw [if_neg c1]
    by_cases c2 : a = 0 ∧ k = 8
    · rw [if_pos c2, c2.1, c2.2, h3]
    · rw [if_neg c2]
      by_cases c3 : a = 12 ∧ k = 0
      · rw [if_pos c3, c3.1, c3.2]
      · rw [if_neg c3, h4 a k c1 c2 c3]
set_option maxRecDepth 100000 in
theorem ts_len_all : ts_sAll.length = 711 := by decide +kernel
theorem ts_sh_lt {a t n : Nat} (h : ts_sh a = (t, n)) (ht : ¬ t = 9) : a < 711 := by
  rcases Nat.lt_or_ge a 711 with q | q
  · exact q
  · exfalso
    unfold ts_sh at h
    rw [List.getD_eq_getElem?_getD, List.getElem?_eq_none (by rw [ts_len_all]; exact q)] at h
    have h : ((9, 0) : Nat × Nat) = (t, n) := h
    cases h
    exact ht rfl
set_option maxRecDepth 100000 in
theorem ts_one_all : (List.range 711).all (fun a => (decide (ts_sh a = (0, 11)) == decide (a = 0)) && (decide (ts_sh a = (0, 9)) == decide (a = 12))) = true := by decide +kernel
theorem ts_sh11 {a : Nat} (h : ts_sh a = (0, 11)) : a = 0 := by
  have h1 := List.all_eq_true.mp ts_one_all a (List.mem_range.mpr (ts_sh_lt h (by decide)))
  simp only [Bool.and_eq_true, beq_iff_eq] at h1
  have h2 := h1.1
  rw [decide_eq_true h] at h2
  exact of_decide_eq_true h2.symm
theorem ts_sh9 {a : Nat} (h : ts_sh a = (0, 9)) : a = 12 := by
  have h1 := List.all_eq_true.mp ts_one_all a (List.mem_range.mpr (ts_sh_lt h (by decide)))
  simp only [Bool.and_eq_true, beq_iff_eq] at h1
  have h2 := h1.2
  rw [decide_eq_true h] at h2
  exact of_decide_eq_true h2.symm
set_option maxRecDepth 100000 in
theorem ts_fsh_all : (List.range 711).all (fun a => match ts_sh a with
    | (0, c) => (List.range (ts_N c)).all fun k => decide (ts_off c k = 0) || decide (ts_sh (a + ts_off c k) = ts_fsh c k)
    | (4, n) => (List.range n).all fun k => decide (ts_sh (a + 5 + 3 * k) = (0, 4))
    | (5, n) => (List.range n).all fun k => decide (ts_sh (a + 69 + 68 * k) = (0, 2))
    | _ => true) = true := by decide +kernel
theorem sf_of {a c : Nat} (h : ts_sh a = (0, c)) (k : Nat) (hk : k < ts_N c) (ho : ¬ ts_off c k = 0) : ts_sh (a + ts_off c k) = ts_fsh c k := by
  have h1 := List.all_eq_true.mp ts_fsh_all a (List.mem_range.mpr (ts_sh_lt h (by decide)))
  rw [h] at h1
  have h2 := List.all_eq_true.mp h1 k (List.mem_range.mpr hk)
  simp only [Bool.or_eq_true, decide_eq_true_eq] at h2
  exact h2.resolve_left ho
theorem sm_4 {a n k : Nat} (h : ts_sh a = (4, n)) (hk : k < n) : ts_sh (a + 5 + 3 * k) = (0, 4) := by
  have h1 := List.all_eq_true.mp ts_fsh_all a (List.mem_range.mpr (ts_sh_lt h (by decide)))
  rw [h] at h1
  have h2 := List.all_eq_true.mp h1 k (List.mem_range.mpr hk)
  simpa using h2
theorem sm_5 {a n k : Nat} (h : ts_sh a = (5, n)) (hk : k < n) : ts_sh (a + 69 + 68 * k) = (0, 2) := by
  have h1 := List.all_eq_true.mp ts_fsh_all a (List.mem_range.mpr (ts_sh_lt h (by decide)))
  rw [h] at h1
  have h2 := List.all_eq_true.mp h1 k (List.mem_range.mpr hk)
  simpa using h2
theorem ts_fz_RL {call : ts_C} {Y : ts_Y} (hY : ¬ Y.1.name = "<init>") (hcall : ∀ y As M v M', ts_ni y → call y As M = some (v, M') → ts_fz M → ts_fz M') : ts_RL call Y (fun M M' => ts_fz M → ts_fz M') := by
  refine ⟨fun _ h => h, fun M a j v h => h, fun M a j v h => h, fun M a c j v hs hm h => ?_, fun q => absurd q hY, fun q => absurd q hY, hcall, fun q => absurd q hY⟩
  have hm := hm.resolve_left hY
  have key : (a = 0 ∧ j = 7) ∨ (a = 0 ∧ j = 8) ∨ (a = 12 ∧ j = 0) := by
    unfold ts_mu at hm
    simp only [Bool.or_eq_true, Bool.and_eq_true, beq_iff_eq] at hm
    rcases hm with ⟨rfl, q | q⟩ | ⟨rfl, q⟩
    · exact Or.inl ⟨ts_sh11 hs, q⟩
    · exact Or.inr (Or.inl ⟨ts_sh11 hs, q⟩)
    · exact Or.inr (Or.inr ⟨ts_sh9 hs, q⟩)
  obtain ⟨h1, ⟨x, h2⟩, ⟨y, h3⟩, h4⟩ := h
  refine ⟨h1, ?_, ?_, fun b k c1 c2 c3 => ?_⟩
  · rcases key with ⟨rfl, rfl⟩ | ⟨rfl, rfl⟩ | ⟨rfl, rfl⟩
    · exact ⟨v, by simp [ts_wrR, ts_up]⟩
    · exact ⟨x, by simp [ts_wrR, ts_up, h2]⟩
    · exact ⟨x, by simp [ts_wrR, ts_up, h2]⟩
  · rcases key with ⟨rfl, rfl⟩ | ⟨rfl, rfl⟩ | ⟨rfl, rfl⟩
    · exact ⟨y, by simp [ts_wrR, ts_up, h3]⟩
    · exact ⟨v, by simp [ts_wrR, ts_up]⟩
    · exact ⟨y, by simp [ts_wrR, ts_up, h3]⟩
  · have : ¬ (b = a ∧ k = j) := by
      rintro ⟨rfl, rfl⟩
      rcases key with q | q | q
      · exact c1 q
      · exact c2 q
      · exact c3 q
    show (ts_up M.2.2.1 a j (some v)) b k = _
    unfold ts_up
    rw [if_neg this]
    exact h4 b k c1 c2 c3
theorem ts_ev_fz : ∀ (d y : Nat) (As : List ts_V) (M : ts_M) (v : Option ts_V) (M' : ts_M), ts_ni y → ts_ev d y As M = some (v, M') → ts_fz M → ts_fz M' := by
  intro d
  induction d with
  | zero => intro y As M v M' _ h; simp [ts_ev] at h
  | succ d ih =>
    intro y As M v M' hy h
    simp only [ts_ev] at h
    split at h
    · next Y hY =>
      split at h
      · obtain ⟨n, hn⟩ := ts_run_ex h
        exact ts_runN_rel (ts_fz_RL (hy Y hY) ih) (fun _ _ _ f g h => g (f h)) n _ _ hn
      · cases h
    · cases h
noncomputable def lt_ev (d y : Nat) (As : List ts_V) (m : lt_m) : Option lt_r := (ts_ev d y As (ts_fl m)).map fun r => (r.1, ts_un r.2)
theorem lt_ev_fl {d y : Nat} {As : List ts_V} {m : lt_m} (hy : ts_ni y) : ts_ev d y As (ts_fl m) = (lt_ev d y As m).map fun r => (r.1, ts_fl r.2) := by
  unfold lt_ev
  cases h : ts_ev d y As (ts_fl m) with
  | none => rfl
  | some r =>
    obtain ⟨v, M'⟩ := r
    simp only [Option.map_some, ts_fl_un (ts_ev_fz d y As _ v M' hy h (ts_fl_fz m))]
noncomputable def lt_run (d : Nat) (Y : ts_Y) (pc : Nat) (ls : List (Option ts_V)) (st : List ts_V) (m : lt_m) : Option lt_r := (ts_run (ts_ev d) Y (pc, ls, st, ts_fl m)).map fun r => (r.1, ts_un r.2)
def lt_gd (c : Prop) [Decidable c] (k : Option lt_r) : Option lt_r := if c then k else none
def lt_cI (o : Option lt_r) (k : Int32 → lt_m → Option lt_r) : Option lt_r := match o with
  | some (some (.inl v), m) => k v m
  | _ => none
def lt_cL (o : Option lt_r) (k : Int64 → lt_m → Option lt_r) : Option lt_r := match o with
  | some (some (.inr (.inl v)), m) => k v m
  | _ => none
def lt_cR (o : Option lt_r) (k : Option Nat → lt_m → Option lt_r) : Option lt_r := match o with
  | some (some (.inr (.inr v)), m) => k v m
  | _ => none
def lt_cV (o : Option lt_r) (k : lt_m → Option lt_r) : Option lt_r := match o with
  | some (none, m) => k m
  | _ => none
def lt_nl (o : Option Nat) (a : Option lt_r) (b : Nat → Option lt_r) : Option lt_r := match o with
  | none => a
  | some q => b q
def lt_sw (x : Int32) (ks : List (Option lt_r)) (k : Option lt_r) : Option lt_r := if x.toInt < 0 ∨ (ks.length : Int) - 1 < x.toInt then k else (ks[x.toInt.toNat]?).getD k
theorem lt_cI_s {v : Int32} {m : lt_m} {k : Int32 → lt_m → Option lt_r} : lt_cI (some (some (.inl v), m)) k = k v m := rfl
theorem lt_cL_s {v : Int64} {m : lt_m} {k : Int64 → lt_m → Option lt_r} : lt_cL (some (some (.inr (.inl v)), m)) k = k v m := rfl
theorem lt_cR_s {v : Option Nat} {m : lt_m} {k : Option Nat → lt_m → Option lt_r} : lt_cR (some (some (.inr (.inr v)), m)) k = k v m := rfl
theorem lt_cV_s {m : lt_m} {k : lt_m → Option lt_r} : lt_cV (some (none, m)) k = k m := rfl
theorem lt_gd_t {c : Prop} [Decidable c] {k : Option lt_r} (h : c) : lt_gd c k = k := if_pos h
theorem lt_nl_n {a : Option lt_r} {b : Nat → Option lt_r} : lt_nl none a b = a := rfl
theorem lt_nl_s {a : Option lt_r} {b : Nat → Option lt_r} {q : Nat} : lt_nl (some q) a b = b q := rfl
theorem lt_gd_c {c : Prop} [Decidable c] {k k' : Option lt_r} (h : c → k = k') : lt_gd c k = lt_gd c k' := by
  unfold lt_gd
  split
  · next hc => exact h hc
  · rfl
theorem lt_ite {c : Prop} [Decidable c] {a a' b b' : Option lt_r} (h1 : c → a = a') (h2 : ¬ c → b = b') : (if c then a else b) = (if c then a' else b') := by
  split
  · next hc => exact h1 hc
  · next hc => exact h2 hc
theorem lt_cI_c {o : Option lt_r} {k k' : Int32 → lt_m → Option lt_r} (h : ∀ v m, k v m = k' v m) : lt_cI o k = lt_cI o k' := by rw [show k = k' from funext fun v => funext fun m => h v m]
theorem lt_cL_c {o : Option lt_r} {k k' : Int64 → lt_m → Option lt_r} (h : ∀ v m, k v m = k' v m) : lt_cL o k = lt_cL o k' := by rw [show k = k' from funext fun v => funext fun m => h v m]
theorem lt_cR_c {o : Option lt_r} {k k' : Option Nat → lt_m → Option lt_r} (h : ∀ v m, k v m = k' v m) : lt_cR o k = lt_cR o k' := by rw [show k = k' from funext fun v => funext fun m => h v m]
theorem lt_cV_c {o : Option lt_r} {k k' : lt_m → Option lt_r} (h : ∀ m, k m = k' m) : lt_cV o k = lt_cV o k' := by rw [show k = k' from funext fun m => h m]
theorem lt_nl_c {o : Option Nat} {a a' : Option lt_r} {b b' : Nat → Option lt_r} (h1 : a = a') (h2 : ∀ q, b q = b' q) : lt_nl o a b = lt_nl o a' b' := by rw [h1, show b = b' from funext h2]
section LI
variable {d : Nat} {Y : ts_Y} {pc : Nat} {ls : List (Option ts_V)} {r : List ts_V} {m : lt_m}
theorem lt_go {pc' : Nat} {ls' : List (Option ts_V)} {st st' : List ts_V} {m' : lt_m} (h : ts_one (ts_ev d) Y (pc, ls, st, ts_fl m) = some (.inl (pc', ls', st', ts_fl m'))) : lt_run d Y pc ls st m = lt_run d Y pc' ls' st' m' := by
  unfold lt_run; rw [ts_run_step, h]
theorem lt_end {st : List ts_V} {v : Option ts_V} {m' : lt_m} (h : ts_one (ts_ev d) Y (pc, ls, st, ts_fl m) = some (.inr (v, ts_fl m'))) : lt_run d Y pc ls st m = some (v, m') := by
  unfold lt_run; rw [ts_run_step, h]; rfl
theorem lt_no {st : List ts_V} (h : ts_one (ts_ev d) Y (pc, ls, st, ts_fl m) = none) : lt_run d Y pc ls st m = none := by
  unfold lt_run; rw [ts_run_step, h]; rfl
theorem lt_one {call : ts_C} {i : Instr} {len : Nat} {st : List ts_V} {M : ts_M} (hd : decode Y.2.1 pc = .ok (i, len)) (hl : len = ts_len i len) (hc : ts_ci i = false) : ts_one call Y (pc, ls, st, M) = ts_step call Y i len pc ls st M := by
  unfold ts_one
  dsimp only
  rw [hd]
  dsimp only
  rw [if_pos ⟨hl, by rw [hc]; intro h; cases h⟩]
theorem lt_enter {y : Nat} {As : List ts_V} (hY : ts_mL[y]? = some Y) (hl : (ts_ar As).length ≤ Y.2.2.1) : lt_ev (d + 1) y As m = lt_run d Y 0 (ts_l0 As Y.2.2.1) [] m := by
  unfold lt_ev lt_run
  simp only [ts_ev, hY, if_pos hl]

theorem li_iadd {x y : Int32} (hd : decode Y.2.1 pc = .ok (.iadd, 1)) : lt_run d Y pc ls (.inl y :: .inl x :: r) m = lt_run d Y (pc + 1) ls (.inl (x + y) :: r) m := lt_go ((lt_one hd rfl rfl).trans rfl)
theorem li_isub {x y : Int32} (hd : decode Y.2.1 pc = .ok (.isub, 1)) : lt_run d Y pc ls (.inl y :: .inl x :: r) m = lt_run d Y (pc + 1) ls (.inl (x - y) :: r) m := lt_go ((lt_one hd rfl rfl).trans rfl)
theorem li_imul {x y : Int32} (hd : decode Y.2.1 pc = .ok (.imul, 1)) : lt_run d Y pc ls (.inl y :: .inl x :: r) m = lt_run d Y (pc + 1) ls (.inl (x * y) :: r) m := lt_go ((lt_one hd rfl rfl).trans rfl)
theorem li_iand {x y : Int32} (hd : decode Y.2.1 pc = .ok (.iand, 1)) : lt_run d Y pc ls (.inl y :: .inl x :: r) m = lt_run d Y (pc + 1) ls (.inl (x &&& y) :: r) m := lt_go ((lt_one hd rfl rfl).trans rfl)
theorem li_ior {x y : Int32} (hd : decode Y.2.1 pc = .ok (.ior, 1)) : lt_run d Y pc ls (.inl y :: .inl x :: r) m = lt_run d Y (pc + 1) ls (.inl (x ||| y) :: r) m := lt_go ((lt_one hd rfl rfl).trans rfl)
theorem li_ixor {x y : Int32} (hd : decode Y.2.1 pc = .ok (.ixor, 1)) : lt_run d Y pc ls (.inl y :: .inl x :: r) m = lt_run d Y (pc + 1) ls (.inl (x ^^^ y) :: r) m := lt_go ((lt_one hd rfl rfl).trans rfl)
theorem li_ishl {x y : Int32} (hd : decode Y.2.1 pc = .ok (.ishl, 1)) : lt_run d Y pc ls (.inl y :: .inl x :: r) m = lt_run d Y (pc + 1) ls (.inl (x <<< (y &&& 31)) :: r) m := lt_go ((lt_one hd rfl rfl).trans rfl)
theorem li_ishr {x y : Int32} (hd : decode Y.2.1 pc = .ok (.ishr, 1)) : lt_run d Y pc ls (.inl y :: .inl x :: r) m = lt_run d Y (pc + 1) ls (.inl (x >>> (y &&& 31)) :: r) m := lt_go ((lt_one hd rfl rfl).trans rfl)
theorem li_iushr {x y : Int32} (hd : decode Y.2.1 pc = .ok (.iushr, 1)) : lt_run d Y pc ls (.inl y :: .inl x :: r) m = lt_run d Y (pc + 1) ls (.inl ((x.toUInt32 >>> (y.toUInt32 &&& Int32.toUInt32 31)).toInt32) :: r) m := lt_go ((lt_one hd rfl rfl).trans rfl)
theorem li_idiv {x y : Int32} (hd : decode Y.2.1 pc = .ok (.idiv, 1)) : lt_run d Y pc ls (.inl y :: .inl x :: r) m = lt_gd (¬ y = 0) (lt_run d Y (pc + 1) ls (.inl (x / y) :: r) m) := by
  unfold lt_gd
  split
  · next h => exact lt_go ((lt_one hd rfl rfl).trans (if_pos h))
  · next h => exact lt_no ((lt_one hd rfl rfl).trans (if_neg h))
theorem li_irem {x y : Int32} (hd : decode Y.2.1 pc = .ok (.irem, 1)) : lt_run d Y pc ls (.inl y :: .inl x :: r) m = lt_gd (¬ y = 0) (lt_run d Y (pc + 1) ls (.inl (x - x / y * y) :: r) m) := by
  unfold lt_gd
  split
  · next h => exact lt_go ((lt_one hd rfl rfl).trans (if_pos h))
  · next h => exact lt_no ((lt_one hd rfl rfl).trans (if_neg h))
theorem li_ldiv {x y : Int64} (hd : decode Y.2.1 pc = .ok (.ldiv, 1)) : lt_run d Y pc ls (.inr (.inl y) :: .inr (.inl x) :: r) m = lt_gd (¬ y = 0) (lt_run d Y (pc + 1) ls (.inr (.inl (x / y)) :: r) m) := by
  unfold lt_gd
  split
  · next h => exact lt_go ((lt_one hd rfl rfl).trans (if_pos h))
  · next h => exact lt_no ((lt_one hd rfl rfl).trans (if_neg h))
theorem li_lmul {x y : Int64} (hd : decode Y.2.1 pc = .ok (.lmul, 1)) : lt_run d Y pc ls (.inr (.inl y) :: .inr (.inl x) :: r) m = lt_run d Y (pc + 1) ls (.inr (.inl (x * y)) :: r) m := lt_go ((lt_one hd rfl rfl).trans rfl)
theorem li_ladd {x y : Int64} (hd : decode Y.2.1 pc = .ok (.ladd, 1)) : lt_run d Y pc ls (.inr (.inl y) :: .inr (.inl x) :: r) m = lt_run d Y (pc + 1) ls (.inr (.inl (x + y)) :: r) m := lt_go ((lt_one hd rfl rfl).trans rfl)
theorem li_lsub {x y : Int64} (hd : decode Y.2.1 pc = .ok (.lsub, 1)) : lt_run d Y pc ls (.inr (.inl y) :: .inr (.inl x) :: r) m = lt_run d Y (pc + 1) ls (.inr (.inl (x - y)) :: r) m := lt_go ((lt_one hd rfl rfl).trans rfl)
theorem li_l2i {x : Int64} (hd : decode Y.2.1 pc = .ok (.l2i, 1)) : lt_run d Y pc ls (.inr (.inl x) :: r) m = lt_run d Y (pc + 1) ls (.inl x.toInt32 :: r) m := lt_go ((lt_one hd rfl rfl).trans rfl)
theorem li_pop {v : ts_V} (hd : decode Y.2.1 pc = .ok (.pop, 1)) (hc : ts_cat1 v = true) : lt_run d Y pc ls (v :: r) m = lt_run d Y (pc + 1) ls r m := lt_go ((lt_one hd rfl rfl).trans (if_pos hc))
theorem li_lcmp {x y : Int64} (hd : decode Y.2.1 pc = .ok (.lcmp, 1)) : lt_run d Y pc ls (.inr (.inl y) :: .inr (.inl x) :: r) m = lt_run d Y (pc + 1) ls (.inl (lg_cmp x y) :: r) m := lt_go ((lt_one hd rfl rfl).trans rfl)
theorem li_i2l {x : Int32} (hd : decode Y.2.1 pc = .ok (.i2l, 1)) : lt_run d Y pc ls (.inl x :: r) m = lt_run d Y (pc + 1) ls (.inr (.inl x.toInt64) :: r) m := lt_go ((lt_one hd rfl rfl).trans rfl)
theorem li_i2b {x : Int32} (hd : decode Y.2.1 pc = .ok (.i2b, 1)) : lt_run d Y pc ls (.inl x :: r) m = lt_run d Y (pc + 1) ls (.inl x.toInt8.toInt32 :: r) m := lt_go ((lt_one hd rfl rfl).trans rfl)
theorem li_iconst {n : Int} {v : Int32} (hd : decode Y.2.1 pc = .ok (.iconst n, 1)) (hv : Int32.ofInt n = v) : lt_run d Y pc ls (r) m = lt_run d Y (pc + 1) ls (.inl v :: r) m := by subst hv; exact lt_go ((lt_one hd rfl rfl).trans rfl)
theorem li_bipush {n : Int} {v : Int32} (hd : decode Y.2.1 pc = .ok (.bipush n, 2)) (hv : (Int8.ofInt n).toInt32 = v) : lt_run d Y pc ls (r) m = lt_run d Y (pc + 2) ls (.inl v :: r) m := by subst hv; exact lt_go ((lt_one hd rfl rfl).trans rfl)
theorem li_sipush {n : Int} {v : Int32} (hd : decode Y.2.1 pc = .ok (.sipush n, 3)) (hv : (Int16.ofInt n).toInt32 = v) : lt_run d Y pc ls (r) m = lt_run d Y (pc + 3) ls (.inl v :: r) m := by subst hv; exact lt_go ((lt_one hd rfl rfl).trans rfl)
theorem li_lconst {n : Fin 2} {v : Int64} (hd : decode Y.2.1 pc = .ok (.lconst n, 1)) (hv : Int64.ofNat (n : Nat) = v) : lt_run d Y pc ls (r) m = lt_run d Y (pc + 1) ls (.inr (.inl v) :: r) m := by subst hv; exact lt_go ((lt_one hd rfl rfl).trans rfl)
theorem li_null (hd : decode Y.2.1 pc = .ok (.aconst_null, 1)) : lt_run d Y pc ls (r) m = lt_run d Y (pc + 1) ls (.inr (.inr none) :: r) m := lt_go ((lt_one hd rfl rfl).trans rfl)
theorem li_ldc {x : Nat} {v : Int32} (hd : decode Y.2.1 pc = .ok (.ldc x, 2)) (hv : ts_cI Y.2.2.2.2 x = some v) : lt_run d Y pc ls (r) m = lt_run d Y (pc + 2) ls (.inl v :: r) m := lt_go ((lt_one hd rfl rfl).trans (by unfold ts_step; dsimp only; rw [hv]))
theorem li_ldc_w {x : Nat} {v : Int32} (hd : decode Y.2.1 pc = .ok (.ldc_w x, 3)) (hv : ts_cI Y.2.2.2.2 x = some v) : lt_run d Y pc ls (r) m = lt_run d Y (pc + 3) ls (.inl v :: r) m := lt_go ((lt_one hd rfl rfl).trans (by unfold ts_step; dsimp only; rw [hv]))
theorem li_ldc2_w {x : Nat} {v : Int64} (hd : decode Y.2.1 pc = .ok (.ldc2_w x, 3)) (hv : ts_cJ Y.2.2.2.2 x = some v) : lt_run d Y pc ls (r) m = lt_run d Y (pc + 3) ls (.inr (.inl v) :: r) m := lt_go ((lt_one hd rfl rfl).trans (by unfold ts_step; dsimp only; rw [hv]))
theorem li_iload {n : Nat} {x : Int32} (hd : decode Y.2.1 pc = .ok (.iload n, 2)) (hl : ts_lget ls n = some (.inl x)) : lt_run d Y pc ls (r) m = lt_run d Y (pc + 2) ls (.inl x :: r) m := lt_go ((lt_one hd rfl rfl).trans (by unfold ts_step; dsimp only; rw [hl]))
theorem li_iload_n {n : Fin 4} {x : Int32} (hd : decode Y.2.1 pc = .ok (.iload_n n, 1)) (hl : ts_lget ls n = some (.inl x)) : lt_run d Y pc ls (r) m = lt_run d Y (pc + 1) ls (.inl x :: r) m := lt_go ((lt_one hd rfl rfl).trans (by unfold ts_step; dsimp only; rw [hl]))
theorem li_lload {n : Nat} {x : Int64} (hd : decode Y.2.1 pc = .ok (.lload n, 2)) (hl : ts_lget ls n = some (.inr (.inl x))) : lt_run d Y pc ls (r) m = lt_run d Y (pc + 2) ls (.inr (.inl x) :: r) m := lt_go ((lt_one hd rfl rfl).trans (by unfold ts_step; dsimp only; rw [hl]))
theorem li_lload_n {n : Fin 4} {x : Int64} (hd : decode Y.2.1 pc = .ok (.lload_n n, 1)) (hl : ts_lget ls n = some (.inr (.inl x))) : lt_run d Y pc ls (r) m = lt_run d Y (pc + 1) ls (.inr (.inl x) :: r) m := lt_go ((lt_one hd rfl rfl).trans (by unfold ts_step; dsimp only; rw [hl]))
theorem li_aload {n : Nat} {x : Option Nat} (hd : decode Y.2.1 pc = .ok (.aload n, 2)) (hl : ts_lget ls n = some (.inr (.inr x))) : lt_run d Y pc ls (r) m = lt_run d Y (pc + 2) ls (.inr (.inr x) :: r) m := lt_go ((lt_one hd rfl rfl).trans (by unfold ts_step; dsimp only; rw [hl]))
theorem li_aload_n {n : Fin 4} {x : Option Nat} (hd : decode Y.2.1 pc = .ok (.aload_n n, 1)) (hl : ts_lget ls n = some (.inr (.inr x))) : lt_run d Y pc ls (r) m = lt_run d Y (pc + 1) ls (.inr (.inr x) :: r) m := lt_go ((lt_one hd rfl rfl).trans (by unfold ts_step; dsimp only; rw [hl]))
theorem li_istore {n : Nat} {x : Int32} {ls' : List (Option ts_V)} (hd : decode Y.2.1 pc = .ok (.istore n, 2)) (hn : (n : Nat) < Y.2.2.1) (hl : ts_lset ls n (.inl x) = ls') : lt_run d Y pc ls (.inl x :: r) m = lt_run d Y (pc + 2) ls' r m := by subst hl; exact lt_go ((lt_one hd rfl rfl).trans (if_pos hn))
theorem li_istore_n {n : Fin 4} {x : Int32} {ls' : List (Option ts_V)} (hd : decode Y.2.1 pc = .ok (.istore_n n, 1)) (hn : (n : Nat) < Y.2.2.1) (hl : ts_lset ls n (.inl x) = ls') : lt_run d Y pc ls (.inl x :: r) m = lt_run d Y (pc + 1) ls' r m := by subst hl; exact lt_go ((lt_one hd rfl rfl).trans (if_pos hn))
theorem li_lstore {n : Nat} {x : Int64} {ls' : List (Option ts_V)} (hd : decode Y.2.1 pc = .ok (.lstore n, 2)) (hn : (n : Nat) + 1 < Y.2.2.1) (hl : ts_lset ls n (.inr (.inl x)) = ls') : lt_run d Y pc ls (.inr (.inl x) :: r) m = lt_run d Y (pc + 2) ls' r m := by subst hl; exact lt_go ((lt_one hd rfl rfl).trans (if_pos hn))
theorem li_lstore_n {n : Fin 4} {x : Int64} {ls' : List (Option ts_V)} (hd : decode Y.2.1 pc = .ok (.lstore_n n, 1)) (hn : (n : Nat) + 1 < Y.2.2.1) (hl : ts_lset ls n (.inr (.inl x)) = ls') : lt_run d Y pc ls (.inr (.inl x) :: r) m = lt_run d Y (pc + 1) ls' r m := by subst hl; exact lt_go ((lt_one hd rfl rfl).trans (if_pos hn))
theorem li_astore {n : Nat} {x : Option Nat} {ls' : List (Option ts_V)} (hd : decode Y.2.1 pc = .ok (.astore n, 2)) (hn : (n : Nat) < Y.2.2.1) (hl : ts_lset ls n (.inr (.inr x)) = ls') : lt_run d Y pc ls (.inr (.inr x) :: r) m = lt_run d Y (pc + 2) ls' r m := by subst hl; exact lt_go ((lt_one hd rfl rfl).trans (if_pos hn))
theorem li_astore_n {n : Fin 4} {x : Option Nat} {ls' : List (Option ts_V)} (hd : decode Y.2.1 pc = .ok (.astore_n n, 1)) (hn : (n : Nat) < Y.2.2.1) (hl : ts_lset ls n (.inr (.inr x)) = ls') : lt_run d Y pc ls (.inr (.inr x) :: r) m = lt_run d Y (pc + 1) ls' r m := by subst hl; exact lt_go ((lt_one hd rfl rfl).trans (if_pos hn))
theorem li_iinc {n : Nat} {e : Int} {x v : Int32} {ls' : List (Option ts_V)} (hd : decode Y.2.1 pc = .ok (.iinc n e, 3)) (hl : ts_lget ls n = some (.inl x)) (hn : n < Y.2.2.1) (hv : Int32.ofInt e = v) (hs : ts_lset ls n (.inl (x + v)) = ls') : lt_run d Y pc ls (r) m = lt_run d Y (pc + 3) ls' r m := by subst hs; subst hv; exact lt_go ((lt_one hd rfl rfl).trans (by unfold ts_step; dsimp only; rw [hl]; exact if_pos hn))
theorem li_dup {v : ts_V} (hd : decode Y.2.1 pc = .ok (.dup, 1)) (hc : ts_cat1 v = true) : lt_run d Y pc ls (v :: r) m = lt_run d Y (pc + 1) ls (v :: v :: r) m := lt_go ((lt_one hd rfl rfl).trans (if_pos hc))
theorem li_dup_x1 {v u : ts_V} (hd : decode Y.2.1 pc = .ok (.dup_x1, 1)) (hc : ts_cat1 v = true) (hc2 : ts_cat1 u = true) : lt_run d Y pc ls (v :: u :: r) m = lt_run d Y (pc + 1) ls (v :: u :: v :: r) m := lt_go ((lt_one hd rfl rfl).trans (if_pos ⟨hc, hc2⟩))
theorem li_dup2 {v u : ts_V} (hd : decode Y.2.1 pc = .ok (.dup2, 1)) (hc : ts_cat1 v = true) (hc2 : ts_cat1 u = true) : lt_run d Y pc ls (v :: u :: r) m = lt_run d Y (pc + 1) ls (v :: u :: v :: u :: r) m := lt_go ((lt_one hd rfl rfl).trans (if_pos ⟨hc, hc2⟩))
theorem li_goto {off : Int} {t : Nat} {st : List ts_V} (hd : decode Y.2.1 pc = .ok (.goto off, 3)) (ht : ts_jmp pc off = some t) : lt_run d Y pc ls st m = lt_run d Y t ls st m := lt_go ((lt_one hd rfl rfl).trans (by unfold ts_step ts_to; dsimp only; rw [ht]))
theorem li_icmp_eq {x y : Int32} {off : Int} {t : Nat} (hd : decode Y.2.1 pc = .ok (.if_icmp .eq off, 3)) (ht : ts_jmp pc off = some t) : lt_run d Y pc ls (.inl y :: .inl x :: r) m = if x = y then lt_run d Y t ls r m else lt_run d Y (pc + 3) ls r m := by
  split
  · next h => exact lt_go ((lt_one hd rfl rfl).trans (by unfold ts_step ts_br; dsimp only; rw [ht]; exact if_pos h))
  · next h => exact lt_go ((lt_one hd rfl rfl).trans (by unfold ts_step ts_br; dsimp only; rw [ht]; exact if_neg h))
theorem li_icmp_ne {x y : Int32} {off : Int} {t : Nat} (hd : decode Y.2.1 pc = .ok (.if_icmp .ne off, 3)) (ht : ts_jmp pc off = some t) : lt_run d Y pc ls (.inl y :: .inl x :: r) m = if ¬ x = y then lt_run d Y t ls r m else lt_run d Y (pc + 3) ls r m := by
  split
  · next h => exact lt_go ((lt_one hd rfl rfl).trans (by unfold ts_step ts_br; dsimp only; rw [ht]; exact if_pos h))
  · next h => exact lt_go ((lt_one hd rfl rfl).trans (by unfold ts_step ts_br; dsimp only; rw [ht]; exact if_neg h))
theorem li_icmp_lt {x y : Int32} {off : Int} {t : Nat} (hd : decode Y.2.1 pc = .ok (.if_icmp .lt off, 3)) (ht : ts_jmp pc off = some t) : lt_run d Y pc ls (.inl y :: .inl x :: r) m = if x < y then lt_run d Y t ls r m else lt_run d Y (pc + 3) ls r m := by
  split
  · next h => exact lt_go ((lt_one hd rfl rfl).trans (by unfold ts_step ts_br; dsimp only; rw [ht]; exact if_pos h))
  · next h => exact lt_go ((lt_one hd rfl rfl).trans (by unfold ts_step ts_br; dsimp only; rw [ht]; exact if_neg h))
theorem li_icmp_ge {x y : Int32} {off : Int} {t : Nat} (hd : decode Y.2.1 pc = .ok (.if_icmp .ge off, 3)) (ht : ts_jmp pc off = some t) : lt_run d Y pc ls (.inl y :: .inl x :: r) m = if y ≤ x then lt_run d Y t ls r m else lt_run d Y (pc + 3) ls r m := by
  split
  · next h => exact lt_go ((lt_one hd rfl rfl).trans (by unfold ts_step ts_br; dsimp only; rw [ht]; exact if_pos h))
  · next h => exact lt_go ((lt_one hd rfl rfl).trans (by unfold ts_step ts_br; dsimp only; rw [ht]; exact if_neg h))
theorem li_icmp_gt {x y : Int32} {off : Int} {t : Nat} (hd : decode Y.2.1 pc = .ok (.if_icmp .gt off, 3)) (ht : ts_jmp pc off = some t) : lt_run d Y pc ls (.inl y :: .inl x :: r) m = if y < x then lt_run d Y t ls r m else lt_run d Y (pc + 3) ls r m := by
  split
  · next h => exact lt_go ((lt_one hd rfl rfl).trans (by unfold ts_step ts_br; dsimp only; rw [ht]; exact if_pos h))
  · next h => exact lt_go ((lt_one hd rfl rfl).trans (by unfold ts_step ts_br; dsimp only; rw [ht]; exact if_neg h))
theorem li_icmp_le {x y : Int32} {off : Int} {t : Nat} (hd : decode Y.2.1 pc = .ok (.if_icmp .le off, 3)) (ht : ts_jmp pc off = some t) : lt_run d Y pc ls (.inl y :: .inl x :: r) m = if x ≤ y then lt_run d Y t ls r m else lt_run d Y (pc + 3) ls r m := by
  split
  · next h => exact lt_go ((lt_one hd rfl rfl).trans (by unfold ts_step ts_br; dsimp only; rw [ht]; exact if_pos h))
  · next h => exact lt_go ((lt_one hd rfl rfl).trans (by unfold ts_step ts_br; dsimp only; rw [ht]; exact if_neg h))
theorem li_if_eq {x : Int32} {off : Int} {t : Nat} (hd : decode Y.2.1 pc = .ok (.ifCond .eq off, 3)) (ht : ts_jmp pc off = some t) : lt_run d Y pc ls (.inl x :: r) m = if x = 0 then lt_run d Y t ls r m else lt_run d Y (pc + 3) ls r m := by
  split
  · next h => exact lt_go ((lt_one hd rfl rfl).trans (by unfold ts_step ts_br; dsimp only; rw [ht]; exact if_pos h))
  · next h => exact lt_go ((lt_one hd rfl rfl).trans (by unfold ts_step ts_br; dsimp only; rw [ht]; exact if_neg h))
theorem li_if_ne {x : Int32} {off : Int} {t : Nat} (hd : decode Y.2.1 pc = .ok (.ifCond .ne off, 3)) (ht : ts_jmp pc off = some t) : lt_run d Y pc ls (.inl x :: r) m = if ¬ x = 0 then lt_run d Y t ls r m else lt_run d Y (pc + 3) ls r m := by
  split
  · next h => exact lt_go ((lt_one hd rfl rfl).trans (by unfold ts_step ts_br; dsimp only; rw [ht]; exact if_pos h))
  · next h => exact lt_go ((lt_one hd rfl rfl).trans (by unfold ts_step ts_br; dsimp only; rw [ht]; exact if_neg h))
theorem li_if_lt {x : Int32} {off : Int} {t : Nat} (hd : decode Y.2.1 pc = .ok (.ifCond .lt off, 3)) (ht : ts_jmp pc off = some t) : lt_run d Y pc ls (.inl x :: r) m = if x < 0 then lt_run d Y t ls r m else lt_run d Y (pc + 3) ls r m := by
  split
  · next h => exact lt_go ((lt_one hd rfl rfl).trans (by unfold ts_step ts_br; dsimp only; rw [ht]; exact if_pos h))
  · next h => exact lt_go ((lt_one hd rfl rfl).trans (by unfold ts_step ts_br; dsimp only; rw [ht]; exact if_neg h))
theorem li_if_ge {x : Int32} {off : Int} {t : Nat} (hd : decode Y.2.1 pc = .ok (.ifCond .ge off, 3)) (ht : ts_jmp pc off = some t) : lt_run d Y pc ls (.inl x :: r) m = if 0 ≤ x then lt_run d Y t ls r m else lt_run d Y (pc + 3) ls r m := by
  split
  · next h => exact lt_go ((lt_one hd rfl rfl).trans (by unfold ts_step ts_br; dsimp only; rw [ht]; exact if_pos h))
  · next h => exact lt_go ((lt_one hd rfl rfl).trans (by unfold ts_step ts_br; dsimp only; rw [ht]; exact if_neg h))
theorem li_if_gt {x : Int32} {off : Int} {t : Nat} (hd : decode Y.2.1 pc = .ok (.ifCond .gt off, 3)) (ht : ts_jmp pc off = some t) : lt_run d Y pc ls (.inl x :: r) m = if 0 < x then lt_run d Y t ls r m else lt_run d Y (pc + 3) ls r m := by
  split
  · next h => exact lt_go ((lt_one hd rfl rfl).trans (by unfold ts_step ts_br; dsimp only; rw [ht]; exact if_pos h))
  · next h => exact lt_go ((lt_one hd rfl rfl).trans (by unfold ts_step ts_br; dsimp only; rw [ht]; exact if_neg h))
theorem li_if_le {x : Int32} {off : Int} {t : Nat} (hd : decode Y.2.1 pc = .ok (.ifCond .le off, 3)) (ht : ts_jmp pc off = some t) : lt_run d Y pc ls (.inl x :: r) m = if x ≤ 0 then lt_run d Y t ls r m else lt_run d Y (pc + 3) ls r m := by
  split
  · next h => exact lt_go ((lt_one hd rfl rfl).trans (by unfold ts_step ts_br; dsimp only; rw [ht]; exact if_pos h))
  · next h => exact lt_go ((lt_one hd rfl rfl).trans (by unfold ts_step ts_br; dsimp only; rw [ht]; exact if_neg h))
theorem li_ifnull_n {off : Int} {t : Nat} (hd : decode Y.2.1 pc = .ok (.ifnull off, 3)) (ht : ts_jmp pc off = some t) : lt_run d Y pc ls (.inr (.inr none) :: r) m = lt_run d Y t ls r m := lt_go ((lt_one hd rfl rfl).trans (by unfold ts_step ts_to; dsimp only; rw [ht]))
theorem li_ifnull_s {off : Int} {q : Nat} (hd : decode Y.2.1 pc = .ok (.ifnull off, 3)) : lt_run d Y pc ls (.inr (.inr (some q)) :: r) m = lt_run d Y (pc + 3) ls r m := lt_go ((lt_one hd rfl rfl).trans rfl)
theorem li_ifnonnull_n {off : Int} (hd : decode Y.2.1 pc = .ok (.ifnonnull off, 3)) : lt_run d Y pc ls (.inr (.inr none) :: r) m = lt_run d Y (pc + 3) ls r m := lt_go ((lt_one hd rfl rfl).trans rfl)
theorem li_ifnonnull_s {off : Int} {t q : Nat} (hd : decode Y.2.1 pc = .ok (.ifnonnull off, 3)) (ht : ts_jmp pc off = some t) : lt_run d Y pc ls (.inr (.inr (some q)) :: r) m = lt_run d Y t ls r m := lt_go ((lt_one hd rfl rfl).trans (by unfold ts_step ts_to; dsimp only; rw [ht]))
/-- a switch from 0 on -/
theorem li_tsw {dflt : Int} {offs : Array Int} {n len td : Nat} {ts : List Nat} {x : Int32} (hd : decode Y.2.1 pc = .ok (.tableswitch dflt 0 (n : Int) offs, len)) (hdf : ts_jmp pc dflt = some td) (hts : offs.toList.map (ts_jmp pc) = ts.map some) (hn : ts.length = n + 1) :
    lt_run d Y pc ls (.inl x :: r) m = lt_sw x (ts.map fun t => lt_run d Y t ls r m) (lt_run d Y td ls r m) := by
  unfold lt_sw
  rw [List.length_map, hn]
  by_cases h : x.toInt < 0 ∨ (((n + 1 : Nat) : Int) - 1 < x.toInt)
  · rw [if_pos h]
    refine lt_go ((lt_one hd rfl rfl).trans ?_)
    unfold ts_step ts_to
    dsimp only
    rw [if_pos (by omega), hdf]
  · rw [if_neg h]
    have hk : x.toInt.toNat < ts.length := by omega
    rw [List.getElem?_map, List.getElem?_eq_getElem hk]
    simp only [Option.map_some, Option.getD_some]
    refine lt_go ((lt_one hd rfl rfl).trans ?_)
    unfold ts_step ts_to
    dsimp only
    rw [if_neg (by omega)]
    have h1 : (offs.toList.map (ts_jmp pc))[x.toInt.toNat]? = (ts.map some)[x.toInt.toNat]? := by rw [hts]
    rw [List.getElem?_map, List.getElem?_map, List.getElem?_eq_getElem hk, Array.getElem?_toList] at h1
    rw [show x.toInt - 0 = x.toInt by omega]
    cases ho : offs[x.toInt.toNat]? with
    | none => rw [ho] at h1; cases h1
    | some o =>
      rw [ho] at h1
      dsimp only
      simp only [Option.map_some, Option.some.injEq] at h1
      rw [h1]
theorem li_geti {x a c k : Nat} (hd : decode Y.2.1 pc = .ok (.getfield x, 3)) (hf : ts_fld Y.2.2.2.2 x = some (c, k)) (ha : ts_sh a = (0, c)) (hr : ts_isr (ts_ty c k) = false) : lt_run d Y pc ls (.inr (.inr (some a)) :: r) m = lt_run d Y (pc + 3) ls (.inl (m.1 a k) :: r) m :=
  lt_go ((lt_one hd rfl rfl).trans (by unfold ts_step; dsimp only; rw [hf]; dsimp only; rw [if_pos ⟨ha, ts_sh_lt ha (by decide)⟩]; unfold ts_gv; rw [if_neg (by rw [hr]; decide)]; rfl))
theorem li_getr {x a c k o : Nat} (hd : decode Y.2.1 pc = .ok (.getfield x, 3)) (hf : ts_fld Y.2.2.2.2 x = some (c, k)) (ha : ts_sh a = (0, c)) (hr : ts_isr (ts_ty c k) = true) (hm : ts_mu c k = false) (ho : ts_off c k = o) (h0 : ¬ o = 0) : lt_run d Y pc ls (.inr (.inr (some a)) :: r) m = lt_run d Y (pc + 3) ls (.inr (.inr (some (a + o))) :: r) m := by
  refine lt_go ((lt_one hd rfl rfl).trans ?_)
  unfold ts_step
  dsimp only
  rw [hf]
  dsimp only
  rw [if_pos ⟨ha, ts_sh_lt ha (by decide)⟩]
  unfold ts_gv
  rw [if_pos hr]
  have e : (ts_fl m).2.2.1 a k = some (a + o) := by
    show (if a = 0 ∧ k = 7 then some m.2.2.1 else if a = 0 ∧ k = 8 then some m.2.2.2.1 else if a = 12 ∧ k = 0 then m.2.2.2.2 else ts_G a k) = _
    rw [if_neg, if_neg, if_neg]
    · unfold ts_G; simp only [ha]; rw [if_neg (by rw [ho]; exact h0), ho]
    · rintro ⟨rfl, rfl⟩
      have h9 : ts_sh 12 = (0, 9) := by decide +kernel
      rw [h9] at ha; cases ha; cases hm
    · rintro ⟨rfl, rfl⟩
      have h9 : ts_sh 0 = (0, 11) := by decide +kernel
      rw [h9] at ha; cases ha; cases hm
    · rintro ⟨rfl, rfl⟩
      have h9 : ts_sh 0 = (0, 11) := by decide +kernel
      rw [h9] at ha; cases ha; cases hm
  rw [e]
theorem li_getnet {x a : Nat} (hd : decode Y.2.1 pc = .ok (.getfield x, 3)) (hf : ts_fld Y.2.2.2.2 x = some (11, 7)) (ha : ts_sh a = (0, 11)) : lt_run d Y pc ls (.inr (.inr (some a)) :: r) m = lt_run d Y (pc + 3) ls (.inr (.inr (some m.2.2.1)) :: r) m := by
  refine lt_go ((lt_one hd rfl rfl).trans ?_)
  unfold ts_step
  dsimp only
  rw [hf]
  dsimp only
  rw [if_pos ⟨ha, ts_sh_lt ha (by decide)⟩]
  have h0 := ts_sh11 ha
  subst h0
  rfl
theorem li_getdraft {x a : Nat} (hd : decode Y.2.1 pc = .ok (.getfield x, 3)) (hf : ts_fld Y.2.2.2.2 x = some (11, 8)) (ha : ts_sh a = (0, 11)) : lt_run d Y pc ls (.inr (.inr (some a)) :: r) m = lt_run d Y (pc + 3) ls (.inr (.inr (some m.2.2.2.1)) :: r) m := by
  refine lt_go ((lt_one hd rfl rfl).trans ?_)
  unfold ts_step
  dsimp only
  rw [hf]
  dsimp only
  rw [if_pos ⟨ha, ts_sh_lt ha (by decide)⟩]
  have h0 := ts_sh11 ha
  subst h0
  rfl
theorem li_getsnet {x a : Nat} (hd : decode Y.2.1 pc = .ok (.getfield x, 3)) (hf : ts_fld Y.2.2.2.2 x = some (9, 0)) (ha : ts_sh a = (0, 9)) : lt_run d Y pc ls (.inr (.inr (some a)) :: r) m = lt_run d Y (pc + 3) ls (.inr (.inr m.2.2.2.2) :: r) m := by
  refine lt_go ((lt_one hd rfl rfl).trans ?_)
  unfold ts_step
  dsimp only
  rw [hf]
  dsimp only
  rw [if_pos ⟨ha, ts_sh_lt ha (by decide)⟩]
  have h0 := ts_sh9 ha
  subst h0
  rfl

def lm_i (m : lt_m) (a j : Nat) (v : Int32) : lt_m := (ts_up m.1 a j v, m.2)
def lm_l (m : lt_m) (a j : Nat) (v : Int64) : lt_m := (m.1, ts_up m.2.1 a j v, m.2.2)
def lm_net (m : lt_m) (v : Nat) : lt_m := (m.1, m.2.1, v, m.2.2.2)
def lm_draft (m : lt_m) (v : Nat) : lt_m := (m.1, m.2.1, m.2.2.1, v, m.2.2.2.2)
def lm_snet (m : lt_m) (v : Nat) : lt_m := (m.1, m.2.1, m.2.2.1, m.2.2.2.1, some v)
theorem li_puti {x a c k : Nat} {v : Int32} (hd : decode Y.2.1 pc = .ok (.putfield x, 3)) (hf : ts_fld Y.2.2.2.2 x = some (c, k)) (ha : ts_sh a = (0, c)) (hfi : (ts_T c k).2.2.2 = false) (hr : ts_ty c k = .int) : lt_run d Y pc ls (.inl v :: .inr (.inr (some a)) :: r) m = lt_run d Y (pc + 3) ls r (lm_i m a k v) :=
  lt_go ((lt_one hd rfl rfl).trans (by unfold ts_step; dsimp only; rw [hf]; dsimp only; rw [if_neg (by rw [hfi]; intro q; cases q.1), if_pos ⟨ha, ts_sh_lt ha (by decide), Or.inl hr⟩]; rfl))
theorem li_putz {x a c k : Nat} {v : Int32} (hd : decode Y.2.1 pc = .ok (.putfield x, 3)) (hf : ts_fld Y.2.2.2.2 x = some (c, k)) (ha : ts_sh a = (0, c)) (hfi : (ts_T c k).2.2.2 = false) (hr : ts_ty c k = .boolean) : lt_run d Y pc ls (.inl v :: .inr (.inr (some a)) :: r) m = lt_gd (v = 0 ∨ v = 1) (lt_run d Y (pc + 3) ls r (lm_i m a k v)) := by
  unfold lt_gd
  split
  · next h => exact lt_go ((lt_one hd rfl rfl).trans (by unfold ts_step; dsimp only; rw [hf]; dsimp only; rw [if_neg (by rw [hfi]; intro q; cases q.1), if_pos ⟨ha, ts_sh_lt ha (by decide), Or.inr ⟨hr, h⟩⟩]; rfl))
  · next h => exact lt_no ((lt_one hd rfl rfl).trans (by unfold ts_step; dsimp only; rw [hf]; dsimp only; rw [if_neg (by rw [hfi]; intro q; cases q.1), if_neg]; rintro ⟨-, -, q | ⟨-, q⟩⟩; (rw [hr] at q; cases q); exact h q))
theorem li_putnet {x a v : Nat} (hd : decode Y.2.1 pc = .ok (.putfield x, 3)) (hf : ts_fld Y.2.2.2.2 x = some (11, 7)) (ha : ts_sh a = (0, 11)) : lt_run d Y pc ls (.inr (.inr (some v)) :: .inr (.inr (some a)) :: r) m = lt_run d Y (pc + 3) ls r (lm_net m v) := by
  refine lt_go ((lt_one hd rfl rfl).trans ?_)
  unfold ts_step
  dsimp only
  rw [hf]
  dsimp only
  rw [if_neg (by intro q; cases q.1), if_pos ⟨ha, ts_sh_lt ha (by decide), rfl, Or.inr rfl⟩]
  have h0 := ts_sh11 ha
  subst h0
  congr 5
  show ts_wrR (ts_fl m) 0 7 (some v) = _
  unfold ts_wrR ts_fl lm_net
  congr 3
  funext b k
  unfold ts_up
  dsimp only
  repeat' split
  all_goals first | rfl | omega
theorem li_putdraft {x a v : Nat} (hd : decode Y.2.1 pc = .ok (.putfield x, 3)) (hf : ts_fld Y.2.2.2.2 x = some (11, 8)) (ha : ts_sh a = (0, 11)) : lt_run d Y pc ls (.inr (.inr (some v)) :: .inr (.inr (some a)) :: r) m = lt_run d Y (pc + 3) ls r (lm_draft m v) := by
  refine lt_go ((lt_one hd rfl rfl).trans ?_)
  unfold ts_step
  dsimp only
  rw [hf]
  dsimp only
  rw [if_neg (by intro q; cases q.1), if_pos ⟨ha, ts_sh_lt ha (by decide), rfl, Or.inr rfl⟩]
  have h0 := ts_sh11 ha
  subst h0
  congr 5
  show ts_wrR (ts_fl m) 0 8 (some v) = _
  unfold ts_wrR ts_fl lm_draft
  congr 3
  funext b k
  unfold ts_up
  dsimp only
  repeat' split
  all_goals first | rfl | omega
theorem li_putsnet {x a v : Nat} (hd : decode Y.2.1 pc = .ok (.putfield x, 3)) (hf : ts_fld Y.2.2.2.2 x = some (9, 0)) (ha : ts_sh a = (0, 9)) : lt_run d Y pc ls (.inr (.inr (some v)) :: .inr (.inr (some a)) :: r) m = lt_run d Y (pc + 3) ls r (lm_snet m v) := by
  refine lt_go ((lt_one hd rfl rfl).trans ?_)
  unfold ts_step
  dsimp only
  rw [hf]
  dsimp only
  rw [if_neg (by intro q; cases q.1), if_pos ⟨ha, ts_sh_lt ha (by decide), rfl, Or.inr rfl⟩]
  have h0 := ts_sh9 ha
  subst h0
  congr 5
  show ts_wrR (ts_fl m) 12 0 (some v) = _
  unfold ts_wrR ts_fl lm_snet
  congr 3
  funext b k
  unfold ts_up
  dsimp only
  repeat' split
  all_goals first | rfl | omega
theorem li_alen {a t n : Nat} {v : Int32} (hd : decode Y.2.1 pc = .ok (.arraylength, 1)) (ha : ts_sh a = (t, n)) (ht : 1 ≤ t ∧ t ≤ 5) (hv : Int32.ofNat n = v) : lt_run d Y pc ls (.inr (.inr (some a)) :: r) m = lt_run d Y (pc + 1) ls (.inl v :: r) m := by
  subst hv
  refine lt_go ((lt_one hd rfl rfl).trans ?_)
  unfold ts_step
  dsimp only
  rw [ha]
  exact if_pos ⟨ht.1, ht.2, ts_sh_lt ha (by omega)⟩

theorem li_iald {a n : Nat} {j : Int32} (hd : decode Y.2.1 pc = .ok (.iaload, 1)) (ha : ts_sh a = (1, n)) : lt_run d Y pc ls (.inl j :: .inr (.inr (some a)) :: r) m = lt_gd (0 ≤ j ∧ j.toNatClampNeg < n) (lt_run d Y (pc + 1) ls (.inl (m.1 a j.toNatClampNeg) :: r) m) := by
  unfold lt_gd
  split
  · next h =>
    refine lt_go ((lt_one hd rfl rfl).trans ?_)
    unfold ts_step
    dsimp only
    rw [ha]
    exact if_pos ⟨rfl, ts_sh_lt ha (by decide), h.1, h.2⟩
  · next h =>
    refine lt_no ((lt_one hd rfl rfl).trans ?_)
    unfold ts_step
    dsimp only
    rw [ha]
    exact if_neg (fun q => h ⟨q.2.2.1, q.2.2.2⟩)
theorem li_bald {a n : Nat} {j : Int32} (hd : decode Y.2.1 pc = .ok (.baload, 1)) (ha : ts_sh a = (2, n)) : lt_run d Y pc ls (.inl j :: .inr (.inr (some a)) :: r) m = lt_gd (0 ≤ j ∧ j.toNatClampNeg < n) (lt_run d Y (pc + 1) ls (.inl (m.1 a j.toNatClampNeg) :: r) m) := by
  unfold lt_gd
  split
  · next h =>
    refine lt_go ((lt_one hd rfl rfl).trans ?_)
    unfold ts_step
    dsimp only
    rw [ha]
    exact if_pos ⟨rfl, ts_sh_lt ha (by decide), h.1, h.2⟩
  · next h =>
    refine lt_no ((lt_one hd rfl rfl).trans ?_)
    unfold ts_step
    dsimp only
    rw [ha]
    exact if_neg (fun q => h ⟨q.2.2.1, q.2.2.2⟩)
theorem li_lald {a n : Nat} {j : Int32} (hd : decode Y.2.1 pc = .ok (.laload, 1)) (ha : ts_sh a = (3, n)) : lt_run d Y pc ls (.inl j :: .inr (.inr (some a)) :: r) m = lt_gd (0 ≤ j ∧ j.toNatClampNeg < n) (lt_run d Y (pc + 1) ls (.inr (.inl (m.2.1 a j.toNatClampNeg)) :: r) m) := by
  unfold lt_gd
  split
  · next h =>
    refine lt_go ((lt_one hd rfl rfl).trans ?_)
    unfold ts_step
    dsimp only
    rw [ha]
    exact if_pos ⟨rfl, ts_sh_lt ha (by decide), h.1, h.2⟩
  · next h =>
    refine lt_no ((lt_one hd rfl rfl).trans ?_)
    unfold ts_step
    dsimp only
    rw [ha]
    exact if_neg (fun q => h ⟨q.2.2.1, q.2.2.2⟩)
theorem li_iast {a n : Nat} {j : Int32} {v : Int32} (hd : decode Y.2.1 pc = .ok (.iastore, 1)) (ha : ts_sh a = (1, n)) : lt_run d Y pc ls (.inl v :: .inl j :: .inr (.inr (some a)) :: r) m = lt_gd (0 ≤ j ∧ j.toNatClampNeg < n) (lt_run d Y (pc + 1) ls r (lm_i m a j.toNatClampNeg v)) := by
  unfold lt_gd
  split
  · next h =>
    refine lt_go ((lt_one hd rfl rfl).trans ?_)
    unfold ts_step
    dsimp only
    rw [ha]
    exact if_pos ⟨rfl, ts_sh_lt ha (by decide), h.1, h.2⟩
  · next h =>
    refine lt_no ((lt_one hd rfl rfl).trans ?_)
    unfold ts_step
    dsimp only
    rw [ha]
    exact if_neg (fun q => h ⟨q.2.2.1, q.2.2.2⟩)
theorem li_bast {a n : Nat} {j : Int32} {v : Int32} (hd : decode Y.2.1 pc = .ok (.bastore, 1)) (ha : ts_sh a = (2, n)) : lt_run d Y pc ls (.inl v :: .inl j :: .inr (.inr (some a)) :: r) m = lt_gd (0 ≤ j ∧ j.toNatClampNeg < n) (lt_run d Y (pc + 1) ls r (lm_i m a j.toNatClampNeg (vp_nar .byte v))) := by
  unfold lt_gd
  split
  · next h =>
    refine lt_go ((lt_one hd rfl rfl).trans ?_)
    unfold ts_step
    dsimp only
    rw [ha]
    exact if_pos ⟨rfl, ts_sh_lt ha (by decide), h.1, h.2⟩
  · next h =>
    refine lt_no ((lt_one hd rfl rfl).trans ?_)
    unfold ts_step
    dsimp only
    rw [ha]
    exact if_neg (fun q => h ⟨q.2.2.1, q.2.2.2⟩)
theorem li_last {a n : Nat} {j : Int32} {v : Int64} (hd : decode Y.2.1 pc = .ok (.lastore, 1)) (ha : ts_sh a = (3, n)) : lt_run d Y pc ls (.inr (.inl v) :: .inl j :: .inr (.inr (some a)) :: r) m = lt_gd (0 ≤ j ∧ j.toNatClampNeg < n) (lt_run d Y (pc + 1) ls r (lm_l m a j.toNatClampNeg v)) := by
  unfold lt_gd
  split
  · next h =>
    refine lt_go ((lt_one hd rfl rfl).trans ?_)
    unfold ts_step
    dsimp only
    rw [ha]
    exact if_pos ⟨rfl, ts_sh_lt ha (by decide), h.1, h.2⟩
  · next h =>
    refine lt_no ((lt_one hd rfl rfl).trans ?_)
    unfold ts_step
    dsimp only
    rw [ha]
    exact if_neg (fun q => h ⟨q.2.2.1, q.2.2.2⟩)
theorem li_aald4 {a n : Nat} {j : Int32} (hd : decode Y.2.1 pc = .ok (.aaload, 1)) (ha : ts_sh a = (4, n)) : lt_run d Y pc ls (.inl j :: .inr (.inr (some a)) :: r) m = lt_gd (0 ≤ j ∧ j.toNatClampNeg < n) (lt_run d Y (pc + 1) ls (.inr (.inr (some (a + 5 + 3 * j.toNatClampNeg))) :: r) m) := by
  unfold lt_gd
  split
  · next h =>
    refine lt_go ((lt_one hd rfl rfl).trans ?_)
    unfold ts_step
    dsimp only
    rw [ha, if_pos ⟨by simp, ts_sh_lt ha (by decide), h.1, h.2⟩]
    have e : (ts_fl m).2.2.1 a j.toNatClampNeg = some (a + 5 + 3 * j.toNatClampNeg) := by
      refine ((ts_fl_fz m).2.2.2 a _ ?_ ?_ ?_).trans (by unfold ts_G; simp only [ha])
      · rintro ⟨rfl, -⟩; have h9 : ts_sh 0 = (0, 11) := by decide +kernel
        rw [h9] at ha; cases ha
      · rintro ⟨rfl, -⟩; have h9 : ts_sh 0 = (0, 11) := by decide +kernel
        rw [h9] at ha; cases ha
      · rintro ⟨rfl, -⟩; have h9 : ts_sh 12 = (0, 9) := by decide +kernel
        rw [h9] at ha; cases ha
    rw [e]
  · next h =>
    refine lt_no ((lt_one hd rfl rfl).trans ?_)
    unfold ts_step
    dsimp only
    rw [ha]
    exact if_neg (fun q => h ⟨q.2.2.1, q.2.2.2⟩)
theorem li_aald5 {a n : Nat} {j : Int32} (hd : decode Y.2.1 pc = .ok (.aaload, 1)) (ha : ts_sh a = (5, n)) : lt_run d Y pc ls (.inl j :: .inr (.inr (some a)) :: r) m = lt_gd (0 ≤ j ∧ j.toNatClampNeg < n) (lt_run d Y (pc + 1) ls (.inr (.inr (some (a + 69 + 68 * j.toNatClampNeg))) :: r) m) := by
  unfold lt_gd
  split
  · next h =>
    refine lt_go ((lt_one hd rfl rfl).trans ?_)
    unfold ts_step
    dsimp only
    rw [ha, if_pos ⟨by simp, ts_sh_lt ha (by decide), h.1, h.2⟩]
    have e : (ts_fl m).2.2.1 a j.toNatClampNeg = some (a + 69 + 68 * j.toNatClampNeg) := by
      refine ((ts_fl_fz m).2.2.2 a _ ?_ ?_ ?_).trans (by unfold ts_G; simp only [ha])
      · rintro ⟨rfl, -⟩; have h9 : ts_sh 0 = (0, 11) := by decide +kernel
        rw [h9] at ha; cases ha
      · rintro ⟨rfl, -⟩; have h9 : ts_sh 0 = (0, 11) := by decide +kernel
        rw [h9] at ha; cases ha
      · rintro ⟨rfl, -⟩; have h9 : ts_sh 12 = (0, 9) := by decide +kernel
        rw [h9] at ha; cases ha
    rw [e]
  · next h =>
    refine lt_no ((lt_one hd rfl rfl).trans ?_)
    unfold ts_step
    dsimp only
    rw [ha]
    exact if_neg (fun q => h ⟨q.2.2.1, q.2.2.2⟩)
def lm_min (x y : Int32) : Int32 := if y < x then y else x
def lm_max (x y : Int32) : Int32 := if x < y then y else x
theorem li_min {x : Nat} {y z : Int32} (hd : decode Y.2.1 pc = .ok (.invokestatic x, 3)) (hb : ts_bi Y.2.2.2.2 x = 2) (hr : ts_cats r ≤ 8) : lt_run d Y pc ls (.inl y :: .inl z :: r) m = lt_run d Y (pc + 3) ls (.inl (lm_min z y) :: r) m := by
  refine lt_go ((lt_one hd rfl rfl).trans ?_)
  unfold ts_step
  dsimp only
  rw [hb]
  exact if_pos hr
theorem li_max {x : Nat} {y z : Int32} (hd : decode Y.2.1 pc = .ok (.invokestatic x, 3)) (hb : ts_bi Y.2.2.2.2 x = 3) (hr : ts_cats r ≤ 8) : lt_run d Y pc ls (.inl y :: .inl z :: r) m = lt_run d Y (pc + 3) ls (.inl (lm_max z y) :: r) m := by
  refine lt_go ((lt_one hd rfl rfl).trans ?_)
  unfold ts_step
  dsimp only
  rw [hb]
  exact if_pos hr
theorem lt_backI {o : Option lt_r} : ((ts_back 1 (o.map fun q => (q.1, ts_fl q.2)) pc ls r).elim none fun z => match z with | .inl f => ((ts_run (ts_ev d) Y f).map fun r => (r.1, ts_un r.2)) | .inr q => some (q.1, ts_un q.2)) = lt_cI o fun v m' => lt_run d Y (pc + 3) ls (.inl v :: r) m' := by
  rcases o with _ | ⟨_ | v | v | v, m'⟩ <;> rfl
theorem lt_backV {o : Option lt_r} : ((ts_back 0 (o.map fun q => (q.1, ts_fl q.2)) pc ls r).elim none fun z => match z with | .inl f => ((ts_run (ts_ev d) Y f).map fun r => (r.1, ts_un r.2)) | .inr q => some (q.1, ts_un q.2)) = lt_cV o fun m' => lt_run d Y (pc + 3) ls r m' := by
  rcases o with _ | ⟨_ | v | v | v, m'⟩ <;> rfl
theorem lt_backR {o : Option lt_r} : ((ts_back 3 (o.map fun q => (q.1, ts_fl q.2)) pc ls r).elim none fun z => match z with | .inl f => ((ts_run (ts_ev d) Y f).map fun r => (r.1, ts_un r.2)) | .inr q => some (q.1, ts_un q.2)) = lt_cR o fun v m' => lt_run d Y (pc + 3) ls (.inr (.inr v) :: r) m' := by
  rcases o with _ | ⟨_ | v | v | v, m'⟩ <;> rfl
theorem lt_backL {o : Option lt_r} : ((ts_back 2 (o.map fun q => (q.1, ts_fl q.2)) pc ls r).elim none fun z => match z with | .inl f => ((ts_run (ts_ev d) Y f).map fun r => (r.1, ts_un r.2)) | .inr q => some (q.1, ts_un q.2)) = lt_cL o fun v m' => lt_run d Y (pc + 3) ls (.inr (.inl v) :: r) m' := by
  rcases o with _ | ⟨_ | v | v | v, m'⟩ <;> rfl
theorem lt_run_any {st : List ts_V} {o : Option (ts_F ⊕ ts_R)} (h : ts_one (ts_ev d) Y (pc, ls, st, ts_fl m) = o) : lt_run d Y pc ls st m = o.elim none fun z => match z with | .inl f => ((ts_run (ts_ev d) Y f).map fun r => (r.1, ts_un r.2)) | .inr q => some (q.1, ts_un q.2) := by
  unfold lt_run
  rw [ts_run_step, h]
  rcases o with _ | z | z <;> rfl
theorem lt_inv1 {x y n b z : Nat} {st As : List ts_V} (hd : decode Y.2.1 pc = .ok (.invokevirtual x, 3)) (hc : ts_cal Y.2.2.2.2 x = some (y, n, 0, z)) (hst : st.drop n = .inr (.inr (some b)) :: r) (hA : (st.take n).reverse = As) (hs : ts_sh b = (0, ts_cls y)) (h9 : n ≤ st.length) (hr : ts_cats r ≤ 8) : ts_one (ts_ev d) Y (pc, ls, st, ts_fl m) = ts_back (ts_knd y) ((lt_ev d y (.inr (.inr (some b)) :: As) m).map fun q => (q.1, ts_fl q.2)) pc ls r := by
  refine (lt_one hd rfl rfl).trans ?_
  unfold ts_step
  try dsimp only
  rw [hc]
  show (match st.drop n with
    | .inr (.inr (some b)) :: r => if ts_sh b = (0, ts_cls y) ∧ b < (ts_fl m).2.2.2 ∧ n ≤ st.length ∧ ts_cats r ≤ 8 then ts_back (ts_knd y) (ts_ev d y (.inr (.inr (some b)) :: (st.take n).reverse) (ts_fl m)) pc ls r else none
    | _ => none) = _
  rw [hst]
  try dsimp only
  rw [if_pos ⟨hs, ts_sh_lt hs (by decide), h9, hr⟩, hA, lt_ev_fl (ts_ni_of hc (by decide))]
theorem lt_inv2 {x y n z : Nat} {st As : List ts_V} (hd : decode Y.2.1 pc = .ok (.invokestatic x, 3)) (hb : ts_bi Y.2.2.2.2 x = 0) (hc : ts_cal Y.2.2.2.2 x = some (y, n, 1, z)) (hst : st.drop n = r) (hA : (st.take n).reverse = As) (h9 : n ≤ st.length) (hr : ts_cats r ≤ 8) : ts_one (ts_ev d) Y (pc, ls, st, ts_fl m) = ts_back (ts_knd y) ((lt_ev d y As m).map fun q => (q.1, ts_fl q.2)) pc ls r := by
  refine (lt_one hd rfl rfl).trans ?_
  subst hst
  unfold ts_step
  try dsimp only
  rw [hb, hc]
  show (if n ≤ st.length ∧ ts_cats (st.drop n) ≤ 8 then ts_back (ts_knd y) (ts_ev d y (st.take n).reverse (ts_fl m)) pc ls (st.drop n) else none) = _
  rw [if_pos ⟨h9, hr⟩, hA, lt_ev_fl (ts_ni_of hc (by decide))]
theorem li_ivV {x y n b z c9 : Nat} {st As : List ts_V} (hd : decode Y.2.1 pc = .ok (.invokevirtual x, 3)) (hc : ts_cal Y.2.2.2.2 x = some (y, n, 0, z)) (hk : ts_knd y = 0) (hcl : ts_cls y = c9) (hst : st.drop n = .inr (.inr (some b)) :: r) (hA : (st.take n).reverse = As) (hs : ts_sh b = (0, c9)) (h9 : n ≤ st.length) (hr : ts_cats r ≤ 8) : lt_run d Y pc ls st m = lt_cV (lt_ev d y (.inr (.inr (some b)) :: As) m) fun m' => lt_run d Y (pc + 3) ls r m' := by
  refine (lt_run_any (lt_inv1 hd hc hst hA (by rw [hcl]; exact hs) h9 hr)).trans ?_
  rw [hk]
  exact lt_backV
theorem li_isV {x y n z : Nat} {st As : List ts_V} (hd : decode Y.2.1 pc = .ok (.invokestatic x, 3)) (hb : ts_bi Y.2.2.2.2 x = 0) (hc : ts_cal Y.2.2.2.2 x = some (y, n, 1, z)) (hk : ts_knd y = 0) (hst : st.drop n = r) (hA : (st.take n).reverse = As) (h9 : n ≤ st.length) (hr : ts_cats r ≤ 8) : lt_run d Y pc ls st m = lt_cV (lt_ev d y As m) fun m' => lt_run d Y (pc + 3) ls r m' := by
  refine (lt_run_any (lt_inv2 hd hb hc hst hA h9 hr)).trans ?_
  rw [hk]
  exact lt_backV
theorem li_ivI {x y n b z c9 : Nat} {st As : List ts_V} (hd : decode Y.2.1 pc = .ok (.invokevirtual x, 3)) (hc : ts_cal Y.2.2.2.2 x = some (y, n, 0, z)) (hk : ts_knd y = 1) (hcl : ts_cls y = c9) (hst : st.drop n = .inr (.inr (some b)) :: r) (hA : (st.take n).reverse = As) (hs : ts_sh b = (0, c9)) (h9 : n ≤ st.length) (hr : ts_cats r ≤ 8) : lt_run d Y pc ls st m = lt_cI (lt_ev d y (.inr (.inr (some b)) :: As) m) fun v m' => lt_run d Y (pc + 3) ls (.inl v :: r) m' := by
  refine (lt_run_any (lt_inv1 hd hc hst hA (by rw [hcl]; exact hs) h9 hr)).trans ?_
  rw [hk]
  exact lt_backI
theorem li_isI {x y n z : Nat} {st As : List ts_V} (hd : decode Y.2.1 pc = .ok (.invokestatic x, 3)) (hb : ts_bi Y.2.2.2.2 x = 0) (hc : ts_cal Y.2.2.2.2 x = some (y, n, 1, z)) (hk : ts_knd y = 1) (hst : st.drop n = r) (hA : (st.take n).reverse = As) (h9 : n ≤ st.length) (hr : ts_cats r ≤ 8) : lt_run d Y pc ls st m = lt_cI (lt_ev d y As m) fun v m' => lt_run d Y (pc + 3) ls (.inl v :: r) m' := by
  refine (lt_run_any (lt_inv2 hd hb hc hst hA h9 hr)).trans ?_
  rw [hk]
  exact lt_backI
theorem li_ivL {x y n b z c9 : Nat} {st As : List ts_V} (hd : decode Y.2.1 pc = .ok (.invokevirtual x, 3)) (hc : ts_cal Y.2.2.2.2 x = some (y, n, 0, z)) (hk : ts_knd y = 2) (hcl : ts_cls y = c9) (hst : st.drop n = .inr (.inr (some b)) :: r) (hA : (st.take n).reverse = As) (hs : ts_sh b = (0, c9)) (h9 : n ≤ st.length) (hr : ts_cats r ≤ 8) : lt_run d Y pc ls st m = lt_cL (lt_ev d y (.inr (.inr (some b)) :: As) m) fun v m' => lt_run d Y (pc + 3) ls (.inr (.inl v) :: r) m' := by
  refine (lt_run_any (lt_inv1 hd hc hst hA (by rw [hcl]; exact hs) h9 hr)).trans ?_
  rw [hk]
  exact lt_backL
theorem li_isL {x y n z : Nat} {st As : List ts_V} (hd : decode Y.2.1 pc = .ok (.invokestatic x, 3)) (hb : ts_bi Y.2.2.2.2 x = 0) (hc : ts_cal Y.2.2.2.2 x = some (y, n, 1, z)) (hk : ts_knd y = 2) (hst : st.drop n = r) (hA : (st.take n).reverse = As) (h9 : n ≤ st.length) (hr : ts_cats r ≤ 8) : lt_run d Y pc ls st m = lt_cL (lt_ev d y As m) fun v m' => lt_run d Y (pc + 3) ls (.inr (.inl v) :: r) m' := by
  refine (lt_run_any (lt_inv2 hd hb hc hst hA h9 hr)).trans ?_
  rw [hk]
  exact lt_backL
theorem li_ivR {x y n b z c9 : Nat} {st As : List ts_V} (hd : decode Y.2.1 pc = .ok (.invokevirtual x, 3)) (hc : ts_cal Y.2.2.2.2 x = some (y, n, 0, z)) (hk : ts_knd y = 3) (hcl : ts_cls y = c9) (hst : st.drop n = .inr (.inr (some b)) :: r) (hA : (st.take n).reverse = As) (hs : ts_sh b = (0, c9)) (h9 : n ≤ st.length) (hr : ts_cats r ≤ 8) : lt_run d Y pc ls st m = lt_cR (lt_ev d y (.inr (.inr (some b)) :: As) m) fun v m' => lt_run d Y (pc + 3) ls (.inr (.inr v) :: r) m' := by
  refine (lt_run_any (lt_inv1 hd hc hst hA (by rw [hcl]; exact hs) h9 hr)).trans ?_
  rw [hk]
  exact lt_backR
theorem li_isR {x y n z : Nat} {st As : List ts_V} (hd : decode Y.2.1 pc = .ok (.invokestatic x, 3)) (hb : ts_bi Y.2.2.2.2 x = 0) (hc : ts_cal Y.2.2.2.2 x = some (y, n, 1, z)) (hk : ts_knd y = 3) (hst : st.drop n = r) (hA : (st.take n).reverse = As) (h9 : n ≤ st.length) (hr : ts_cats r ≤ 8) : lt_run d Y pc ls st m = lt_cR (lt_ev d y As m) fun v m' => lt_run d Y (pc + 3) ls (.inr (.inr v) :: r) m' := by
  refine (lt_run_any (lt_inv2 hd hb hc hst hA h9 hr)).trans ?_
  rw [hk]
  exact lt_backR
theorem lt_enter2 {y : Nat} {As : List ts_V} (hY : ts_mL[y]? = some Y) (hl : (ts_ar As).length ≤ Y.2.2.1) (h0 : ts_l0 As Y.2.2.1 = ls) : lt_ev (d + 1) y As m = lt_run d Y 0 ls [] m := by subst h0; exact lt_enter hY hl
theorem lt_nl_x {o : Option Nat} {F : Option Nat → Option lt_r} {A : Option lt_r} {B : Nat → Option lt_r} (h1 : F none = A) (h2 : ∀ q, F (some q) = B q) : F o = lt_nl o A B := by
  cases o with
  | none => exact h1
  | some q => exact h2 q
theorem lt_sw_c {x : Int32} {ks ks' : List (Option lt_r)} {k k' : Option lt_r} (h1 : ks = ks') (h2 : k = k') : lt_sw x ks k = lt_sw x ks' k' := by rw [h1, h2]
theorem lt_l2 {α : Type} {a a' : α} {l l' : List α} (h1 : a = a') (h2 : l = l') : a :: l = a' :: l' := by rw [h1, h2]
theorem li_gget {x a c k : Nat} (hd : decode Y.2.1 pc = .ok (.getfield x, 3)) (hf : ts_fld Y.2.2.2.2 x = some (c, k)) : lt_run d Y pc ls (.inr (.inr (some a)) :: r) m = lt_gd (ts_sh a = (0, c)) (lt_run d Y pc ls (.inr (.inr (some a)) :: r) m) := by
  unfold lt_gd
  split
  · rfl
  · next h => exact lt_no ((lt_one hd rfl rfl).trans (by unfold ts_step; dsimp only; rw [hf]; exact if_neg (fun q => h q.1)))
theorem li_ginv {x y n z c9 a : Nat} {st : List ts_V} (hd : decode Y.2.1 pc = .ok (.invokevirtual x, 3)) (hc : ts_cal Y.2.2.2.2 x = some (y, n, 0, z)) (hcl : ts_cls y = c9) (hst : st.drop n = .inr (.inr (some a)) :: r) : lt_run d Y pc ls st m = lt_gd (ts_sh a = (0, c9)) (lt_run d Y pc ls st m) := by
  unfold lt_gd
  split
  · rfl
  · next h =>
    refine lt_no ((lt_one hd rfl rfl).trans ?_)
    unfold ts_step
    dsimp only
    rw [hc]
    show (match st.drop n with
      | .inr (.inr (some b)) :: r => if ts_sh b = (0, ts_cls y) ∧ b < (ts_fl m).2.2.2 ∧ n ≤ st.length ∧ ts_cats r ≤ 8 then ts_back (ts_knd y) (ts_ev d y (.inr (.inr (some b)) :: (st.take n).reverse) (ts_fl m)) pc ls r else none
      | _ => none) = _
    rw [hst]
    exact if_neg (fun q => h (by rw [← hcl]; exact q.1))
theorem li_iret {v : Int32} (hd : decode Y.2.1 pc = .ok (.ireturn, 1)) (hr : Y.2.2.2.1 = some .int) : lt_run d Y pc ls [.inl v] m = some (some (.inl v), m) := lt_end ((lt_one hd rfl rfl).trans (if_pos (Or.inl hr)))
theorem li_zret {v : Int32} (hd : decode Y.2.1 pc = .ok (.ireturn, 1)) (hr : Y.2.2.2.1 = some .boolean) (hv : v = 0 ∨ v = 1) : lt_run d Y pc ls [.inl v] m = some (some (.inl v), m) := lt_end ((lt_one hd rfl rfl).trans (if_pos (Or.inr ⟨hr, hv⟩)))
theorem li_zretg {v : Int32} (hd : decode Y.2.1 pc = .ok (.ireturn, 1)) (hr : Y.2.2.2.1 = some .boolean) : lt_run d Y pc ls [.inl v] m = lt_gd (v = 0 ∨ v = 1) (some (some (.inl v), m)) := by
  unfold lt_gd
  split
  · next h => exact li_zret hd hr h
  · next h => exact lt_no ((lt_one hd rfl rfl).trans (if_neg (by rintro (q | ⟨-, q⟩); (rw [hr] at q; cases q); exact h q)))
theorem li_lret {v : Int64} (hd : decode Y.2.1 pc = .ok (.lreturn, 1)) (hr : Y.2.2.2.1 = some .long) : lt_run d Y pc ls [.inr (.inl v)] m = some (some (.inr (.inl v)), m) := lt_end ((lt_one hd rfl rfl).trans (if_pos hr))
theorem li_vret (hd : decode Y.2.1 pc = .ok (.return_, 1)) (hr : Y.2.2.2.1 = none) : lt_run d Y pc ls [] m = some (none, m) := lt_end ((lt_one hd rfl rfl).trans (if_pos hr))
theorem li_aret {o : Option Nat} {n : String} (hd : decode Y.2.1 pc = .ok (.areturn, 1)) (hr : Y.2.2.2.1 = some (.object n)) : lt_run d Y pc ls [.inr (.inr o)] m = some (some (.inr (.inr o)), m) := lt_end ((lt_one hd rfl rfl).trans (by unfold ts_step; dsimp only; rw [hr]))
end LI

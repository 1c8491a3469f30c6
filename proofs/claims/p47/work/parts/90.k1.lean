/-! ===== runs with stops: where a run comes to one of them, K says what it answers ===== -/
section RN
variable {σ ρ : Type}
def rnN (one : σ → Option (σ ⊕ ρ)) : Nat → σ → Option ρ
  | 0, _ => none
  | n + 1, f => match one f with
    | some (.inl g) => rnN one n g
    | some (.inr r) => some r
    | none => none
theorem rnN_more {one : σ → Option (σ ⊕ ρ)} : ∀ (n : Nat) (f : σ) (r : ρ), rnN one n f = some r → rnN one (n + 1) f = some r := by
  intro n
  induction n with
  | zero => intro f r h; simp [rnN] at h
  | succ n ih =>
    intro f r h
    rw [rnN] at h ⊢
    cases h1 : one f with
    | none => rw [h1] at h; exact h
    | some z => cases z with
      | inl g => rw [h1] at h; exact ih g r h
      | inr q => rw [h1] at h; exact h
theorem rnN_le {one : σ → Option (σ ⊕ ρ)} {n m : Nat} (hnm : n ≤ m) {f : σ} {r : ρ} (h : rnN one n f = some r) : rnN one m f = some r := by
  obtain ⟨k, rfl⟩ := Nat.le.dest hnm
  induction k with
  | zero => exact h
  | succ k ih => exact rnN_more _ _ _ (ih (Nat.le_add_right _ _))
noncomputable def rn (one : σ → Option (σ ⊕ ρ)) (f : σ) : Option ρ := @dite (Option ρ) (∃ (r : ρ) (n : Nat), rnN one n f = some r) (Classical.propDecidable _) (fun h => some h.choose) (fun _ => none)
theorem rn_of {one : σ → Option (σ ⊕ ρ)} {f : σ} {r : ρ} {n : Nat} (h : rnN one n f = some r) : rn one f = some r := by
  have hx : ∃ (r : ρ) (n : Nat), rnN one n f = some r := ⟨r, n, h⟩
  unfold rn
  rw [dif_pos hx]
  obtain ⟨m, hm⟩ := hx.choose_spec
  have h1 := rnN_le (Nat.le_max_left n m) h
  have h2 := rnN_le (Nat.le_max_right n m) hm
  rw [h1] at h2
  rw [← Option.some.inj h2]
theorem rn_ex {one : σ → Option (σ ⊕ ρ)} {f : σ} {r : ρ} (h : rn one f = some r) : ∃ n : Nat, rnN one n f = some r := by
  unfold rn at h
  by_cases hx : ∃ (r : ρ) (n : Nat), rnN one n f = some r
  · rw [dif_pos hx] at h
    rw [← Option.some.inj h]
    exact hx.choose_spec
  · rw [dif_neg hx] at h
    cases h
theorem rn_step (one : σ → Option (σ ⊕ ρ)) (f : σ) : rn one f = match one f with
    | some (.inl g) => rn one g
    | some (.inr r) => some r
    | none => none := by
  apply Option.ext
  intro r
  constructor
  · intro h
    obtain ⟨n, hn⟩ := rn_ex h
    cases n with
    | zero => simp [rnN] at hn
    | succ n =>
      rw [rnN] at hn
      cases h1 : one f with
      | none => rw [h1] at hn; cases hn
      | some z => cases z with
        | inl g => rw [h1] at hn; exact rn_of hn
        | inr q => rw [h1] at hn; exact hn
  · intro h
    cases h1 : one f with
    | none => rw [h1] at h; cases h
    | some z => cases z with
      | inl g =>
        rw [h1] at h
        obtain ⟨n, hn⟩ := rn_ex (show rn one g = some r from h)
        exact rn_of (n := n + 1) (by rw [rnN, h1]; exact hn)
      | inr q => rw [h1] at h; exact rn_of (n := 1) (by rw [rnN, h1]; exact h)
end RN
abbrev lk_K : Type := Nat → List (Option ts_V) → List ts_V → lt_m → Option lt_r
def lk_one (S : Nat → Bool) (K : lk_K) (call : ts_C) (Y : ts_Y) (f : ts_F) : Option (ts_F ⊕ ts_R) := if S f.1 = true then (K f.1 f.2.1 f.2.2.1 (ts_un f.2.2.2)).map (fun r => .inr (r.1, ts_fl r.2)) else ts_one call Y f
noncomputable def lt_rk (S : Nat → Bool) (K : lk_K) (d : Nat) (Y : ts_Y) (pc : Nat) (ls : List (Option ts_V)) (st : List ts_V) (m : lt_m) : Option lt_r := (rn (lk_one S K (ts_ev d) Y) (pc, ls, st, ts_fl m)).map fun r => (r.1, ts_un r.2)
section LK
variable {S : Nat → Bool} {K : lk_K} {d : Nat} {Y : ts_Y} {pc : Nat} {ls : List (Option ts_V)} {r : List ts_V} {m : lt_m}
theorem lk_stop {st : List ts_V} (h : S pc = true) : lt_rk S K d Y pc ls st m = K pc ls st m := by
  unfold lt_rk
  rw [rn_step]
  have e : lk_one S K (ts_ev d) Y (pc, ls, st, ts_fl m) = (K pc ls st m).map (fun r => .inr (r.1, ts_fl r.2)) := if_pos h
  rw [e]
  cases K pc ls st m with
  | none => rfl
  | some r => rfl
theorem lk_go {pc' : Nat} {ls' : List (Option ts_V)} {st st' : List ts_V} {m' : lt_m} (hs : S pc = false) (h : ts_one (ts_ev d) Y (pc, ls, st, ts_fl m) = some (.inl (pc', ls', st', ts_fl m'))) : lt_rk S K d Y pc ls st m = lt_rk S K d Y pc' ls' st' m' := by
  unfold lt_rk
  rw [rn_step, show lk_one S K (ts_ev d) Y (pc, ls, st, ts_fl m) = ts_one (ts_ev d) Y (pc, ls, st, ts_fl m) from if_neg (by rw [hs]; decide), h]
theorem lk_end {st : List ts_V} {v : Option ts_V} {m' : lt_m} (hs : S pc = false) (h : ts_one (ts_ev d) Y (pc, ls, st, ts_fl m) = some (.inr (v, ts_fl m'))) : lt_rk S K d Y pc ls st m = some (v, m') := by
  unfold lt_rk
  rw [rn_step, show lk_one S K (ts_ev d) Y (pc, ls, st, ts_fl m) = ts_one (ts_ev d) Y (pc, ls, st, ts_fl m) from if_neg (by rw [hs]; decide), h]; rfl
theorem lk_no {st : List ts_V} (hs : S pc = false) (h : ts_one (ts_ev d) Y (pc, ls, st, ts_fl m) = none) : lt_rk S K d Y pc ls st m = none := by
  unfold lt_rk
  rw [rn_step, show lk_one S K (ts_ev d) Y (pc, ls, st, ts_fl m) = ts_one (ts_ev d) Y (pc, ls, st, ts_fl m) from if_neg (by rw [hs]; decide), h]; rfl
theorem lk_run_any {st : List ts_V} {o : Option (ts_F ⊕ ts_R)} (hs : S pc = false) (h : ts_one (ts_ev d) Y (pc, ls, st, ts_fl m) = o) : lt_rk S K d Y pc ls st m = o.elim none fun z => match z with | .inl f => ((rn (lk_one S K (ts_ev d) Y) f).map fun r => (r.1, ts_un r.2)) | .inr q => some (q.1, ts_un q.2) := by
  unfold lt_rk
  rw [rn_step, show lk_one S K (ts_ev d) Y (pc, ls, st, ts_fl m) = ts_one (ts_ev d) Y (pc, ls, st, ts_fl m) from if_neg (by rw [hs]; decide), h]
  rcases o with _ | z | z <;> rfl
theorem lk_backI {o : Option lt_r} : ((ts_back 1 (o.map fun q => (q.1, ts_fl q.2)) pc ls r).elim none fun z => match z with | .inl f => ((rn (lk_one S K (ts_ev d) Y) f).map fun r => (r.1, ts_un r.2)) | .inr q => some (q.1, ts_un q.2)) = lt_cI o fun v m' => lt_rk S K d Y (pc + 3) ls (.inl v :: r) m' := by
  rcases o with _ | ⟨_ | v | v | v, m'⟩ <;> rfl
theorem lk_backV {o : Option lt_r} : ((ts_back 0 (o.map fun q => (q.1, ts_fl q.2)) pc ls r).elim none fun z => match z with | .inl f => ((rn (lk_one S K (ts_ev d) Y) f).map fun r => (r.1, ts_un r.2)) | .inr q => some (q.1, ts_un q.2)) = lt_cV o fun m' => lt_rk S K d Y (pc + 3) ls (r) m' := by
  rcases o with _ | ⟨_ | v | v | v, m'⟩ <;> rfl
theorem lk_backL {o : Option lt_r} : ((ts_back 2 (o.map fun q => (q.1, ts_fl q.2)) pc ls r).elim none fun z => match z with | .inl f => ((rn (lk_one S K (ts_ev d) Y) f).map fun r => (r.1, ts_un r.2)) | .inr q => some (q.1, ts_un q.2)) = lt_cL o fun v m' => lt_rk S K d Y (pc + 3) ls (.inr (.inl v) :: r) m' := by
  rcases o with _ | ⟨_ | v | v | v, m'⟩ <;> rfl
theorem lj_iadd {x y : Int32} (h7 : S pc = false) (hd : decode Y.2.1 pc = .ok (.iadd, 1)) : lt_rk S K d Y pc ls (.inl y :: .inl x :: r) m = lt_rk S K d Y (pc + 1) ls (.inl (x + y) :: r) m := lk_go h7 ((lt_one hd rfl rfl).trans rfl)
theorem lj_isub {x y : Int32} (h7 : S pc = false) (hd : decode Y.2.1 pc = .ok (.isub, 1)) : lt_rk S K d Y pc ls (.inl y :: .inl x :: r) m = lt_rk S K d Y (pc + 1) ls (.inl (x - y) :: r) m := lk_go h7 ((lt_one hd rfl rfl).trans rfl)
theorem lj_imul {x y : Int32} (h7 : S pc = false) (hd : decode Y.2.1 pc = .ok (.imul, 1)) : lt_rk S K d Y pc ls (.inl y :: .inl x :: r) m = lt_rk S K d Y (pc + 1) ls (.inl (x * y) :: r) m := lk_go h7 ((lt_one hd rfl rfl).trans rfl)
theorem lj_iand {x y : Int32} (h7 : S pc = false) (hd : decode Y.2.1 pc = .ok (.iand, 1)) : lt_rk S K d Y pc ls (.inl y :: .inl x :: r) m = lt_rk S K d Y (pc + 1) ls (.inl (x &&& y) :: r) m := lk_go h7 ((lt_one hd rfl rfl).trans rfl)
theorem lj_ior {x y : Int32} (h7 : S pc = false) (hd : decode Y.2.1 pc = .ok (.ior, 1)) : lt_rk S K d Y pc ls (.inl y :: .inl x :: r) m = lt_rk S K d Y (pc + 1) ls (.inl (x ||| y) :: r) m := lk_go h7 ((lt_one hd rfl rfl).trans rfl)
theorem lj_ixor {x y : Int32} (h7 : S pc = false) (hd : decode Y.2.1 pc = .ok (.ixor, 1)) : lt_rk S K d Y pc ls (.inl y :: .inl x :: r) m = lt_rk S K d Y (pc + 1) ls (.inl (x ^^^ y) :: r) m := lk_go h7 ((lt_one hd rfl rfl).trans rfl)
theorem lj_ishl {x y : Int32} (h7 : S pc = false) (hd : decode Y.2.1 pc = .ok (.ishl, 1)) : lt_rk S K d Y pc ls (.inl y :: .inl x :: r) m = lt_rk S K d Y (pc + 1) ls (.inl (x <<< (y &&& 31)) :: r) m := lk_go h7 ((lt_one hd rfl rfl).trans rfl)
theorem lj_ishr {x y : Int32} (h7 : S pc = false) (hd : decode Y.2.1 pc = .ok (.ishr, 1)) : lt_rk S K d Y pc ls (.inl y :: .inl x :: r) m = lt_rk S K d Y (pc + 1) ls (.inl (x >>> (y &&& 31)) :: r) m := lk_go h7 ((lt_one hd rfl rfl).trans rfl)
theorem lj_iushr {x y : Int32} (h7 : S pc = false) (hd : decode Y.2.1 pc = .ok (.iushr, 1)) : lt_rk S K d Y pc ls (.inl y :: .inl x :: r) m = lt_rk S K d Y (pc + 1) ls (.inl ((x.toUInt32 >>> (y.toUInt32 &&& Int32.toUInt32 31)).toInt32) :: r) m := lk_go h7 ((lt_one hd rfl rfl).trans rfl)
theorem lj_idiv {x y : Int32} (h7 : S pc = false) (hd : decode Y.2.1 pc = .ok (.idiv, 1)) : lt_rk S K d Y pc ls (.inl y :: .inl x :: r) m = lt_gd (¬ y = 0) (lt_rk S K d Y (pc + 1) ls (.inl (x / y) :: r) m) := by
  unfold lt_gd
  split
  · next h => exact lk_go h7 ((lt_one hd rfl rfl).trans (if_pos h))
  · next h => exact lk_no h7 ((lt_one hd rfl rfl).trans (if_neg h))
theorem lj_irem {x y : Int32} (h7 : S pc = false) (hd : decode Y.2.1 pc = .ok (.irem, 1)) : lt_rk S K d Y pc ls (.inl y :: .inl x :: r) m = lt_gd (¬ y = 0) (lt_rk S K d Y (pc + 1) ls (.inl (x - x / y * y) :: r) m) := by
  unfold lt_gd
  split
  · next h => exact lk_go h7 ((lt_one hd rfl rfl).trans (if_pos h))
  · next h => exact lk_no h7 ((lt_one hd rfl rfl).trans (if_neg h))
theorem lj_ldiv {x y : Int64} (h7 : S pc = false) (hd : decode Y.2.1 pc = .ok (.ldiv, 1)) : lt_rk S K d Y pc ls (.inr (.inl y) :: .inr (.inl x) :: r) m = lt_gd (¬ y = 0) (lt_rk S K d Y (pc + 1) ls (.inr (.inl (x / y)) :: r) m) := by
  unfold lt_gd
  split
  · next h => exact lk_go h7 ((lt_one hd rfl rfl).trans (if_pos h))
  · next h => exact lk_no h7 ((lt_one hd rfl rfl).trans (if_neg h))
theorem lj_lmul {x y : Int64} (h7 : S pc = false) (hd : decode Y.2.1 pc = .ok (.lmul, 1)) : lt_rk S K d Y pc ls (.inr (.inl y) :: .inr (.inl x) :: r) m = lt_rk S K d Y (pc + 1) ls (.inr (.inl (x * y)) :: r) m := lk_go h7 ((lt_one hd rfl rfl).trans rfl)
theorem lj_ladd {x y : Int64} (h7 : S pc = false) (hd : decode Y.2.1 pc = .ok (.ladd, 1)) : lt_rk S K d Y pc ls (.inr (.inl y) :: .inr (.inl x) :: r) m = lt_rk S K d Y (pc + 1) ls (.inr (.inl (x + y)) :: r) m := lk_go h7 ((lt_one hd rfl rfl).trans rfl)
theorem lj_lsub {x y : Int64} (h7 : S pc = false) (hd : decode Y.2.1 pc = .ok (.lsub, 1)) : lt_rk S K d Y pc ls (.inr (.inl y) :: .inr (.inl x) :: r) m = lt_rk S K d Y (pc + 1) ls (.inr (.inl (x - y)) :: r) m := lk_go h7 ((lt_one hd rfl rfl).trans rfl)
theorem lj_l2i {x : Int64} (h7 : S pc = false) (hd : decode Y.2.1 pc = .ok (.l2i, 1)) : lt_rk S K d Y pc ls (.inr (.inl x) :: r) m = lt_rk S K d Y (pc + 1) ls (.inl x.toInt32 :: r) m := lk_go h7 ((lt_one hd rfl rfl).trans rfl)
theorem lj_pop {v : ts_V} (h7 : S pc = false) (hd : decode Y.2.1 pc = .ok (.pop, 1)) (hc : ts_cat1 v = true) : lt_rk S K d Y pc ls (v :: r) m = lt_rk S K d Y (pc + 1) ls r m := lk_go h7 ((lt_one hd rfl rfl).trans (if_pos hc))
theorem lj_lcmp {x y : Int64} (h7 : S pc = false) (hd : decode Y.2.1 pc = .ok (.lcmp, 1)) : lt_rk S K d Y pc ls (.inr (.inl y) :: .inr (.inl x) :: r) m = lt_rk S K d Y (pc + 1) ls (.inl (lg_cmp x y) :: r) m := lk_go h7 ((lt_one hd rfl rfl).trans rfl)
theorem lj_i2l {x : Int32} (h7 : S pc = false) (hd : decode Y.2.1 pc = .ok (.i2l, 1)) : lt_rk S K d Y pc ls (.inl x :: r) m = lt_rk S K d Y (pc + 1) ls (.inr (.inl x.toInt64) :: r) m := lk_go h7 ((lt_one hd rfl rfl).trans rfl)
theorem lj_i2b {x : Int32} (h7 : S pc = false) (hd : decode Y.2.1 pc = .ok (.i2b, 1)) : lt_rk S K d Y pc ls (.inl x :: r) m = lt_rk S K d Y (pc + 1) ls (.inl x.toInt8.toInt32 :: r) m := lk_go h7 ((lt_one hd rfl rfl).trans rfl)
theorem lj_iconst {n : Int} {v : Int32} (h7 : S pc = false) (hd : decode Y.2.1 pc = .ok (.iconst n, 1)) (hv : Int32.ofInt n = v) : lt_rk S K d Y pc ls (r) m = lt_rk S K d Y (pc + 1) ls (.inl v :: r) m := by subst hv; exact lk_go h7 ((lt_one hd rfl rfl).trans rfl)
theorem lj_bipush {n : Int} {v : Int32} (h7 : S pc = false) (hd : decode Y.2.1 pc = .ok (.bipush n, 2)) (hv : (Int8.ofInt n).toInt32 = v) : lt_rk S K d Y pc ls (r) m = lt_rk S K d Y (pc + 2) ls (.inl v :: r) m := by subst hv; exact lk_go h7 ((lt_one hd rfl rfl).trans rfl)
theorem lj_sipush {n : Int} {v : Int32} (h7 : S pc = false) (hd : decode Y.2.1 pc = .ok (.sipush n, 3)) (hv : (Int16.ofInt n).toInt32 = v) : lt_rk S K d Y pc ls (r) m = lt_rk S K d Y (pc + 3) ls (.inl v :: r) m := by subst hv; exact lk_go h7 ((lt_one hd rfl rfl).trans rfl)
theorem lj_lconst {n : Fin 2} {v : Int64} (h7 : S pc = false) (hd : decode Y.2.1 pc = .ok (.lconst n, 1)) (hv : Int64.ofNat (n : Nat) = v) : lt_rk S K d Y pc ls (r) m = lt_rk S K d Y (pc + 1) ls (.inr (.inl v) :: r) m := by subst hv; exact lk_go h7 ((lt_one hd rfl rfl).trans rfl)
theorem lj_null (h7 : S pc = false) (hd : decode Y.2.1 pc = .ok (.aconst_null, 1)) : lt_rk S K d Y pc ls (r) m = lt_rk S K d Y (pc + 1) ls (.inr (.inr none) :: r) m := lk_go h7 ((lt_one hd rfl rfl).trans rfl)
theorem lj_ldc {x : Nat} {v : Int32} (h7 : S pc = false) (hd : decode Y.2.1 pc = .ok (.ldc x, 2)) (hv : ts_cI Y.2.2.2.2 x = some v) : lt_rk S K d Y pc ls (r) m = lt_rk S K d Y (pc + 2) ls (.inl v :: r) m := lk_go h7 ((lt_one hd rfl rfl).trans (by unfold ts_step; dsimp only; rw [hv]))
theorem lj_ldc_w {x : Nat} {v : Int32} (h7 : S pc = false) (hd : decode Y.2.1 pc = .ok (.ldc_w x, 3)) (hv : ts_cI Y.2.2.2.2 x = some v) : lt_rk S K d Y pc ls (r) m = lt_rk S K d Y (pc + 3) ls (.inl v :: r) m := lk_go h7 ((lt_one hd rfl rfl).trans (by unfold ts_step; dsimp only; rw [hv]))
theorem lj_ldc2_w {x : Nat} {v : Int64} (h7 : S pc = false) (hd : decode Y.2.1 pc = .ok (.ldc2_w x, 3)) (hv : ts_cJ Y.2.2.2.2 x = some v) : lt_rk S K d Y pc ls (r) m = lt_rk S K d Y (pc + 3) ls (.inr (.inl v) :: r) m := lk_go h7 ((lt_one hd rfl rfl).trans (by unfold ts_step; dsimp only; rw [hv]))
theorem lj_iload {n : Nat} {x : Int32} (h7 : S pc = false) (hd : decode Y.2.1 pc = .ok (.iload n, 2)) (hl : ts_lget ls n = some (.inl x)) : lt_rk S K d Y pc ls (r) m = lt_rk S K d Y (pc + 2) ls (.inl x :: r) m := lk_go h7 ((lt_one hd rfl rfl).trans (by unfold ts_step; dsimp only; rw [hl]))
theorem lj_iload_n {n : Fin 4} {x : Int32} (h7 : S pc = false) (hd : decode Y.2.1 pc = .ok (.iload_n n, 1)) (hl : ts_lget ls n = some (.inl x)) : lt_rk S K d Y pc ls (r) m = lt_rk S K d Y (pc + 1) ls (.inl x :: r) m := lk_go h7 ((lt_one hd rfl rfl).trans (by unfold ts_step; dsimp only; rw [hl]))
theorem lj_lload {n : Nat} {x : Int64} (h7 : S pc = false) (hd : decode Y.2.1 pc = .ok (.lload n, 2)) (hl : ts_lget ls n = some (.inr (.inl x))) : lt_rk S K d Y pc ls (r) m = lt_rk S K d Y (pc + 2) ls (.inr (.inl x) :: r) m := lk_go h7 ((lt_one hd rfl rfl).trans (by unfold ts_step; dsimp only; rw [hl]))
theorem lj_lload_n {n : Fin 4} {x : Int64} (h7 : S pc = false) (hd : decode Y.2.1 pc = .ok (.lload_n n, 1)) (hl : ts_lget ls n = some (.inr (.inl x))) : lt_rk S K d Y pc ls (r) m = lt_rk S K d Y (pc + 1) ls (.inr (.inl x) :: r) m := lk_go h7 ((lt_one hd rfl rfl).trans (by unfold ts_step; dsimp only; rw [hl]))
theorem lj_aload {n : Nat} {x : Option Nat} (h7 : S pc = false) (hd : decode Y.2.1 pc = .ok (.aload n, 2)) (hl : ts_lget ls n = some (.inr (.inr x))) : lt_rk S K d Y pc ls (r) m = lt_rk S K d Y (pc + 2) ls (.inr (.inr x) :: r) m := lk_go h7 ((lt_one hd rfl rfl).trans (by unfold ts_step; dsimp only; rw [hl]))
theorem lj_aload_n {n : Fin 4} {x : Option Nat} (h7 : S pc = false) (hd : decode Y.2.1 pc = .ok (.aload_n n, 1)) (hl : ts_lget ls n = some (.inr (.inr x))) : lt_rk S K d Y pc ls (r) m = lt_rk S K d Y (pc + 1) ls (.inr (.inr x) :: r) m := lk_go h7 ((lt_one hd rfl rfl).trans (by unfold ts_step; dsimp only; rw [hl]))
theorem lj_istore {n : Nat} {x : Int32} {ls' : List (Option ts_V)} (h7 : S pc = false) (hd : decode Y.2.1 pc = .ok (.istore n, 2)) (hn : (n : Nat) < Y.2.2.1) (hl : ts_lset ls n (.inl x) = ls') : lt_rk S K d Y pc ls (.inl x :: r) m = lt_rk S K d Y (pc + 2) ls' r m := by subst hl; exact lk_go h7 ((lt_one hd rfl rfl).trans (if_pos hn))
theorem lj_istore_n {n : Fin 4} {x : Int32} {ls' : List (Option ts_V)} (h7 : S pc = false) (hd : decode Y.2.1 pc = .ok (.istore_n n, 1)) (hn : (n : Nat) < Y.2.2.1) (hl : ts_lset ls n (.inl x) = ls') : lt_rk S K d Y pc ls (.inl x :: r) m = lt_rk S K d Y (pc + 1) ls' r m := by subst hl; exact lk_go h7 ((lt_one hd rfl rfl).trans (if_pos hn))
theorem lj_lstore {n : Nat} {x : Int64} {ls' : List (Option ts_V)} (h7 : S pc = false) (hd : decode Y.2.1 pc = .ok (.lstore n, 2)) (hn : (n : Nat) + 1 < Y.2.2.1) (hl : ts_lset ls n (.inr (.inl x)) = ls') : lt_rk S K d Y pc ls (.inr (.inl x) :: r) m = lt_rk S K d Y (pc + 2) ls' r m := by subst hl; exact lk_go h7 ((lt_one hd rfl rfl).trans (if_pos hn))
theorem lj_lstore_n {n : Fin 4} {x : Int64} {ls' : List (Option ts_V)} (h7 : S pc = false) (hd : decode Y.2.1 pc = .ok (.lstore_n n, 1)) (hn : (n : Nat) + 1 < Y.2.2.1) (hl : ts_lset ls n (.inr (.inl x)) = ls') : lt_rk S K d Y pc ls (.inr (.inl x) :: r) m = lt_rk S K d Y (pc + 1) ls' r m := by subst hl; exact lk_go h7 ((lt_one hd rfl rfl).trans (if_pos hn))
theorem lj_astore {n : Nat} {x : Option Nat} {ls' : List (Option ts_V)} (h7 : S pc = false) (hd : decode Y.2.1 pc = .ok (.astore n, 2)) (hn : (n : Nat) < Y.2.2.1) (hl : ts_lset ls n (.inr (.inr x)) = ls') : lt_rk S K d Y pc ls (.inr (.inr x) :: r) m = lt_rk S K d Y (pc + 2) ls' r m := by subst hl; exact lk_go h7 ((lt_one hd rfl rfl).trans (if_pos hn))
theorem lj_astore_n {n : Fin 4} {x : Option Nat} {ls' : List (Option ts_V)} (h7 : S pc = false) (hd : decode Y.2.1 pc = .ok (.astore_n n, 1)) (hn : (n : Nat) < Y.2.2.1) (hl : ts_lset ls n (.inr (.inr x)) = ls') : lt_rk S K d Y pc ls (.inr (.inr x) :: r) m = lt_rk S K d Y (pc + 1) ls' r m := by subst hl; exact lk_go h7 ((lt_one hd rfl rfl).trans (if_pos hn))
theorem lj_iinc {n : Nat} {e : Int} {x v : Int32} {ls' : List (Option ts_V)} (h7 : S pc = false) (hd : decode Y.2.1 pc = .ok (.iinc n e, 3)) (hl : ts_lget ls n = some (.inl x)) (hn : n < Y.2.2.1) (hv : Int32.ofInt e = v) (hs : ts_lset ls n (.inl (x + v)) = ls') : lt_rk S K d Y pc ls (r) m = lt_rk S K d Y (pc + 3) ls' r m := by subst hs; subst hv; exact lk_go h7 ((lt_one hd rfl rfl).trans (by unfold ts_step; dsimp only; rw [hl]; exact if_pos hn))
theorem lj_dup {v : ts_V} (h7 : S pc = false) (hd : decode Y.2.1 pc = .ok (.dup, 1)) (hc : ts_cat1 v = true) : lt_rk S K d Y pc ls (v :: r) m = lt_rk S K d Y (pc + 1) ls (v :: v :: r) m := lk_go h7 ((lt_one hd rfl rfl).trans (if_pos hc))
theorem lj_dup_x1 {v u : ts_V} (h7 : S pc = false) (hd : decode Y.2.1 pc = .ok (.dup_x1, 1)) (hc : ts_cat1 v = true) (hc2 : ts_cat1 u = true) : lt_rk S K d Y pc ls (v :: u :: r) m = lt_rk S K d Y (pc + 1) ls (v :: u :: v :: r) m := lk_go h7 ((lt_one hd rfl rfl).trans (if_pos ⟨hc, hc2⟩))
theorem lj_dup2 {v u : ts_V} (h7 : S pc = false) (hd : decode Y.2.1 pc = .ok (.dup2, 1)) (hc : ts_cat1 v = true) (hc2 : ts_cat1 u = true) : lt_rk S K d Y pc ls (v :: u :: r) m = lt_rk S K d Y (pc + 1) ls (v :: u :: v :: u :: r) m := lk_go h7 ((lt_one hd rfl rfl).trans (if_pos ⟨hc, hc2⟩))
theorem lj_goto {off : Int} {t : Nat} {st : List ts_V} (h7 : S pc = false) (hd : decode Y.2.1 pc = .ok (.goto off, 3)) (ht : ts_jmp pc off = some t) : lt_rk S K d Y pc ls st m = lt_rk S K d Y t ls st m := lk_go h7 ((lt_one hd rfl rfl).trans (by unfold ts_step ts_to; dsimp only; rw [ht]))
theorem lj_icmp_eq {x y : Int32} {off : Int} {t : Nat} (h7 : S pc = false) (hd : decode Y.2.1 pc = .ok (.if_icmp .eq off, 3)) (ht : ts_jmp pc off = some t) : lt_rk S K d Y pc ls (.inl y :: .inl x :: r) m = if x = y then lt_rk S K d Y t ls r m else lt_rk S K d Y (pc + 3) ls r m := by
  split
  · next h => exact lk_go h7 ((lt_one hd rfl rfl).trans (by unfold ts_step ts_br; dsimp only; rw [ht]; exact if_pos h))
  · next h => exact lk_go h7 ((lt_one hd rfl rfl).trans (by unfold ts_step ts_br; dsimp only; rw [ht]; exact if_neg h))
theorem lj_icmp_ne {x y : Int32} {off : Int} {t : Nat} (h7 : S pc = false) (hd : decode Y.2.1 pc = .ok (.if_icmp .ne off, 3)) (ht : ts_jmp pc off = some t) : lt_rk S K d Y pc ls (.inl y :: .inl x :: r) m = if ¬ x = y then lt_rk S K d Y t ls r m else lt_rk S K d Y (pc + 3) ls r m := by
  split
  · next h => exact lk_go h7 ((lt_one hd rfl rfl).trans (by unfold ts_step ts_br; dsimp only; rw [ht]; exact if_pos h))
  · next h => exact lk_go h7 ((lt_one hd rfl rfl).trans (by unfold ts_step ts_br; dsimp only; rw [ht]; exact if_neg h))
theorem lj_icmp_lt {x y : Int32} {off : Int} {t : Nat} (h7 : S pc = false) (hd : decode Y.2.1 pc = .ok (.if_icmp .lt off, 3)) (ht : ts_jmp pc off = some t) : lt_rk S K d Y pc ls (.inl y :: .inl x :: r) m = if x < y then lt_rk S K d Y t ls r m else lt_rk S K d Y (pc + 3) ls r m := by
  split
  · next h => exact lk_go h7 ((lt_one hd rfl rfl).trans (by unfold ts_step ts_br; dsimp only; rw [ht]; exact if_pos h))
  · next h => exact lk_go h7 ((lt_one hd rfl rfl).trans (by unfold ts_step ts_br; dsimp only; rw [ht]; exact if_neg h))
theorem lj_icmp_ge {x y : Int32} {off : Int} {t : Nat} (h7 : S pc = false) (hd : decode Y.2.1 pc = .ok (.if_icmp .ge off, 3)) (ht : ts_jmp pc off = some t) : lt_rk S K d Y pc ls (.inl y :: .inl x :: r) m = if y ≤ x then lt_rk S K d Y t ls r m else lt_rk S K d Y (pc + 3) ls r m := by
  split
  · next h => exact lk_go h7 ((lt_one hd rfl rfl).trans (by unfold ts_step ts_br; dsimp only; rw [ht]; exact if_pos h))
  · next h => exact lk_go h7 ((lt_one hd rfl rfl).trans (by unfold ts_step ts_br; dsimp only; rw [ht]; exact if_neg h))
theorem lj_icmp_gt {x y : Int32} {off : Int} {t : Nat} (h7 : S pc = false) (hd : decode Y.2.1 pc = .ok (.if_icmp .gt off, 3)) (ht : ts_jmp pc off = some t) : lt_rk S K d Y pc ls (.inl y :: .inl x :: r) m = if y < x then lt_rk S K d Y t ls r m else lt_rk S K d Y (pc + 3) ls r m := by
  split
  · next h => exact lk_go h7 ((lt_one hd rfl rfl).trans (by unfold ts_step ts_br; dsimp only; rw [ht]; exact if_pos h))
  · next h => exact lk_go h7 ((lt_one hd rfl rfl).trans (by unfold ts_step ts_br; dsimp only; rw [ht]; exact if_neg h))
theorem lj_icmp_le {x y : Int32} {off : Int} {t : Nat} (h7 : S pc = false) (hd : decode Y.2.1 pc = .ok (.if_icmp .le off, 3)) (ht : ts_jmp pc off = some t) : lt_rk S K d Y pc ls (.inl y :: .inl x :: r) m = if x ≤ y then lt_rk S K d Y t ls r m else lt_rk S K d Y (pc + 3) ls r m := by
  split
  · next h => exact lk_go h7 ((lt_one hd rfl rfl).trans (by unfold ts_step ts_br; dsimp only; rw [ht]; exact if_pos h))
  · next h => exact lk_go h7 ((lt_one hd rfl rfl).trans (by unfold ts_step ts_br; dsimp only; rw [ht]; exact if_neg h))
theorem lj_if_eq {x : Int32} {off : Int} {t : Nat} (h7 : S pc = false) (hd : decode Y.2.1 pc = .ok (.ifCond .eq off, 3)) (ht : ts_jmp pc off = some t) : lt_rk S K d Y pc ls (.inl x :: r) m = if x = 0 then lt_rk S K d Y t ls r m else lt_rk S K d Y (pc + 3) ls r m := by
  split
  · next h => exact lk_go h7 ((lt_one hd rfl rfl).trans (by unfold ts_step ts_br; dsimp only; rw [ht]; exact if_pos h))
  · next h => exact lk_go h7 ((lt_one hd rfl rfl).trans (by unfold ts_step ts_br; dsimp only; rw [ht]; exact if_neg h))
theorem lj_if_ne {x : Int32} {off : Int} {t : Nat} (h7 : S pc = false) (hd : decode Y.2.1 pc = .ok (.ifCond .ne off, 3)) (ht : ts_jmp pc off = some t) : lt_rk S K d Y pc ls (.inl x :: r) m = if ¬ x = 0 then lt_rk S K d Y t ls r m else lt_rk S K d Y (pc + 3) ls r m := by
  split
  · next h => exact lk_go h7 ((lt_one hd rfl rfl).trans (by unfold ts_step ts_br; dsimp only; rw [ht]; exact if_pos h))
  · next h => exact lk_go h7 ((lt_one hd rfl rfl).trans (by unfold ts_step ts_br; dsimp only; rw [ht]; exact if_neg h))
theorem lj_if_lt {x : Int32} {off : Int} {t : Nat} (h7 : S pc = false) (hd : decode Y.2.1 pc = .ok (.ifCond .lt off, 3)) (ht : ts_jmp pc off = some t) : lt_rk S K d Y pc ls (.inl x :: r) m = if x < 0 then lt_rk S K d Y t ls r m else lt_rk S K d Y (pc + 3) ls r m := by
  split
  · next h => exact lk_go h7 ((lt_one hd rfl rfl).trans (by unfold ts_step ts_br; dsimp only; rw [ht]; exact if_pos h))
  · next h => exact lk_go h7 ((lt_one hd rfl rfl).trans (by unfold ts_step ts_br; dsimp only; rw [ht]; exact if_neg h))
theorem lj_if_ge {x : Int32} {off : Int} {t : Nat} (h7 : S pc = false) (hd : decode Y.2.1 pc = .ok (.ifCond .ge off, 3)) (ht : ts_jmp pc off = some t) : lt_rk S K d Y pc ls (.inl x :: r) m = if 0 ≤ x then lt_rk S K d Y t ls r m else lt_rk S K d Y (pc + 3) ls r m := by
  split
  · next h => exact lk_go h7 ((lt_one hd rfl rfl).trans (by unfold ts_step ts_br; dsimp only; rw [ht]; exact if_pos h))
  · next h => exact lk_go h7 ((lt_one hd rfl rfl).trans (by unfold ts_step ts_br; dsimp only; rw [ht]; exact if_neg h))
theorem lj_if_gt {x : Int32} {off : Int} {t : Nat} (h7 : S pc = false) (hd : decode Y.2.1 pc = .ok (.ifCond .gt off, 3)) (ht : ts_jmp pc off = some t) : lt_rk S K d Y pc ls (.inl x :: r) m = if 0 < x then lt_rk S K d Y t ls r m else lt_rk S K d Y (pc + 3) ls r m := by
  split
  · next h => exact lk_go h7 ((lt_one hd rfl rfl).trans (by unfold ts_step ts_br; dsimp only; rw [ht]; exact if_pos h))
  · next h => exact lk_go h7 ((lt_one hd rfl rfl).trans (by unfold ts_step ts_br; dsimp only; rw [ht]; exact if_neg h))
theorem lj_if_le {x : Int32} {off : Int} {t : Nat} (h7 : S pc = false) (hd : decode Y.2.1 pc = .ok (.ifCond .le off, 3)) (ht : ts_jmp pc off = some t) : lt_rk S K d Y pc ls (.inl x :: r) m = if x ≤ 0 then lt_rk S K d Y t ls r m else lt_rk S K d Y (pc + 3) ls r m := by
  split
  · next h => exact lk_go h7 ((lt_one hd rfl rfl).trans (by unfold ts_step ts_br; dsimp only; rw [ht]; exact if_pos h))
  · next h => exact lk_go h7 ((lt_one hd rfl rfl).trans (by unfold ts_step ts_br; dsimp only; rw [ht]; exact if_neg h))
theorem lj_ifnull_n {off : Int} {t : Nat} (h7 : S pc = false) (hd : decode Y.2.1 pc = .ok (.ifnull off, 3)) (ht : ts_jmp pc off = some t) : lt_rk S K d Y pc ls (.inr (.inr none) :: r) m = lt_rk S K d Y t ls r m := lk_go h7 ((lt_one hd rfl rfl).trans (by unfold ts_step ts_to; dsimp only; rw [ht]))
theorem lj_ifnull_s {off : Int} {q : Nat} (h7 : S pc = false) (hd : decode Y.2.1 pc = .ok (.ifnull off, 3)) : lt_rk S K d Y pc ls (.inr (.inr (some q)) :: r) m = lt_rk S K d Y (pc + 3) ls r m := lk_go h7 ((lt_one hd rfl rfl).trans rfl)
theorem lj_ifnonnull_n {off : Int} (h7 : S pc = false) (hd : decode Y.2.1 pc = .ok (.ifnonnull off, 3)) : lt_rk S K d Y pc ls (.inr (.inr none) :: r) m = lt_rk S K d Y (pc + 3) ls r m := lk_go h7 ((lt_one hd rfl rfl).trans rfl)
theorem lj_ifnonnull_s {off : Int} {t q : Nat} (h7 : S pc = false) (hd : decode Y.2.1 pc = .ok (.ifnonnull off, 3)) (ht : ts_jmp pc off = some t) : lt_rk S K d Y pc ls (.inr (.inr (some q)) :: r) m = lt_rk S K d Y t ls r m := lk_go h7 ((lt_one hd rfl rfl).trans (by unfold ts_step ts_to; dsimp only; rw [ht]))
theorem lj_tsw {dflt : Int} {offs : Array Int} {n len td : Nat} {ts : List Nat} {x : Int32} (h7 : S pc = false) (hd : decode Y.2.1 pc = .ok (.tableswitch dflt 0 (n : Int) offs, len)) (hdf : ts_jmp pc dflt = some td) (hts : offs.toList.map (ts_jmp pc) = ts.map some) (hn : ts.length = n + 1) :
    lt_rk S K d Y pc ls (.inl x :: r) m = lt_sw x (ts.map fun t => lt_rk S K d Y t ls r m) (lt_rk S K d Y td ls r m) := by
  unfold lt_sw
  rw [List.length_map, hn]
  by_cases h : x.toInt < 0 ∨ (((n + 1 : Nat) : Int) - 1 < x.toInt)
  · rw [if_pos h]
    refine lk_go h7 ((lt_one hd rfl rfl).trans ?_)
    unfold ts_step ts_to
    dsimp only
    rw [if_pos (by omega), hdf]
  · rw [if_neg h]
    have hk : x.toInt.toNat < ts.length := by omega
    rw [List.getElem?_map, List.getElem?_eq_getElem hk]
    simp only [Option.map_some, Option.getD_some]
    refine lk_go h7 ((lt_one hd rfl rfl).trans ?_)
    unfold ts_step ts_to
    dsimp only
    rw [if_neg (by omega)]
    have h1 : (offs.toList.map (ts_jmp pc))[x.toInt.toNat]? = (ts.map some)[x.toInt.toNat]? := by rw [hts]
    rw [List.getElem?_map, List.getElem?_map, List.getElem?_eq_getElem hk, Array.getElem?_toList] at h1
    rw [show x.toInt - 0 = x.toInt by omega]
    cases ho : offs[x.toInt.toNat]? with
    | none => rw [ho] at h1; cases h1
    | some o =>
      rw [ho] at h1
      dsimp only
      simp only [Option.map_some, Option.some.injEq] at h1
      rw [h1]
theorem lj_min {x : Nat} {y z : Int32} (h7 : S pc = false) (hd : decode Y.2.1 pc = .ok (.invokestatic x, 3)) (hb : ts_bi Y.2.2.2.2 x = 2) (hr : ts_cats r ≤ 8) : lt_rk S K d Y pc ls (.inl y :: .inl z :: r) m = lt_rk S K d Y (pc + 3) ls (.inl (lm_min z y) :: r) m := by
  refine lk_go h7 ((lt_one hd rfl rfl).trans ?_)
  unfold ts_step
  dsimp only
  rw [hb]
  exact if_pos hr
theorem lj_max {x : Nat} {y z : Int32} (h7 : S pc = false) (hd : decode Y.2.1 pc = .ok (.invokestatic x, 3)) (hb : ts_bi Y.2.2.2.2 x = 3) (hr : ts_cats r ≤ 8) : lt_rk S K d Y pc ls (.inl y :: .inl z :: r) m = lt_rk S K d Y (pc + 3) ls (.inl (lm_max z y) :: r) m := by
  refine lk_go h7 ((lt_one hd rfl rfl).trans ?_)
  unfold ts_step
  dsimp only
  rw [hb]
  exact if_pos hr
theorem lj_ivV {x y n b z c9 : Nat} {st As : List ts_V} (h7 : S pc = false) (hd : decode Y.2.1 pc = .ok (.invokevirtual x, 3)) (hc : ts_cal Y.2.2.2.2 x = some (y, n, 0, z)) (hk : ts_knd y = 0) (hcl : ts_cls y = c9) (hst : st.drop n = .inr (.inr (some b)) :: r) (hA : (st.take n).reverse = As) (hs : ts_sh b = (0, c9)) (h9 : n ≤ st.length) (hr : ts_cats r ≤ 8) : lt_rk S K d Y pc ls st m = lt_cV (lt_ev d y (.inr (.inr (some b)) :: As) m) fun m' => lt_rk S K d Y (pc + 3) ls r m' := by
  refine (lk_run_any h7 (lt_inv1 hd hc hst hA (by rw [hcl]; exact hs) h9 hr)).trans ?_
  rw [hk]
  exact lk_backV
theorem lj_isV {x y n z : Nat} {st As : List ts_V} (h7 : S pc = false) (hd : decode Y.2.1 pc = .ok (.invokestatic x, 3)) (hb : ts_bi Y.2.2.2.2 x = 0) (hc : ts_cal Y.2.2.2.2 x = some (y, n, 1, z)) (hk : ts_knd y = 0) (hst : st.drop n = r) (hA : (st.take n).reverse = As) (h9 : n ≤ st.length) (hr : ts_cats r ≤ 8) : lt_rk S K d Y pc ls st m = lt_cV (lt_ev d y As m) fun m' => lt_rk S K d Y (pc + 3) ls r m' := by
  refine (lk_run_any h7 (lt_inv2 hd hb hc hst hA h9 hr)).trans ?_
  rw [hk]
  exact lk_backV
theorem lj_ivI {x y n b z c9 : Nat} {st As : List ts_V} (h7 : S pc = false) (hd : decode Y.2.1 pc = .ok (.invokevirtual x, 3)) (hc : ts_cal Y.2.2.2.2 x = some (y, n, 0, z)) (hk : ts_knd y = 1) (hcl : ts_cls y = c9) (hst : st.drop n = .inr (.inr (some b)) :: r) (hA : (st.take n).reverse = As) (hs : ts_sh b = (0, c9)) (h9 : n ≤ st.length) (hr : ts_cats r ≤ 8) : lt_rk S K d Y pc ls st m = lt_cI (lt_ev d y (.inr (.inr (some b)) :: As) m) fun v m' => lt_rk S K d Y (pc + 3) ls (.inl v :: r) m' := by
  refine (lk_run_any h7 (lt_inv1 hd hc hst hA (by rw [hcl]; exact hs) h9 hr)).trans ?_
  rw [hk]
  exact lk_backI
theorem lj_isI {x y n z : Nat} {st As : List ts_V} (h7 : S pc = false) (hd : decode Y.2.1 pc = .ok (.invokestatic x, 3)) (hb : ts_bi Y.2.2.2.2 x = 0) (hc : ts_cal Y.2.2.2.2 x = some (y, n, 1, z)) (hk : ts_knd y = 1) (hst : st.drop n = r) (hA : (st.take n).reverse = As) (h9 : n ≤ st.length) (hr : ts_cats r ≤ 8) : lt_rk S K d Y pc ls st m = lt_cI (lt_ev d y As m) fun v m' => lt_rk S K d Y (pc + 3) ls (.inl v :: r) m' := by
  refine (lk_run_any h7 (lt_inv2 hd hb hc hst hA h9 hr)).trans ?_
  rw [hk]
  exact lk_backI
theorem lj_ivL {x y n b z c9 : Nat} {st As : List ts_V} (h7 : S pc = false) (hd : decode Y.2.1 pc = .ok (.invokevirtual x, 3)) (hc : ts_cal Y.2.2.2.2 x = some (y, n, 0, z)) (hk : ts_knd y = 2) (hcl : ts_cls y = c9) (hst : st.drop n = .inr (.inr (some b)) :: r) (hA : (st.take n).reverse = As) (hs : ts_sh b = (0, c9)) (h9 : n ≤ st.length) (hr : ts_cats r ≤ 8) : lt_rk S K d Y pc ls st m = lt_cL (lt_ev d y (.inr (.inr (some b)) :: As) m) fun v m' => lt_rk S K d Y (pc + 3) ls (.inr (.inl v) :: r) m' := by
  refine (lk_run_any h7 (lt_inv1 hd hc hst hA (by rw [hcl]; exact hs) h9 hr)).trans ?_
  rw [hk]
  exact lk_backL
theorem lj_isL {x y n z : Nat} {st As : List ts_V} (h7 : S pc = false) (hd : decode Y.2.1 pc = .ok (.invokestatic x, 3)) (hb : ts_bi Y.2.2.2.2 x = 0) (hc : ts_cal Y.2.2.2.2 x = some (y, n, 1, z)) (hk : ts_knd y = 2) (hst : st.drop n = r) (hA : (st.take n).reverse = As) (h9 : n ≤ st.length) (hr : ts_cats r ≤ 8) : lt_rk S K d Y pc ls st m = lt_cL (lt_ev d y As m) fun v m' => lt_rk S K d Y (pc + 3) ls (.inr (.inl v) :: r) m' := by
  refine (lk_run_any h7 (lt_inv2 hd hb hc hst hA h9 hr)).trans ?_
  rw [hk]
  exact lk_backL
theorem lj_iret {v : Int32} (h7 : S pc = false) (hd : decode Y.2.1 pc = .ok (.ireturn, 1)) (hr : Y.2.2.2.1 = some .int) : lt_rk S K d Y pc ls [.inl v] m = some (some (.inl v), m) := lk_end h7 ((lt_one hd rfl rfl).trans (if_pos (Or.inl hr)))
theorem lj_zret {v : Int32} (h7 : S pc = false) (hd : decode Y.2.1 pc = .ok (.ireturn, 1)) (hr : Y.2.2.2.1 = some .boolean) (hv : v = 0 ∨ v = 1) : lt_rk S K d Y pc ls [.inl v] m = some (some (.inl v), m) := lk_end h7 ((lt_one hd rfl rfl).trans (if_pos (Or.inr ⟨hr, hv⟩)))
theorem lj_zretg {v : Int32} (h7 : S pc = false) (hd : decode Y.2.1 pc = .ok (.ireturn, 1)) (hr : Y.2.2.2.1 = some .boolean) : lt_rk S K d Y pc ls [.inl v] m = lt_gd (v = 0 ∨ v = 1) (some (some (.inl v), m)) := by
  unfold lt_gd
  split
  · next h => exact lj_zret h7 hd hr h
  · next h => exact lk_no h7 ((lt_one hd rfl rfl).trans (if_neg (by rintro (q | ⟨-, q⟩); (rw [hr] at q; cases q); exact h q)))
theorem lj_lret {v : Int64} (h7 : S pc = false) (hd : decode Y.2.1 pc = .ok (.lreturn, 1)) (hr : Y.2.2.2.1 = some .long) : lt_rk S K d Y pc ls [.inr (.inl v)] m = some (some (.inr (.inl v)), m) := lk_end h7 ((lt_one hd rfl rfl).trans (if_pos hr))
end LK
section LKW
variable {p : Program} {l : Launch} {e : Env} {R : Room} {s : State} {m : MethodId} {args : Array Value} {below : List Frame} {meth : Method} {c : Code} {Q : State → Prop} {Y : ts_Y} {D : va_G} {B : Nat} {cA : Nat → ClassId} {A : Nat → Prop} {d k0 z0 : Nat}
/-- A RUN WITH STOPS IS SOUND: where it ends at a stop, the machine comes there -/
theorem va_S_tr {A : Nat → Prop} {H0 H H1 : Heap} {l0 l1 : List Loc} (h : va_S A H0 H l0) (h1 : va_S A H H1 l1) : va_S A H0 H1 l1 := ⟨Nat.le_trans h.1 h1.1, fun q a b => (h1.2.1 q (Nat.lt_of_lt_of_le a h.1) b).trans (h.2.1 q a b), h1.2.2⟩
theorem lk_W {HH : Heap} (F : ts_Fx p R s m args meth c Y D B cA A d ts_NN ts_NN k0 z0) (hb : Y.2.2.2.1 = some .boolean) (hni : ¬ Y.1.name = "<init>") {S : Nat → Bool} {K : lk_K} {m0 : lt_m} {b : Nat} (hz : ∀ (pc : Nat) (i : Instr) (len : Nat), S pc = false → decode Y.2.1 pc = .ok (i, len) → ts_s0 i = false)
    (hK : ∀ (pc : Nat) (ls : List (Option ts_V)) (st : List ts_V) (u : lt_m) (H : Heap) (locs : List Loc) (sl : Array Slot), S pc = true → K pc ls st u = some (none, m0) → ts_Wd D B cA (ts_fl u) H → ts_Lr B Y.2.2.1 ls sl → sl[0]? = some (Slot.val (.ref b)) → va_S A s.heap H locs → va_S A HH H locs → W p l e R s m args below meth c H locs k0 z0 Q (F0 m pc sl (st.map (ts_val B)))) :
    ∀ (n pc : Nat) (ls : List (Option ts_V)) (st : List ts_V) (M : ts_M) (H : Heap) (locs : List Loc) (sl : Array Slot), ts_fz M → rnN (lk_one S K (ts_ev d) Y) n (pc, ls, st, M) = some (none, ts_fl m0) → ts_Wd D B cA M H → ts_Lr B Y.2.2.1 ls sl → sl[0]? = some (Slot.val (.ref b)) → va_S A s.heap H locs → va_S A HH H locs → W p l e R s m args below meth c H locs k0 z0 Q (F0 m pc sl (st.map (ts_val B))) := by
  have hcall : ∀ (y : Nat) (As : List ts_V) (M : ts_M) (v : Option ts_V) (M' : ts_M), ts_ev d y As M = some (v, M') → ts_Met l D B cA A d y As M v M' ∧ M.2.2.2 ≤ M'.2.2.2 := fun y As M v M' h => ⟨ts_sound l D B cA A d y As M v M' h, ts_ev_mono _ _ _ _ _ _ h⟩
  have hrel : ts_RL (ts_ev d) Y (fun M M' => ts_fz M → ts_fz M') := ts_fz_RL hni (fun y As M v M' hy h => ts_ev_fz d y As M v M' hy h)
  intro n
  induction n with
  | zero => intro pc ls st M H locs sl _ h; simp [rnN] at h
  | succ n ih =>
    intro pc ls st M H locs sl hf h hW hL hL0 hS hS2
    rw [rnN] at h
    by_cases hs : S pc = true
    · have e7 : lk_one S K (ts_ev d) Y (pc, ls, st, M) = (K pc ls st (ts_un M)).map (fun r => .inr (r.1, ts_fl r.2)) := if_pos hs
      rw [e7] at h
      cases hk : K pc ls st (ts_un M) with
      | none => rw [hk] at h; cases h
      | some r =>
        rw [hk] at h
        simp only [Option.map_some, Option.some.injEq, Prod.mk.injEq] at h
        have h2 : r.2 = m0 := by have := congrArg ts_un h.2; rwa [ts_un_fl, ts_un_fl] at this
        have h3 : r = (none, m0) := Prod.ext h.1 h2
        exact hK pc ls st (ts_un M) H locs sl hs (by rw [hk, h3]) (by rw [ts_fl_un hf]; exact hW) hL hL0 hS hS2
    · have e7 : lk_one S K (ts_ev d) Y (pc, ls, st, M) = ts_one (ts_ev d) Y (pc, ls, st, M) := if_neg hs
      rw [e7] at h
      cases h1 : ts_one (ts_ev d) Y (pc, ls, st, M) with
      | none => rw [h1] at h; cases h
      | some z =>
        rw [h1] at h
        have h2 := h1
        unfold ts_one at h2
        split at h2
        · next i len hd =>
          split at h2
          · next hg =>
            rcases ts_step_rel hrel h2 hg.2 with ⟨f', rfl, hf'⟩ | ⟨v2, rfl, hi⟩
            · obtain ⟨pc', ls', st', M2⟩ := f'
              have hf2 : ts_fz M2 := hf' hf
              have key := ts_stepW (H0 := H) (Nat.le_trans F.2.2.2.2.2.2.2.2.2.1 hS.1) (e := e) (below := below) (Q := Q) F hcall h2 hd hg.1 (Nat.le_of_eq hf.1.symm) (Nat.le_of_eq hf2.1) hW hL ⟨Nat.le_refl _, fun _ _ _ => rfl, hS.2.2⟩ (fun H1 locs1 sl1 hW1 hL1 hS1 h0 => by
                rw [hf2.1, Nat.sub_self, Nat.sub_self]
                exact ih pc' ls' st' M2 H1 locs1 sl1 hf2 h hW1 hL1 (h0 b (hz pc i len (by simpa using hs) hd) hL0) (va_S_tr hS hS1) (va_S_tr hS2 hS1))
              rw [hf.1, Nat.sub_self, Nat.sub_self] at key
              exact key
            · exfalso
              simp only [Option.some.injEq, Prod.mk.injEq] at h
              have hv : v2 = none := h.1
              subst hv
              rcases hi with rfl | rfl | rfl | rfl
              · unfold ts_step at h2
                dsimp only at h2
                split at h2
                · split at h2
                  · cases h2
                  · cases h2
                · cases h2
              · unfold ts_step at h2
                dsimp only at h2
                split at h2
                · split at h2
                  · cases h2
                  · cases h2
                · cases h2
              · unfold ts_step at h2
                dsimp only at h2
                split at h2
                · split at h2
                  · next hg2 => rw [hb] at hg2; cases hg2
                  · cases h2
                · cases h2
              · unfold ts_step at h2
                dsimp only at h2
                split at h2
                · split at h2
                  · cases h2
                  · cases h2
                · cases h2
          · cases h2
        · cases h2
end LKW

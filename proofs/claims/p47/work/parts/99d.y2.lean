/-! ===== a segment of the law, run by the machine ===== -/
theorem lk_none {S : Nat → Bool} {K : lk_K} {d : Nat} {Y : ts_Y} (hb : Y.2.2.2.1 = some .boolean) (hni : ¬ Y.1.name = "<init>") : ∀ (n pc : Nat) (ls : List (Option ts_V)) (st : List ts_V) (M M' : ts_M), rnN (lk_one S K (ts_ev d) Y) n (pc, ls, st, M) = some (none, M') → ∃ m0, M' = ts_fl m0 := by
  have hrel : ts_RL (ts_ev d) Y (fun M M' => ts_fz M → ts_fz M') := ts_fz_RL hni (fun y As M v M' hy h => ts_ev_fz d y As M v M' hy h)
  intro n
  induction n with
  | zero => intro pc ls st M M' h; simp [rnN] at h
  | succ n ih =>
    intro pc ls st M M' h
    rw [rnN] at h
    by_cases hs : S pc = true
    · have e7 : lk_one S K (ts_ev d) Y (pc, ls, st, M) = (K pc ls st (ts_un M)).map (fun r => .inr (r.1, ts_fl r.2)) := if_pos hs
      rw [e7] at h
      cases hk : K pc ls st (ts_un M) with
      | none => rw [hk] at h; cases h
      | some r =>
        rw [hk] at h
        simp only [Option.map_some, Option.some.injEq, Prod.mk.injEq] at h
        exact ⟨r.2, h.2.symm⟩
    · have e7 : lk_one S K (ts_ev d) Y (pc, ls, st, M) = ts_one (ts_ev d) Y (pc, ls, st, M) := if_neg hs
      rw [e7] at h
      cases h1 : ts_one (ts_ev d) Y (pc, ls, st, M) with
      | none => rw [h1] at h; cases h
      | some z =>
        rw [h1] at h
        have h2 := h1
        unfold ts_one at h2
        split at h2
        · next i len hd =>
          split at h2
          · next hg =>
            rcases ts_step_rel hrel h2 hg.2 with ⟨f', rfl, hf'⟩ | ⟨v2, rfl, hi⟩
            · obtain ⟨pc', ls', st', M2⟩ := f'
              exact ih pc' ls' st' M2 M' h
            · exfalso
              simp only [Option.some.injEq, Prod.mk.injEq] at h
              have hv : v2 = none := h.1
              subst hv
              rcases hi with rfl | rfl | rfl | rfl
              · unfold ts_step at h2
                dsimp only at h2
                split at h2
                · split at h2
                  · cases h2
                  · cases h2
                · cases h2
              · unfold ts_step at h2
                dsimp only at h2
                split at h2
                · split at h2
                  · cases h2
                  · cases h2
                · cases h2
              · unfold ts_step at h2
                dsimp only at h2
                split at h2
                · split at h2
                  · next hg2 => rw [hb] at hg2; cases hg2
                  · cases h2
                · cases h2
              · unfold ts_step at h2
                dsimp only at h2
                split at h2
                · split at h2
                  · cases h2
                  · cases h2
                · cases h2
          · cases h2
        · cases h2
/-- at a stop: what is asked there -/
noncomputable def kQ (P : Nat → List (Option ts_V) → List ts_V → lt_m → Prop) : lk_K := fun pc ls st u => @ite _ (P pc ls st u) (Classical.propDecidable _) (some (none, u)) none
theorem kQ_of {P : Nat → List (Option ts_V) → List ts_V → lt_m → Prop} {pc : Nat} {ls : List (Option ts_V)} {st : List ts_V} {u : lt_m} (h : P pc ls st u) : rch (kQ P pc ls st u) := ⟨u, if_pos h⟩
theorem kQ_get {P : Nat → List (Option ts_V) → List ts_V → lt_m → Prop} {pc : Nat} {ls : List (Option ts_V)} {st : List ts_V} {u : lt_m} {r : lt_r} (h : kQ P pc ls st u = some r) : P pc ls st u := by
  unfold kQ at h
  by_cases c : P pc ls st u
  · exact c
  · rw [if_neg c] at h; cases h
/-- locals as the list has them, and as the machine's list of places has them -/
def lrL (B : Nat) : Nat → List (Option ts_V) → List (Nat × Value)
  | _, [] => []
  | i, none :: r => lrL B (i + 1) r
  | i, some v :: r => (i, ts_val B v) :: lrL B (i + 1) r
theorem lrL_in {B : Nat} : ∀ (ls : List (Option ts_V)) (k i : Nat) (v : ts_V), ts_lget ls i = some v → (k + i, ts_val B v) ∈ lrL B k ls := by
  intro ls
  induction ls with
  | nil => intro k i v h; simp [ts_lget] at h
  | cons o r ih =>
    intro k i v h
    cases i with
    | zero =>
      have h : o = some v := by simpa [ts_lget] using h
      subst h
      exact List.mem_cons_self
    | succ i =>
      have h' : ts_lget r i = some v := by simpa [ts_lget] using h
      have := ih (k + 1) i v h'
      rw [show k + 1 + i = k + (i + 1) by omega] at this
      cases o with
      | none => exact this
      | some w => exact List.mem_cons_of_mem _ this
theorem lrL_of {B : Nat} : ∀ (ls : List (Option ts_V)) (k : Nat) (q : Nat × Value), q ∈ lrL B k ls → ∃ (i : Nat) (v : ts_V), ts_lget ls i = some v ∧ q = (k + i, ts_val B v) := by
  intro ls
  induction ls with
  | nil => intro k q h; cases h
  | cons o r ih =>
    intro k q h
    cases o with
    | none =>
      obtain ⟨i, v, h1, h2⟩ := ih (k + 1) q h
      exact ⟨i + 1, v, by simpa [ts_lget] using h1, by rw [h2, show k + 1 + i = k + (i + 1) by omega]⟩
    | some w =>
      rcases List.mem_cons.mp h with h | h
      · exact ⟨0, w, rfl, h⟩
      · obtain ⟨i, v, h1, h2⟩ := ih (k + 1) q h
        exact ⟨i + 1, v, by simpa [ts_lget] using h1, by rw [h2, show k + 1 + i = k + (i + 1) by omega]⟩
theorem Lr_has {B nL b : Nat} {ls : List (Option ts_V)} {sl : Array Slot} (h : ts_Lr B nL ls sl) (h0 : sl[0]? = some (Slot.val (.ref b))) : lv_has sl nL ((0, .ref b) :: lrL B 0 ls) := by
  refine ⟨h.1, h.2.1, fun q hq => ?_⟩
  rcases List.mem_cons.mp hq with rfl | hq
  · exact h0
  · obtain ⟨i, v, h1, rfl⟩ := lrL_of ls 0 q hq
    rw [Nat.zero_add]
    exact h.2.2 i v h1
theorem has_Lr {B nL b : Nat} {ls : List (Option ts_V)} {sl : Array Slot} (h : lv_has sl nL ((0, .ref b) :: lrL B 0 ls)) : ts_Lr B nL ls sl ∧ sl[0]? = some (Slot.val (.ref b)) := by
  refine ⟨⟨h.1, h.2.1, fun i v hv => ?_⟩, h.2.2 _ List.mem_cons_self⟩
  have := h.2.2 _ (List.mem_cons_of_mem _ (lrL_in ls 0 i v hv))
  rwa [Nat.zero_add] at this
/-- a list that says less -/
def lrLe : List (Option ts_V) → List (Option ts_V) → Prop
  | [], _ => True
  | none :: r, _ :: r' => lrLe r r'
  | some v :: r, o :: r' => o = some v ∧ lrLe r r'
  | _ :: _, [] => False
theorem lrLe_get : ∀ (ls ls' : List (Option ts_V)), lrLe ls ls' → ∀ (i : Nat) (v : ts_V), ts_lget ls i = some v → ts_lget ls' i = some v := by
  intro ls
  induction ls with
  | nil => intro ls' _ i v h; simp [ts_lget] at h
  | cons o r ih =>
    intro ls' hle i v h
    cases ls' with
    | nil => cases o <;> exact hle.elim
    | cons o' r' =>
      cases i with
      | zero =>
        have h : o = some v := by simpa [ts_lget] using h
        subst h
        have := hle.1
        simpa [ts_lget] using this
      | succ i =>
        have h' : ts_lget r i = some v := by simpa [ts_lget] using h
        have hle' : lrLe r r' := by cases o with
          | none => exact hle
          | some w => exact hle.2
        have := ih r' hle' i v h'
        simpa [ts_lget] using this
theorem Lr_less {B nL : Nat} {ls ls' : List (Option ts_V)} {sl : Array Slot} (h : ts_Lr B nL ls' sl) (hle : lrLe ls ls') : ts_Lr B nL ls sl := ⟨h.1, h.2.1, fun i v hv => h.2.2 i v (lrLe_get ls ls' hle i v hv)⟩

/-! ===== a method within a part of the memory ===== -/
section LOC3
variable {L h : Nat} {N : ts_M}
theorem lc_runN {call1 call2 : ts_C} {Y : ts_Y} (hN : h ≤ N.2.2.2) (hc : lc_call L h N call1 call2) (hY : ¬ Y.1.name = "<init>") : ∀ (n : Nat) (f : ts_F) (r : ts_R), lc_l L h f.2.1 → lc_s L h f.2.2.1 → lc_m L h f.2.2.2 → ts_runN call1 Y n f = some r → ts_runN call2 Y n (f.1, f.2.1, f.2.2.1, lc_g L h N f.2.2.2) = some (r.1, lc_g L h N r.2) ∧ lc_m L h r.2 ∧ ∀ v, r.1 = some v → lc_v L h v := by
  intro n
  induction n with
  | zero => intro f r _ _ _ hr; simp [ts_runN] at hr
  | succ n ih =>
    intro f r hl hs hm hr
    rw [ts_runN] at hr
    cases h1 : ts_one call1 Y f with
    | none => rw [h1] at hr; cases hr
    | some z =>
      rw [h1] at hr
      have key : ts_one call2 Y (f.1, f.2.1, f.2.2.1, lc_g L h N f.2.2.2) = some (lc_q L h N z) ∧ lc_r L h z ∧ lc_m L h (lc_mem z) := by
        unfold ts_one at h1 ⊢
        dsimp only at h1 ⊢
        split at h1
        · next i len hd =>
          split at h1
          · next hg =>
            have hci : ts_ci i = false := by
              cases hq : ts_ci i with
              | false => rfl
              | true => exact absurd (hg.2 hq) hY
            obtain ⟨g1, g2, g3⟩ := lc_step hN hc hci hl hs hm h1
            exact ⟨by rw [if_pos hg]; exact g1, g2, g3⟩
          · cases h1
        · cases h1
      obtain ⟨k1, k2, k3⟩ := key
      rw [ts_runN, k1]
      cases z with
      | inl g => exact ih g r k2.1 k2.2 k3 hr
      | inr q =>
        cases hr
        exact ⟨rfl, k3, k2⟩
theorem lc_ar {As : List ts_V} (hA : lc_s L h As) : ∀ o ∈ ts_ar As, ∀ v, o = some v → lc_v L h v := by
  induction As with
  | nil => intro o ho; cases ho
  | cons a r ih =>
    intro o ho v hv
    unfold ts_ar at ho
    split at ho
    · rcases List.mem_cons.mp ho with q | q
      · subst q; cases hv; exact hA.1
      · rcases List.mem_cons.mp q with q | q
        · subst q; cases hv
        · exact ih hA.2 o q v hv
    · rcases List.mem_cons.mp ho with q | q
      · subst q; cases hv; exact hA.1
      · exact ih hA.2 o q v hv
theorem lc_l0 {As : List ts_V} {n : Nat} (hA : lc_s L h As) : lc_l L h (ts_l0 As n) := by
  intro i v hi
  unfold ts_lget at hi
  have hi2 : (ts_l0 As n)[i]? = some (some v) := by
    cases hq : (ts_l0 As n)[i]? with
    | none => rw [hq] at hi; cases hi
    | some o => rw [hq] at hi; exact congrArg some hi
  have hm := List.mem_of_getElem? hi2
  unfold ts_l0 at hm
  rcases List.mem_append.mp hm with q | q
  · exact lc_ar hA _ q v rfl
  · have := List.eq_of_mem_replicate q
    cases this
theorem lc_ev (hN : h ≤ N.2.2.2) : ∀ d, lc_call L h N (ts_ev d) (ts_ev d) := by
  intro d
  induction d with
  | zero => intro y As M v M' _ _ _ he; simp [ts_ev] at he
  | succ d ih =>
    intro y As M v M' hy hA hm he
    simp only [ts_ev] at he ⊢
    split at he
    · next Y hq =>
      split at he
      · next hlen =>
        rw [if_pos hlen]
        obtain ⟨n, hn⟩ := ts_run_ex he
        obtain ⟨g1, g2, g3⟩ := lc_runN hN ih (hy Y hq) n (0, ts_l0 As Y.2.2.1, [], M) (v, M') (lc_l0 hA) trivial hm hn
        exact ⟨ts_run_of g1, g2, g3⟩
      · cases he
    · cases he
end LOC3

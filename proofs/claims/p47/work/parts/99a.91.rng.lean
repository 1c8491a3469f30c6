/-! ===== memories that are alike in range are one world ===== -/
def ts_rg (M M' : ts_M) : Prop := M'.2.2.2 = M.2.2.2 ∧ ∀ k, k < M.2.2.2 → M'.1 k = M.1 k ∧ M'.2.1 k = M.2.1 k ∧ ∀ j, j < ts_rk k → M'.2.2.1 k j = M.2.2.1 k j
theorem rg_fs {B k c : Nat} {M M' : ts_M} (hs : ts_sh k = (0, c)) (h1 : M'.1 k = M.1 k) (h3 : ∀ j, j < ts_rk k → M'.2.2.1 k j = M.2.2.1 k j) : ts_fs B M' k = ts_fs B M k := by
  unfold ts_fs
  rw [hs]
  refine List.map_congr_left fun j hj => ?_
  have hj : j < ts_N c := List.mem_range.mp hj
  unfold ts_gv
  rw [h1, h3 j (by rw [rkk_0 hs]; exact hj)]
theorem arrV_cg {cA : ClassId} {n : Nat} {f g : Nat → Value} (h : ∀ j, j < n → f j = g j) : arrV cA n f = arrV cA n g := by
  unfold arrV
  rw [show (fun j : Fin n => f j.val) = fun j => g j.val from funext fun j => h j.val j.isLt]
theorem sh5_all : (List.range 711).all (fun k => decide ((ts_sh k).1 ≤ 5)) = true := by decide +kernel
theorem sh5 {k : Nat} (hk : k < 711) : (ts_sh k).1 ≤ 5 := by
  have := List.all_eq_true.mp sh5_all k (List.mem_range.mpr hk)
  exact of_decide_eq_true this
theorem rg_at {D : va_G} {B : Nat} {cA : Nat → ClassId} {M M' : ts_M} {H : Heap} {k : Nat} (hk : k < 711) (h1 : M'.1 k = M.1 k) (h2 : M'.2.1 k = M.2.1 k) (h3 : ∀ j, j < ts_rk k → M'.2.2.1 k j = M.2.2.1 k j) (h : va_at D ts_cl (B + k, ts_ent B cA M k) H) : va_at D ts_cl (B + k, ts_ent B cA M' k) H := by
  rcases hs : ts_sh k with ⟨s, n⟩
  unfold ts_ent at h ⊢
  rw [hs] at h ⊢
  by_cases c0 : s = 0
  · subst c0
    dsimp only at h ⊢
    rw [rg_fs hs h1 h3]
    exact h
  · by_cases c4 : s = 4
    · subst c4
      dsimp only at h ⊢
      unfold va_at at h ⊢
      dsimp only [vp_cell] at h ⊢
      rw [h]
      exact congrArg some (arrV_cg fun j hj => by show va_rf ((M.2.2.1 k j).map fun q => B + q) = va_rf ((M'.2.2.1 k j).map fun q => B + q); rw [h3 j (by rw [rkk_4 hs]; exact hj)])
    · by_cases c1 : s = 1
      · subst c1; dsimp only at h ⊢; rw [h1]; exact h
      · by_cases c2 : s = 2
        · subst c2; dsimp only at h ⊢; rw [h1]; exact h
        · by_cases c3 : s = 3
          · subst c3; dsimp only at h ⊢; rw [h2]; exact h
          · have c5 : s = 5 := by
              have := sh5 hk
              rw [hs] at this
              have this : s ≤ 5 := this
              omega
            subst c5
            dsimp only at h ⊢
            unfold va_at at h ⊢
            dsimp only [vp_cell] at h ⊢
            rw [h]
            exact congrArg some (arrV_cg fun j hj => by show va_rf ((M.2.2.1 k j).map fun q => B + q) = va_rf ((M'.2.2.1 k j).map fun q => B + q); rw [h3 j (by rw [rkk_5 hs]; exact hj)])
theorem ts_Wd_rg {D : va_G} {B : Nat} {cA : Nat → ClassId} {M M' : ts_M} {H : Heap} (hr : ts_rg M M') (h : ts_Wd D B cA M H) : ts_Wd D B cA M' H := by
  obtain ⟨r1, r2⟩ := hr
  have hle : M.2.2.2 ≤ 711 := h.2
  refine ⟨fun k q hq => ?_, by rw [r1]; exact h.2⟩
  have hk : k < M'.2.2.2 := by
    have := (List.getElem?_eq_some_iff.mp hq).1
    rwa [ts_w_len] at this
  rw [ts_w_at hk] at hq
  cases hq
  obtain ⟨a1, a2, a3⟩ := r2 k (by omega)
  exact rg_at (by omega) a1 a2 a3 (h.1 k _ (ts_w_at (by omega)))

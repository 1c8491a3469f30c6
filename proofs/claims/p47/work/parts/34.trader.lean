/-! ===== sums, trader ===== -/
section CH
variable {N : NT} {w w' : Nat → Nat} {L T : Nat} {m m' : lt_m}
theorem wfM_cg2 {j : Nat} (h0 : w' 0 = w 0) (h1 : w 1 ≤ w' 1) (hf : ∀ k, 16 + 26 * j ≤ k → k < 42 + 26 * j → w' k = w k) (h : wfM N w j) : wfM N w' j := by
  have e0 : w_of w' j = w_of w j := hf _ (by omega) (by omega)
  have e1 : w_kd w' j = w_kd w j := hf _ (by omega) (by omega)
  have e2 : w_un w' j = w_un w j := hf _ (by omega) (by omega)
  have e3 : w_st w' j = w_st w j := hf _ (by omega) (by omega)
  have e4 : w_sh w' j = w_sh w j := hf _ (by omega) (by omega)
  have e5 : w_tm w' j = w_tm w j := hf _ (by omega) (by omega)
  have e6 : w_sp w' j = w_sp w j := hf _ (by omega) (by omega)
  have e7 : w_br w' j = w_br w j := hf _ (by omega) (by omega)
  have e8 : w_db w' j = w_db w j := hf _ (by omega) (by omega)
  have e9 : w_lg w' j = w_lg w j := hf _ (by omega) (by omega)
  have er : ∀ k, k < 8 → w_rt w' j k = w_rt w j k := fun k hk => hf _ (by omega) (by omega)
  have ea : ∀ k, k < 8 → w_at w' j k = w_at w j k := fun k hk => hf _ (by omega) (by omega)
  have eg : w_goes w' j = w_goes w j := by unfold w_goes; rw [e3]
  unfold wfM at h ⊢
  rw [e0, e1, e2, e3, e4, e5, e6, e7, e8, e9, eg, h0]
  obtain ⟨a0, a1, a2, a3, a4, a5, a6, a7, a8, a9, a10, a11, a12, a13, a14, a15, a16, a17, a18⟩ := h
  exact ⟨by omega, a1, a2, a3, a4, a5, a6, a7, a8, a9, a10, a11, a12, fun k hk => by rw [er k (by omega)]; exact a13 k hk, fun k hk => by rw [er k (by omega), er (k + 1) (by omega)]; exact a14 k hk, fun k hk => by rw [ea k (by omega)]; exact a15 k hk, a16, a17, a18⟩
end CH
section TR
variable {dist wl : DT} {T : Nat} {S : ST} {N : NT} {w w' : Nat → Nat} {m m' M M2 : lt_m} {vs : List Int32}
theorem used_eq {t : Nat} (hf : ∀ k, k = 2 ∨ 16 ≤ k → w' k = w k) : w_used w' t = w_used w t := by
  unfold w_used
  rw [hf 2 (by omega)]
  refine sumN_congr fun j hj => ?_
  have e0 : w_of w' j = w_of w j := hf _ (by omega)
  have e3 : w_st w' j = w_st w j := hf _ (by omega)
  have e4 : w_sh w' j = w_sh w j := hf _ (by omega)
  have e5 : w_open w' j = w_open w j := by unfold w_open; rw [e3]
  rw [e0, e4, e5]
theorem CS_tr (hC : CS dist wl T S M) {n' : Nat} (h6 : n' ≤ 6) (hge : S.w 1 ≤ n') (h1 : w' 1 = n') (hf : ∀ k, k ≠ 1 → (k < 4 ∨ 16 ≤ k) → w' k = S.w k) (hm : ∀ b, b ≠ 13 → b ≠ 14 → b ≠ 15 → M2.1 b = M.1 b) (h4 : M2.1 13 4 = M.1 13 4) (h5 : M2.1 13 5 = nI n') (h7 : M2.1 13 6 = M.1 13 6) (hs : ∀ t, t < n' → M2.1 14 t = nI (w' (4 + 2 * t)) ∧ M2.1 15 t = nI (w' (5 + 2 * t))) (hr : M2.2 = M.2) (hwf : ∀ t, t < n' → w' (4 + 2 * t) ≤ 999999 ∧ w' (5 + 2 * t) ≤ 3 ∧ w_used S.w t ≤ w' (4 + 2 * t)) : CS dist wl T (S.setw w') M2 := by
  have hC' := hC
  obtain ⟨-, -, ⟨⟨c1, c2, c3, c4, c5, c6, c7⟩, hbk, hwl⟩, -, hnm, -, -⟩ := hC'
  have hwl0 := hwl
  obtain ⟨a0, a1, a2, a3, a4, a5⟩ := hwl
  have g0 := hf 0 (by omega) (by omega)
  have g2 := hf 2 (by omega) (by omega)
  have g3 := hf 3 (by omega) (by omega)
  have hwl' : wfL S.N w' := by
    refine ⟨by rw [g0]; exact a0, by rw [h1]; exact h6, by rw [g2]; exact a2, by rw [g3]; exact a3, fun t ht => ?_, fun j hj => ?_⟩
    · rw [h1] at ht
      rw [used_eq (w := S.w) (fun k hk => hf k (by omega) (by omega))]
      exact hwf t ht
    · rw [g2] at hj
      exact wfM_cg2 g0 (by rw [h1]; exact hge) (fun k k1 k2 => hf k (by omega) (by omega)) (a5 j hj)
  have hcl' : cl S.N w' 13 M2 := by
    refine ⟨by rw [h4, g0]; exact c1, by rw [h5, h1], by rw [h7, g2]; exact c3, fun t ht => ?_, fun j hj => ?_, fun j q1 q2 => ?_, fun j hj => ?_⟩
    · rw [h1] at ht
      exact hs t ht
    · rw [g2] at hj
      have hl := wf_sp hwl0 hj
      exact mvR_cg (fun k k1 k2 => hf k (by omega) (by omega)) (by omega) (by omega) (mvR_fr (hm _ (by omega) (by omega) (by omega)) (hm _ (by omega) (by omega) (by omega)) (hm _ (by omega) (by omega) (by omega)) (c5 j hj))
    · rw [g2] at q1
      rw [hm _ (by omega) (by omega) (by omega)]; exact c6 j q1 q2
    · rw [hm _ (by omega) (by omega) (by omega)]; exact c7 j hj
  exact CS_led (Nat.le_refl T) (fun b _ hb => hm b (by omega) (by omega) (by omega)) (by rw [hr]; exact ⟨rfl, rfl⟩) ⟨hcl', bkR_cg g3 (fun k hk => hf k (by omega) (by omega)) (fun b b1 b2 => hm b (by omega) (by omega) (by omega)) hbk, hwl'⟩ (by
    intro j hj
    rw [hm _ (by omega) (by omega) (by omega)]
    exact hnm j hj) hC
theorem k80 (d : Nat) (x : Int32) (m : lt_m) : (∃ s, s ≤ 3 ∧ x = nI s ∧ lt_ev (d + 1) 80 [.inl x] m = some (some (.inl 1), m)) ∨ ((x < 0 ∨ nI 4 ≤ x) ∧ lt_ev (d + 1) 80 [.inl x] m = some (some (.inl 0), m)) := by
  rcases pk_ix x (n := 4) (by decide) with c | c | ⟨s, hs, rfl⟩
  · exact Or.inr ⟨Or.inl c, (E80 d _ m).trans (if_pos c)⟩
  · refine Or.inr ⟨Or.inr c, (E80 d _ m).trans ?_⟩
    have h1 : (nI 4).toInt = 4 := by decide
    have h2 : (3 : Int32).toInt = 3 := by decide
    rw [Int32.le_iff_toInt_le, h1] at c
    rw [if_neg (by rw [Int32.lt_iff_toInt_lt, Int32.toInt_zero]; omega), if_pos (by rw [Int32.lt_iff_toInt_lt, h2]; omega)]
  · refine Or.inl ⟨s, by omega, rfl, (E80 d _ m).trans ?_⟩
    rw [if_neg (nI_pos (by omega)), if_neg (by rw [show (3 : Int32) = nI 3 from rfl, sp_ltn (by omega) (by omega)]; omega)]
theorem k88 (d : Nat) {t : Nat} (ht : t < 6) (s l : Int32) : lt_ev (d + 2) 88 [.inr (.inr (some (0 + 13))), .inl (nI t), .inl s, .inl l] m = some (none, lm_i (lm_i m 14 t s) 15 t l) := by
  refine (E88 (d + 1) (0 + 13) _ _ _ sL m).trans ?_
  rw [k17 d (a := 0 + 13 + 1) (sf_of sL 0 (by decide) (by decide)) ht (by decide), lt_cV_s, k17 d (a := 0 + 13 + 2) (sf_of sL 1 (by decide) (by decide)) ht (by decide), lt_cV_s]
end TR

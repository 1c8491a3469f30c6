/-! ===== stamps ===== -/
theorem wnote_set {w : Nat → Nat} {k0 v a b c : Nat} (h1 : k0 < 536) (h3 : k0 ≠ 3) : wset (wnote w a b c) k0 v = wnote (wset w k0 v) a b c := funext fun j => by
  have e3 : wset w k0 v 3 = w 3 := wset_ne (fun q => h3 q.symm)
  by_cases cj : j = k0
  · subst cj
    rw [wset_eq, wnote_lo h1 h3, wset_eq]
  · rw [wset_ne cj]
    unfold wnote
    rw [e3]
    by_cases q : w 3 = 30
    · rw [if_pos q, if_pos q]
      by_cases q1 : 536 ≤ j ∧ j < 623
      · rw [if_pos q1, if_pos q1, wset_ne (by omega)]
      · rw [if_neg q1, if_neg q1, wset_ne cj]
    · rw [if_neg q, if_neg q, wset_ne cj]
section ST
variable {dist wl : DT} {T : Nat} {S : ST} {N : NT} {w w' : Nat → Nat} {m m' M M2 : lt_m} {vs : List Int32} {i q : Nat}
theorem mvR_at {h : Nat} (hl8 : w_lg w i ≤ 8) (hsp : w_sp w i < 8) (hm : mvR N w i q m) : mvR N (wset (wset w (34 + 26 * i + w_sp w i) h) (22 + 26 * i) (w_sp w i + 1)) i q (lm_i (lm_i m (q + 2) (w_sp w i) (nI h)) q 9 (nI (w_sp w i + 1))) := by
  obtain ⟨s, hs⟩ : ∃ s, s = w_sp w i := ⟨_, rfl⟩
  rw [← hs] at hsp ⊢
  obtain ⟨W, hW⟩ : ∃ W, W = wset (wset w (34 + 26 * i + s) h) (22 + 26 * i) (s + 1) := ⟨_, rfl⟩
  have ne : ∀ k, k ≠ 22 + 26 * i → k ≠ 34 + 26 * i + s → W k = w k := fun k h1 h2 => by rw [hW, wset_ne h1, wset_ne h2]
  have e_of : w_of W i = w_of w i := ne _ (by omega) (by omega)
  have e_kd : w_kd W i = w_kd w i := ne _ (by omega) (by omega)
  have e_un : w_un W i = w_un w i := ne _ (by omega) (by omega)
  have e_st : w_st W i = w_st w i := ne _ (by omega) (by omega)
  have e_sh : w_sh W i = w_sh w i := ne _ (by omega) (by omega)
  have e_tm : w_tm W i = w_tm w i := ne _ (by omega) (by omega)
  have e_sp : w_sp W i = s + 1 := by rw [hW]; exact wset_eq
  have e_br : w_br W i = w_br w i := ne _ (by omega) (by omega)
  have e_db : w_db W i = w_db w i := ne _ (by omega) (by omega)
  have e_lg : w_lg W i = w_lg w i := ne _ (by omega) (by omega)
  have e_rt : ∀ k, k < 8 → w_rt W i k = w_rt w i k := fun k hk => ne _ (by omega) (by omega)
  have e_at : ∀ k, k < 8 → k ≠ s → w_at W i k = w_at w i k := fun k hk hne => ne _ (by omega) (by omega)
  have e_as : w_at W i s = h := by
    rw [hW]
    show wset _ _ _ (34 + 26 * i + s) = h
    rw [wset_ne (by omega), wset_eq]
  rw [← hW]
  unfold mvR at hm ⊢
  rw [e_of, e_kd, e_un, e_st, e_sh, e_tm, e_sp, e_br, e_db, e_lg]
  obtain ⟨a1, a2, a3, a4, a5, a6, a7, a8, a9, a10, a11, a12, a13⟩ := hm
  have g : ∀ k, k ≠ 9 → (lm_i (lm_i m (q + 2) s (nI h)) q 9 (nI (s + 1))).1 q k = m.1 q k := fun k hk => by rw [lm_i_ns (by omega), lm_i_ne (by omega)]
  refine ⟨by rw [g 1 (by decide)]; exact a1, by rw [g 2 (by decide)]; exact a2, by rw [g 3 (by decide)]; exact a3, by rw [g 4 (by decide)]; exact a4, by rw [g 5 (by decide)]; exact a5, by rw [g 6 (by decide)]; exact a6, by rw [g 7 (by decide)]; exact a7, by rw [g 8 (by decide)]; exact a8, lm_i_eq, by rw [g 10 (by decide)]; exact a10, by rw [g 11 (by decide)]; exact a11, fun k hk => ?_, fun k hk => ?_⟩
  · rw [lm_i_ne (by omega), lm_i_ne (by omega), e_rt k (by omega)]; exact a12 k hk
  · rw [lm_i_ne (by omega)]
    by_cases c : k = s
    · subst c; rw [lm_i_eq, e_as]
    · rw [lm_i_ns (by omega), e_at k (by omega) c]; exact a13 k (by omega)
theorem wfM_at (hl8 : w_lg w i ≤ 8) (hsp : w_sp w i < w_lg w i) (hg : w_goes w i = true) (h : wfM N w i) : wfM N (wset (wset (wset w (34 + 26 * i + w_sp w i) (w 0)) (22 + 26 * i) (w_sp w i + 1)) (19 + 26 * i) (if w_sp w i + 1 = w_lg w i then 1 else w_st w i)) i := by
  obtain ⟨s, hs⟩ : ∃ s, s = w_sp w i := ⟨_, rfl⟩
  rw [← hs] at hsp ⊢
  obtain ⟨st, hst⟩ : ∃ st, st = if s + 1 = w_lg w i then 1 else w_st w i := ⟨_, rfl⟩
  rw [← hst]
  obtain ⟨W, hW⟩ : ∃ W, W = wset (wset (wset w (34 + 26 * i + s) (w 0)) (22 + 26 * i) (s + 1)) (19 + 26 * i) st := ⟨_, rfl⟩
  have ne : ∀ k, k ≠ 19 + 26 * i → k ≠ 22 + 26 * i → k ≠ 34 + 26 * i + s → W k = w k := fun k h0 h1 h2 => by rw [hW, wset_ne h0, wset_ne h1, wset_ne h2]
  have e_of : w_of W i = w_of w i := ne _ (by omega) (by omega) (by omega)
  have e_kd : w_kd W i = w_kd w i := ne _ (by omega) (by omega) (by omega)
  have e_un : w_un W i = w_un w i := ne _ (by omega) (by omega) (by omega)
  have e_st : w_st W i = st := by rw [hW]; exact wset_eq
  have e_sh : w_sh W i = w_sh w i := ne _ (by omega) (by omega) (by omega)
  have e_tm : w_tm W i = w_tm w i := ne _ (by omega) (by omega) (by omega)
  have e_sp : w_sp W i = s + 1 := by rw [hW]; exact (wset_ne (by omega)).trans wset_eq
  have e_br : w_br W i = w_br w i := ne _ (by omega) (by omega) (by omega)
  have e_db : w_db W i = w_db w i := ne _ (by omega) (by omega) (by omega)
  have e_lg : w_lg W i = w_lg w i := ne _ (by omega) (by omega) (by omega)
  have e_rt : ∀ k, k < 8 → w_rt W i k = w_rt w i k := fun k hk => ne _ (by omega) (by omega) (by omega)
  have e_at : ∀ k, k < 8 → k ≠ s → w_at W i k = w_at w i k := fun k hk hne => ne _ (by omega) (by omega) (by omega)
  have e_as : w_at W i s = w 0 := by
    rw [hW]
    show wset _ _ _ (34 + 26 * i + s) = w 0
    rw [wset_ne (by omega), wset_ne (by omega), wset_eq]
  have e_0 : W 0 = w 0 := ne _ (by omega) (by omega) (by omega)
  have e_1 : W 1 = w 1 := ne _ (by omega) (by omega) (by omega)
  have hgs : w_st w i = 0 ∨ w_st w i = 3 := by unfold w_goes at hg; simpa using hg
  have hgW : w_goes W i = true → s + 1 < w_lg w i := fun z => by
    unfold w_goes at z
    rw [e_st, hst] at z
    by_cases c : s + 1 = w_lg w i
    · rw [if_pos c] at z; simp at z
    · omega
  rw [← hW]
  unfold wfM at h ⊢
  rw [e_of, e_kd, e_un, e_st, e_sh, e_tm, e_sp, e_br, e_db, e_lg, e_0, e_1]
  obtain ⟨a0, a1, a2, a3, a4, a5, a6, a7, a8, a9, a10, a11, a12, a13, a14, a15, a16, a17, a18⟩ := h
  refine ⟨a0, a1, a2, a3, by rw [hst]; split <;> omega, a5, a6, by omega, by omega, a9, a10, a11, ⟨a12.1, fun _ => a12.2 (by omega)⟩, fun k hk => by rw [e_rt k (by omega)]; exact a13 k hk, fun k hk => by rw [e_rt k (by omega), e_rt (k + 1) (by omega)]; exact a14 k hk, fun k hk => ?_, hgW, fun z => ?_, fun z => ?_⟩
  · by_cases c : k = s
    · subst c; rw [e_as]; exact Nat.le_refl _
    · rw [e_at k (by omega) c]; exact a15 k (by omega)
  · rw [hst] at z
    by_cases c : s + 1 = w_lg w i
    · rw [if_pos c] at z; omega
    · rw [if_neg c] at z; exact a17 z
  · rw [hst] at z
    by_cases c : s + 1 = w_lg w i
    · rw [if_pos c] at z; omega
    · rw [if_neg c] at z; exact a18 z
end ST

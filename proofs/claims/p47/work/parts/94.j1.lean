/-! ===== what the acts make of the law's ledgers ===== -/
def mvJ (w : Nat → Nat) (i : Nat) : Prop := (∀ k, k + 1 < w_sp w i → w_at w i k ≤ w_at w i (k + 1)) ∧ (w_st w i = 1 → w_sp w i = w_lg w i) ∧ (4 ≤ w_st w i → 0 < w_db w i)
section JJ
variable {N : NT} {w w' : Nat → Nat} {i j : Nat}
theorem mvJ_of (h : mvJ w i) (hsp : w_sp w i ≤ 8) (e1 : w_st w' i = w_st w i) (e2 : w_sp w' i = w_sp w i) (e3 : w_db w' i = w_db w i) (e4 : w_lg w' i = w_lg w i) (e5 : ∀ k, k < 8 → w_at w' i k = w_at w i k) : mvJ w' i := by
  obtain ⟨h1, h2, h3⟩ := h
  refine ⟨fun k hk => ?_, fun q => ?_, fun q => ?_⟩
  · rw [e2] at hk
    rw [e5 k (by omega), e5 (k + 1) (by omega)]
    exact h1 k hk
  · rw [e1] at q
    rw [e2, e4]
    exact h2 q
  · rw [e1] at q
    rw [e3]
    exact h3 q
theorem wf_sp8 (hw : wfL N w) (hi : i < w 2) : w_sp w i ≤ 8 := by
  obtain ⟨a, b, c, d⟩ := wf_sp hw hi
  omega
theorem wn2 {a b c : Nat} : wnote w a b c 2 = w 2 := wnote_lo (by omega) (by omega)
theorem lwJ_note {a b c : Nat} (h20 : w 2 ≤ 20) (hs : ∀ i, i < w 2 → w_sp w i ≤ 8) (h : lwJ w) : lwJ (wnote w a b c) := fun i hi => by
  rw [wn2] at hi
  exact mvJ_of (h i hi) (hs i hi) (wnote_lo (by omega) (by omega)) (wnote_lo (by omega) (by omega)) (wnote_lo (by omega) (by omega)) (wnote_lo (by omega) (by omega)) (fun k hk => wnote_lo (by omega) (by omega))
/-- one movement changes -/
theorem lwJ_mv (hw : wfL N w) (h : lwJ w) (hj : j < w 2) (hf : ∀ k, ¬ (16 + 26 * j ≤ k ∧ k < 42 + 26 * j) → w' k = w k) (hm : mvJ w' j) (hs : w_sp w' j ≤ 8) {a b c : Nat} : lwJ (wnote w' a b c) := by
  have h20 := hw.2.2.1
  have e2 : w' 2 = w 2 := hf 2 (by omega)
  have hall : ∀ i, i < w 2 → mvJ w' i ∧ w_sp w' i ≤ 8 := fun i hi => by
    by_cases c : i = j
    · subst c; exact ⟨hm, hs⟩
    · have e : ∀ k, k < 26 → w' (16 + 26 * i + k) = w (16 + 26 * i + k) := fun k hk => hf _ (by omega)
      have es : w_sp w' i = w_sp w i := by show w' (22 + 26 * i) = w (22 + 26 * i); exact hf _ (by omega)
      refine ⟨mvJ_of (h i hi) (wf_sp8 hw hi) (hf _ (by omega)) es (hf _ (by omega)) (hf _ (by omega)) (fun k hk => hf _ (by omega)), ?_⟩
      rw [es]
      exact wf_sp8 hw hi
  exact lwJ_note (by rw [e2]; exact h20) (fun i hi => (hall i (by omega)).2) (fun i hi => (hall i (by omega)).1)
theorem J_breaks (hw : wfL N w) (h : lwJ w) (hj : j < w 2) {c : Nat} : lwJ (wnote (wset w (23 + 26 * j) 1) 2 j c) := lwJ_mv hw h hj (fun k hk => wset_ne (by omega)) (mvJ_of (h j hj) (wf_sp8 hw hj) (wset_ne (by omega)) (wset_ne (by omega)) (wset_ne (by omega)) (wset_ne (by omega)) (fun k hk => wset_ne (by omega))) (by rw [show w_sp (wset w (23 + 26 * j) 1) j = w_sp w j from wset_ne (by omega)]; exact wf_sp8 hw hj)
theorem J_proves (hw : wfL N w) (h : lwJ w) (hj : j < w 2) {c : Nat} : lwJ (wnote (wset w (19 + 26 * j) 2) 3 j c) := lwJ_mv hw h hj (fun k hk => wset_ne (by omega)) ⟨fun k hk => by
    rw [show w_sp (wset w (19 + 26 * j) 2) j = w_sp w j from wset_ne (by omega)] at hk
    have := wf_sp8 hw hj
    rw [show w_at (wset w (19 + 26 * j) 2) j k = w_at w j k from wset_ne (by omega), show w_at (wset w (19 + 26 * j) 2) j (k + 1) = w_at w j (k + 1) from wset_ne (by omega)]
    exact (h j hj).1 k hk, fun q => by rw [show w_st (wset w (19 + 26 * j) 2) j = 2 from wset_eq] at q; omega, fun q => by rw [show w_st (wset w (19 + 26 * j) 2) j = 2 from wset_eq] at q; omega⟩ (by rw [show w_sp (wset w (19 + 26 * j) 2) j = w_sp w j from wset_ne (by omega)]; exact wf_sp8 hw hj)
theorem J_pays (hw : wfL N w) (h : lwJ w) (hj : j < w 2) (h4 : w_st w j = 4) {c : Nat} : lwJ (wnote (wset w (19 + 26 * j) 5) 6 j c) := lwJ_mv hw h hj (fun k hk => wset_ne (by omega)) ⟨fun k hk => by
    rw [show w_sp (wset w (19 + 26 * j) 5) j = w_sp w j from wset_ne (by omega)] at hk
    have := wf_sp8 hw hj
    rw [show w_at (wset w (19 + 26 * j) 5) j k = w_at w j k from wset_ne (by omega), show w_at (wset w (19 + 26 * j) 5) j (k + 1) = w_at w j (k + 1) from wset_ne (by omega)]
    exact (h j hj).1 k hk, fun q => by rw [show w_st (wset w (19 + 26 * j) 5) j = 5 from wset_eq] at q; omega, fun q => by
    rw [show w_db (wset w (19 + 26 * j) 5) j = w_db w j from wset_ne (by omega)]
    exact (h j hj).2.2 (by omega)⟩ (by rw [show w_sp (wset w (19 + 26 * j) 5) j = w_sp w j from wset_ne (by omega)]; exact wf_sp8 hw hj)
theorem J_controls (hw : wfL N w) (h : lwJ w) (hj : j < w 2) {DB st : Nat} (hst : st = 2 ∨ st = 4 ∧ 0 < DB) : lwJ (coW w j DB st) := by
  unfold coW
  refine lwJ_mv hw h hj (fun k hk => (wset_ne (by omega)).trans (wset_ne (by omega))) ⟨fun k hk => ?_, fun q => ?_, fun q => ?_⟩ ?_
  · rw [show w_sp (wset (wset w (24 + 26 * j) DB) (19 + 26 * j) st) j = w_sp w j from (wset_ne (by omega)).trans (wset_ne (by omega))] at hk
    have := wf_sp8 hw hj
    rw [show w_at (wset (wset w (24 + 26 * j) DB) (19 + 26 * j) st) j k = w_at w j k from (wset_ne (by omega)).trans (wset_ne (by omega)), show w_at (wset (wset w (24 + 26 * j) DB) (19 + 26 * j) st) j (k + 1) = w_at w j (k + 1) from (wset_ne (by omega)).trans (wset_ne (by omega))]
    exact (h j hj).1 k hk
  · rw [show w_st (wset (wset w (24 + 26 * j) DB) (19 + 26 * j) st) j = st from wset_eq] at q
    omega
  · rw [show w_st (wset (wset w (24 + 26 * j) DB) (19 + 26 * j) st) j = st from wset_eq] at q
    rw [show w_db (wset (wset w (24 + 26 * j) DB) (19 + 26 * j) st) j = DB from (wset_ne (by omega)).trans wset_eq]
    omega
  · rw [show w_sp (wset (wset w (24 + 26 * j) DB) (19 + 26 * j) st) j = w_sp w j from (wset_ne (by omega)).trans (wset_ne (by omega))]
    exact wf_sp8 hw hj
theorem J_stamps (hw : wfL N w) (h : lwJ w) (hj : j < w 2) (hg : w_goes w j = true) : lwJ (stW w j) := by
  have hsl : w_sp w j < w_lg w j := (hw.2.2.2.2.2 j hj).2.2.2.2.2.2.2.2.2.2.2.2.2.2.2.2.1 hg
  obtain ⟨g1, g2, g3, g4⟩ := wf_sp hw hj
  have hgo : w_st w j = 0 ∨ w_st w j = 3 := by unfold w_goes at hg; exact of_decide_eq_true hg
  unfold stW
  obtain ⟨st, hst⟩ : ∃ st, st = if w_sp w j + 1 = w_lg w j then 1 else w_st w j := ⟨_, rfl⟩
  rw [← hst]
  obtain ⟨W, hW⟩ : ∃ W, W = wset (wset (wset w (34 + 26 * j + w_sp w j) (w 0)) (22 + 26 * j) (w_sp w j + 1)) (19 + 26 * j) st := ⟨_, rfl⟩
  rw [← hW]
  have eo : ∀ k, k ≠ 19 + 26 * j → k ≠ 22 + 26 * j → k ≠ 34 + 26 * j + w_sp w j → W k = w k := fun k k1 k2 k3 => by rw [hW, wset_ne k1, wset_ne k2, wset_ne k3]
  have e1 : w_st W j = st := by rw [hW]; exact wset_eq
  have e2 : w_sp W j = w_sp w j + 1 := by rw [hW]; exact (wset_ne (by omega)).trans wset_eq
  have e3 : w_at W j (w_sp w j) = w 0 := by rw [hW]; exact (wset_ne (by omega)).trans ((wset_ne (by omega)).trans wset_eq)
  have e4 : ∀ k, k < w_sp w j → w_at W j k = w_at w j k := fun k hk => eo _ (by omega) (by omega) (by omega)
  have e5 : w_lg W j = w_lg w j := eo _ (by omega) (by omega) (by omega)
  refine lwJ_mv hw h hj (fun k hk => eo k (by omega) (by omega) (by omega)) ⟨fun k hk => ?_, fun q => ?_, fun q => ?_⟩ (by rw [e2]; omega)
  · rw [e2] at hk
    by_cases c : k + 1 = w_sp w j
    · rw [c, e3, e4 k (by omega)]
      exact wf_at hw hj (by omega)
    · rw [e4 k (by omega), e4 (k + 1) (by omega)]
      exact (h j hj).1 k (by omega)
  · rw [e1, hst] at q
    rw [e2, e5]
    by_cases c : w_sp w j + 1 = w_lg w j
    · exact c
    · rw [if_neg c] at q; omega
  · rw [e1, hst] at q
    split at q <;> omega
theorem J_goes (hw : wfL N w) (h : lwJ w) (hn : w 2 < 20) {t g u sh s k : Nat} {r : Nat → Nat} : lwJ (goW w t g u sh s k r) := by
  unfold goW
  obtain ⟨W, hW⟩ : ∃ W, W = startW w (w 2) (stF t g u sh (w 0 + 2 * s + 24) k (w 0) r) := ⟨_, rfl⟩
  rw [← hW]
  have e2 : W 2 = w 2 + 1 := by rw [hW]; exact st_2
  have eo : ∀ k, ¬ (16 + 26 * w 2 ≤ k ∧ k < 42 + 26 * w 2) → k ≠ 2 → W k = w k := fun k k1 k2 => by rw [hW]; exact st_o k1 k2
  have esp : w_sp W (w 2) = 1 := by rw [hW]; exact st_sp
  have est : w_st W (w 2) = 0 := by rw [hW]; exact st_st
  have hall : ∀ i, i < w 2 + 1 → mvJ W i ∧ w_sp W i ≤ 8 := fun i hi => by
    by_cases c : i = w 2
    · subst c
      exact ⟨⟨fun k hk => by rw [esp] at hk; omega, fun q => by rw [est] at q; omega, fun q => by rw [est] at q; omega⟩, by rw [esp]; omega⟩
    · have hi2 : i < w 2 := by omega
      have es : w_sp W i = w_sp w i := eo _ (by omega) (by omega)
      refine ⟨mvJ_of (h i hi2) (wf_sp8 hw hi2) (eo _ (by omega) (by omega)) es (eo _ (by omega) (by omega)) (eo _ (by omega) (by omega)) (fun k hk => eo _ (by omega) (by omega)), ?_⟩
      rw [es]
      exact wf_sp8 hw hi2
  exact lwJ_note (by omega) (fun i hi => (hall i (by omega)).2) (fun i hi => (hall i (by omega)).1)
theorem J_hours (hN : wfN N) (hw : wfL N w) (h : lwJ w) {n : Nat} (h9 : w 0 + n ≤ 99999) : lwJ (hrW N w n) := by
  have hE := hrW_evo hw h9
  obtain ⟨W, hW⟩ : ∃ W, W = (itW N (w 0 + n) 40 w).1 := ⟨_, rfl⟩
  unfold hrW
  rw [← hW] at hE ⊢
  have e2 : W 2 = w 2 := evo_at hE (by omega)
  have h20 := hw.2.2.1
  intro i hi
  rw [wset_ne (by omega), e2] at hi
  have eo : ∀ k, 16 + 26 * i ≤ k ∧ k < 42 + 26 * i → k ≠ 19 + 26 * i → k ≠ 24 + 26 * i → wset W 0 (w 0 + n) k = w k := fun k k1 k2 k3 => (wset_ne (by omega)).trans (evo_mv hE hw hi k1 k2 k3)
  have est : w_st (wset W 0 (w 0 + n)) i = w_st W i := wset_ne (by omega)
  have edb : w_db (wset W 0 (w 0 + n)) i = w_db W i := wset_ne (by omega)
  have esp : w_sp (wset W 0 (w 0 + n)) i = w_sp w i := eo _ (by omega) (by omega) (by omega)
  have elg : w_lg (wset W 0 (w 0 + n)) i = w_lg w i := eo _ (by omega) (by omega) (by omega)
  have h8 := wf_sp8 hw hi
  have hJ := h i hi
  have hwm := hw.2.2.2.2.2 i hi
  refine ⟨fun k hk => ?_, fun q => ?_, fun q => ?_⟩
  · rw [esp] at hk
    rw [show w_at (wset W 0 (w 0 + n)) i k = w_at w i k from eo _ (by omega) (by omega) (by omega), show w_at (wset W 0 (w 0 + n)) i (k + 1) = w_at w i (k + 1) from eo _ (by omega) (by omega) (by omega)]
    exact hJ.1 k hk
  · rw [est] at q
    rw [esp, elg]
    rcases hE.2.2 i hi with ⟨a, -⟩ | ⟨-, a, -⟩ | ⟨-, a, -⟩
    · exact hJ.2.1 (by omega)
    · omega
    · omega
  · rw [est] at q
    rw [edb]
    rcases hE.2.2 i hi with ⟨a, b⟩ | ⟨-, a, -⟩ | ⟨-, a, b⟩
    · rw [b]; exact hJ.2.2 (by omega)
    · omega
    · rw [b]
      have bdu := hN.2.2.2.2.2.2.2 (w_kd w i) hwm.2.1
      exact Nat.mul_pos hwm.2.2.1 (by omega)
end JJ

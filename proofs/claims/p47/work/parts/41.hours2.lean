/-! ===== hours: the changes in order ===== -/
def chg (N : NT) (w : Nat → Nat) (j : Nat) : Nat → Nat := if w_st w j = 0 then wnote (wset w (19 + 26 * j) 3) 4 j (w_tm w j + 1) else wnote (wset (wset w (24 + 26 * j) (w_un w j * N.2.2.2.2 (w_kd w j))) (19 + 26 * j) 4) 5 j (w_tm w j + 72)
theorem wnote_w0 {w : Nat → Nat} {a b c v : Nat} : wnote (wset w 0 v) a b c = wset (wnote w a b c) 0 v := funext fun j => by
  have h3 : wset w 0 v 3 = w 3 := wset_ne (by omega)
  by_cases c0 : j = 0
  · subst c0
    rw [wset_eq, wnote_lo (by omega) (by omega), wset_eq]
  · rw [wset_ne c0]
    unfold wnote
    rw [h3, wset_ne c0, wset_ne (w := w) (v := v) (show j + 3 ≠ 0 by omega)]
theorem chg_w0 {N : NT} {w : Nat → Nat} {j v : Nat} : chg N (wset w 0 v) j = wset (chg N w j) 0 v := by
  have e1 : w_st (wset w 0 v) j = w_st w j := wset_ne (by omega)
  have e2 : w_tm (wset w 0 v) j = w_tm w j := wset_ne (by omega)
  have e3 : w_un (wset w 0 v) j = w_un w j := wset_ne (by omega)
  have e4 : w_kd (wset w 0 v) j = w_kd w j := wset_ne (by omega)
  unfold chg
  rw [e1, e2, e3, e4]
  split
  · rw [wset_cm (k := 0) (by omega), wnote_w0]
  · rw [wset_cm (k := 0) (k' := 24 + 26 * j) (by omega), wset_cm (k := 0) (k' := 19 + 26 * j) (by omega), wnote_w0]
section EV
variable {N : NT} {w w' : Nat → Nat} {u j : Nat}
theorem chg_lo {k : Nat} (h : k < 536) (h3 : k ≠ 3) (h19 : k ≠ 19 + 26 * j) (h24 : k ≠ 24 + 26 * j) : chg N w j k = w k := by
  unfold chg
  split
  · rw [wnote_lo h h3, wset_ne h19]
  · rw [wnote_lo h h3, wset_ne h19, wset_ne h24]
theorem chg_3 (h : w 3 ≤ 30) : chg N w j 3 = min (w 3 + 1) 30 := by
  unfold chg
  split
  · rw [wnote_3 (by rw [wset_ne (by omega)]; exact h), wset_ne (by omega)]
  · rw [wnote_3 (by rw [wset_ne (by omega), wset_ne (by omega)]; exact h), wset_ne (by omega), wset_ne (by omega)]
theorem chg_st (hj : j < 20) : w_st (chg N w j) j = if w_st w j = 0 then 3 else 4 := by
  show chg N w j (19 + 26 * j) = _
  unfold chg
  split
  · rw [wnote_lo (by omega) (by omega), wset_eq]
  · rw [wnote_lo (by omega) (by omega), wset_eq]
theorem chg_db (hj : j < 20) : w_db (chg N w j) j = if w_st w j = 0 then w_db w j else w_un w j * N.2.2.2.2 (w_kd w j) := by
  show chg N w j (24 + 26 * j) = _
  unfold chg
  split
  · rw [wnote_lo (by omega) (by omega), wset_ne (by omega)]
  · rw [wnote_lo (by omega) (by omega), wset_ne (by omega), wset_eq]
/-- what may have become of a ledger as hours went by, up to u -/
def evo (N : NT) (u : Nat) (w w' : Nat → Nat) : Prop := (∀ k, k < 536 → k ≠ 3 → (∀ i, i < w 2 → k ≠ 19 + 26 * i ∧ k ≠ 24 + 26 * i) → w' k = w k) ∧ w' 3 ≤ 30 ∧ ∀ i, i < w 2 → (w_st w' i = w_st w i ∧ w_db w' i = w_db w i) ∨ (w_st w i = 0 ∧ w_st w' i = 3 ∧ w_db w' i = w_db w i ∧ w_tm w i + 1 ≤ u) ∨ ((w_st w i = 0 ∨ w_st w i = 3) ∧ w_st w' i = 4 ∧ w_db w' i = w_un w i * N.2.2.2.2 (w_kd w i))
theorem evo_rf (hw : wfL N w) : evo N u w w := ⟨fun _ _ _ _ => rfl, hw.2.2.2.1, fun _ _ => Or.inl ⟨rfl, rfl⟩⟩
theorem evo_at (h : evo N u w w') {k : Nat} (hk : k < 16 ∧ k ≠ 3) : w' k = w k := h.1 k (by omega) hk.2 fun i _ => by omega
theorem evo_mv (h : evo N u w w') (hw : wfL N w) {i k : Nat} (hi : i < w 2) (hk : 16 + 26 * i ≤ k ∧ k < 42 + 26 * i) (h1 : k ≠ 19 + 26 * i) (h2 : k ≠ 24 + 26 * i) : w' k = w k := by
  have h20 := hw.2.2.1
  exact h.1 k (by omega) (by omega) fun i' hi' => by omega
theorem evo_tm (h : evo N u w w') (hw : wfL N w) {i : Nat} (hi : i < w 2) : w_tm w' i = w_tm w i := evo_mv h hw hi (by omega) (by omega) (by omega)
theorem evo_st (h : evo N u w w') (hw : wfL N w) {i : Nat} (hi : i < w 2) : w_st w' i ≤ 5 := by
  have := wf_st hw hi
  rcases h.2.2 i hi with q | q | q <;> omega
theorem wf_tm (hw : wfL N w) {i : Nat} (hi : i < w 2) : w_tm w i ≤ 200000 := (hw.2.2.2.2.2 i hi).2.2.2.2.2.2.1
theorem ch_st (hu : u < 1000000) (h : w_ch w j ≤ u) : w_st w j = 0 ∧ w_ch w j = w_tm w j + 1 ∨ w_st w j = 3 ∧ w_ch w j = w_tm w j + 72 := by
  unfold w_ch at h ⊢
  by_cases c : w_st w j = 0
  · rw [if_pos c]; exact Or.inl ⟨c, rfl⟩
  · rw [if_neg c] at h ⊢
    by_cases c3 : w_st w j = 3
    · rw [if_pos c3]; exact Or.inr ⟨c3, rfl⟩
    · rw [if_neg c3] at h; omega
theorem evo_chg (h : evo N u w w') (hw : wfL N w) (hu : u < 1000000) (hj : j < w 2) (hc : w_ch w' j ≤ u) : evo N u w (chg N w' j) := by
  have h20 := hw.2.2.1
  have etm := evo_tm h hw hj
  have eun : w_un w' j = w_un w j := evo_mv h hw hj (by omega) (by omega) (by omega)
  have ekd : w_kd w' j = w_kd w j := evo_mv h hw hj (by omega) (by omega) (by omega)
  refine ⟨fun k k1 k2 k3 => ?_, by rw [chg_3 h.2.1]; omega, fun i hi => ?_⟩
  · obtain ⟨a, b⟩ := k3 j hj
    rw [chg_lo k1 k2 a b]
    exact h.1 k k1 k2 k3
  · by_cases e : i = j
    · subst e
      rw [chg_st (by omega), chg_db (by omega)]
      have hp := h.2.2 i hi
      rcases ch_st hu hc with ⟨s0, c0⟩ | ⟨s3, c3⟩
      · rw [if_pos s0, if_pos s0]
        rcases hp with q | q | q
        · exact Or.inr (Or.inl ⟨by omega, rfl, q.2, by omega⟩)
        · omega
        · omega
      · rw [if_neg (by omega), if_neg (by omega), eun, ekd]
        rcases hp with q | q | q
        · exact Or.inr (Or.inr ⟨Or.inr (by omega), rfl, rfl⟩)
        · exact Or.inr (Or.inr ⟨Or.inl q.1, rfl, rfl⟩)
        · omega
    · have e1 : w_st (chg N w' j) i = w_st w' i := chg_lo (by omega) (by omega) (by omega) (by omega)
      have e2 : w_db (chg N w' j) i = w_db w' i := chg_lo (by omega) (by omega) (by omega) (by omega)
      rw [e1, e2]
      exact h.2.2 i hi
theorem evo_fin (h : evo N u w w') (hw : wfL N w) (hN : wfN N) (h0 : w 0 ≤ u) (hu : u ≤ 99999) (hc : ∀ i, i < w 2 → u < w_ch w' i) : wfL N (wset w' 0 u) := by
  have h20 := hw.2.2.1
  have g2 := evo_at h (k := 2) (by omega)
  have g1 := evo_at h (k := 1) (by omega)
  refine ⟨by rw [wset_eq]; exact hu, by rw [wset_ne (by omega), g1]; exact hw.2.1, by rw [wset_ne (by omega), g2]; exact h20, by rw [wset_ne (by omega)]; exact h.2.1, fun t ht => ?_, fun i hi => ?_⟩
  · rw [wset_ne (by omega), g1] at ht
    have h6 := hw.2.1
    obtain ⟨b1, b2, b3⟩ := hw.2.2.2.2.1 t ht
    rw [wset_ne (by omega), wset_ne (by omega), evo_at h (k := 4 + 2 * t) (by omega), evo_at h (k := 5 + 2 * t) (by omega)]
    refine ⟨b1, b2, Nat.le_trans (used_cg (by rw [wset_ne (by omega), g2]) h20 fun i hi => ?_) b3⟩
    have e1 : w_of (wset w' 0 u) i = w_of w i := (wset_ne (by omega)).trans (evo_mv h hw hi (by omega) (by omega) (by omega))
    have e2 : w_sh (wset w' 0 u) i = w_sh w i := (wset_ne (by omega)).trans (evo_mv h hw hi (by omega) (by omega) (by omega))
    refine ⟨e1, e2, fun q => ?_⟩
    have e3 : w_st (wset w' 0 u) i = w_st w' i := wset_ne (by omega)
    unfold w_open at q ⊢
    rw [e3] at q
    simp only [decide_eq_true_eq] at q ⊢
    rcases h.2.2 i hi with p | p | p <;> omega
  · rw [wset_ne (by omega), g2] at hi
    have hm := hw.2.2.2.2.2 i hi
    have hci := hc i hi
    have e_st : w_st (wset w' 0 u) i = w_st w' i := wset_ne (by omega)
    have e_db : w_db (wset w' 0 u) i = w_db w' i := wset_ne (by omega)
    have e_of : w_of (wset w' 0 u) i = w_of w i := (wset_ne (by omega)).trans (evo_mv h hw hi (by omega) (by omega) (by omega))
    have e_kd : w_kd (wset w' 0 u) i = w_kd w i := (wset_ne (by omega)).trans (evo_mv h hw hi (by omega) (by omega) (by omega))
    have e_un : w_un (wset w' 0 u) i = w_un w i := (wset_ne (by omega)).trans (evo_mv h hw hi (by omega) (by omega) (by omega))
    have e_sh : w_sh (wset w' 0 u) i = w_sh w i := (wset_ne (by omega)).trans (evo_mv h hw hi (by omega) (by omega) (by omega))
    have e_tm : w_tm (wset w' 0 u) i = w_tm w i := (wset_ne (by omega)).trans (evo_mv h hw hi (by omega) (by omega) (by omega))
    have e_sp : w_sp (wset w' 0 u) i = w_sp w i := (wset_ne (by omega)).trans (evo_mv h hw hi (by omega) (by omega) (by omega))
    have e_br : w_br (wset w' 0 u) i = w_br w i := (wset_ne (by omega)).trans (evo_mv h hw hi (by omega) (by omega) (by omega))
    have e_lg : w_lg (wset w' 0 u) i = w_lg w i := (wset_ne (by omega)).trans (evo_mv h hw hi (by omega) (by omega) (by omega))
    have e_rt : ∀ k, k < 8 → w_rt (wset w' 0 u) i k = w_rt w i k := fun k hk => (wset_ne (by omega)).trans (evo_mv h hw hi (by omega) (by omega) (by omega))
    have e_at : ∀ k, k < 8 → w_at (wset w' 0 u) i k = w_at w i k := fun k hk => (wset_ne (by omega)).trans (evo_mv h hw hi (by omega) (by omega) (by omega))
    have e_1 : (wset w' 0 u) 1 = w 1 := (wset_ne (by omega)).trans g1
    have e_0 : (wset w' 0 u) 0 = u := wset_eq
    have e_g : w_goes (wset w' 0 u) i = true → w_goes w i = true := by
      unfold w_goes
      rw [e_st]
      simp only [decide_eq_true_eq]
      intro q
      rcases h.2.2 i hi with p | p | p <;> omega
    have htm := evo_tm h hw hi
    have hdu : w_un w i * N.2.2.2.2 (w_kd w i) ≤ 999 * 999 := Nat.mul_le_mul hm.2.2.2.1 (hN.2.2.2.2.2.2.2 _ hm.2.1).2
    unfold wfM at hm ⊢
    rw [e_of, e_kd, e_un, e_st, e_sh, e_tm, e_sp, e_br, e_db, e_lg, e_0, e_1]
    obtain ⟨a0, a1, a2, a3, a4, a5, a6, a7, a8, a9, a10, a11, a12, a13, a14, a15, a16, a17, a18⟩ := hm
    unfold w_ch at hci
    refine ⟨a0, a1, a2, a3, ?_, a5, a6, a7, a8, a9, a10, a11, ⟨?_, ?_⟩, fun k hk => by rw [e_rt k (by omega)]; exact a13 k hk, fun k hk => by rw [e_rt k (by omega), e_rt (k + 1) (by omega)]; exact a14 k hk, fun k hk => by rw [e_at k (by omega)]; exact Nat.le_trans (a15 k hk) h0, fun q => a16 (e_g q), fun q => ?_, fun q => ?_⟩
    · rcases h.2.2 i hi with p | p | p <;> omega
    · rcases h.2.2 i hi with p | p | p <;> omega
    · intro q
      rcases h.2.2 i hi with p | p | p
      · rw [p.2]; exact a12.2 (by omega)
      · rw [p.2.2.1]; exact a12.2 (by omega)
      · omega
    · rw [if_pos q] at hci; omega
    · rw [if_neg (by omega), if_pos q] at hci
      refine ⟨?_, by omega⟩
      rcases h.2.2 i hi with p | p | p
      · have := (a18 (by omega)).1; omega
      · omega
      · omega
/-- how many changes may still come -/
def w_mu (w : Nat → Nat) : Nat := sumN (fun i => if w_st w i = 0 then 2 else if w_st w i = 3 then 1 else 0) (w 2)
theorem sumN_up {f g : Nat → Nat} {j : Nat} : ∀ n, j < n → (∀ i, i < n → i ≠ j → g i = f i) → f j = g j + 1 → sumN f n = sumN g n + 1 := by
  intro n
  induction n with
  | zero => intro h; omega
  | succ n ih =>
    intro h h1 h2
    simp only [sumN]
    by_cases e : n = j
    · subst e
      rw [h2, sumN_congr (f := f) (g := g) fun i hi => (h1 i (by omega) (by omega)).symm]
      omega
    · rw [ih (by omega) (fun i hi => h1 i (by omega)) h2, h1 n (by omega) e]
      omega
theorem mu_chg (hj : j < w 2) (h20 : w 2 ≤ 20) (hs : w_st w j = 0 ∨ w_st w j = 3) : w_mu w = w_mu (chg N w j) + 1 := by
  have g2 : chg N w j 2 = w 2 := chg_lo (by omega) (by omega) (by omega) (by omega)
  unfold w_mu
  rw [g2]
  refine sumN_up (w 2) hj (fun i hi hne => ?_) ?_
  · have e1 : w_st (chg N w j) i = w_st w i := chg_lo (by omega) (by omega) (by omega) (by omega)
    rw [e1]
  · show _ = (if w_st (chg N w j) j = 0 then 2 else if w_st (chg N w j) j = 3 then 1 else 0) + 1
    rw [chg_st (by omega)]
    rcases hs with q | q
    · rw [if_pos q, if_pos q]; rfl
    · rw [if_neg (show ¬ w_st w j = 0 by omega), if_pos q, if_neg (show ¬ w_st w j = 0 by omega)]; rfl
theorem mu_le : w 2 ≤ 20 → w_mu w ≤ 40 := fun h => by
  have : w_mu w ≤ w 2 * 2 := sumN_bound fun i _ => by split <;> (try split) <;> omega
  omega
def itW (N : NT) (u : Nat) : Nat → (Nat → Nat) → (Nat → Nat) × Nat
  | 0, w => (w, 0)
  | n + 1, w => match w_ear w u 20 with
    | none => (w, 0)
    | some j => ((itW N u n (chg N w j)).1, 2 ^ j ||| (itW N u n (chg N w j)).2)
theorem itW_n {n : Nat} (h : w_ear w u 20 = none) : itW N u n w = (w, 0) := by
  cases n with
  | zero => rfl
  | succ n => simp only [itW, h]
theorem itW_s {n : Nat} (h : w_ear w u 20 = some j) : itW N u (n + 1) w = ((itW N u n (chg N w j)).1, 2 ^ j ||| (itW N u n (chg N w j)).2) := by simp only [itW, h]
theorem itW_st (hu : u < 1000000) : ∀ n w, w 2 ≤ 20 → w_mu w ≤ n → itW N u (n + 1) w = itW N u n w := by
  intro n
  induction n with
  | zero =>
    intro w h20 hm
    cases h : w_ear w u 20 with
    | none => rw [itW_n h, itW_n h]
    | some j =>
      obtain ⟨j1, j2, j3⟩ := w_ear_b 20 j h
      have := mu_chg (N := N) j2 h20 (by rcases ch_st hu j3 with q | q <;> omega)
      omega
  | succ n ih =>
    intro w h20 hm
    cases h : w_ear w u 20 with
    | none => rw [itW_n h, itW_n h]
    | some j =>
      obtain ⟨j1, j2, j3⟩ := w_ear_b 20 j h
      have := mu_chg (N := N) j2 h20 (by rcases ch_st hu j3 with q | q <;> omega)
      rw [itW_s h, itW_s h, ih (chg N w j) (by rw [chg_lo (by omega) (by omega) (by omega) (by omega)]; exact h20) (by omega)]
theorem itW_40 (hu : u < 1000000) (h20 : w 2 ≤ 20) (h : w_ear w u 20 = some j) : itW N u 40 w = ((itW N u 40 (chg N w j)).1, 2 ^ j ||| (itW N u 40 (chg N w j)).2) := by
  obtain ⟨j1, j2, j3⟩ := w_ear_b 20 j h
  have := mu_chg (N := N) j2 h20 (by rcases ch_st hu j3 with q | q <;> omega)
  have := mu_le h20
  rw [itW_s (n := 39) h, itW_st hu 39 (chg N w j) (by rw [chg_lo (by omega) (by omega) (by omega) (by omega)]; exact h20) (by omega)]
theorem ear_is {h i : Nat} (hi : i < w 2) (e : w_ch w i = h) (hu : h ≤ u) (h1 : ∀ j, j < w 2 → h ≤ w_ch w j) (h2 : ∀ j, j < i → h < w_ch w j) : ∀ n, i < n → w_ear w u n = some i := by
  intro n
  induction n with
  | zero => intro q; omega
  | succ n ih =>
    intro q
    simp only [w_ear]
    by_cases c : n = i
    · subst c
      rw [if_pos ⟨hi, by omega⟩]
      cases hg : w_ear w u n with
      | none => rfl
      | some k =>
        obtain ⟨k1, k2, k3⟩ := w_ear_b n k hg
        have := h2 k k1
        simp only
        rw [if_neg (by omega)]
    · rw [ih (by omega)]
      simp only
      by_cases c2 : n < w 2 ∧ w_ch w n ≤ u
      · have := h1 n c2.1
        rw [if_pos c2, if_pos (by omega)]
      · rw [if_neg c2]
theorem ear_no (h : ∀ j, j < w 2 → u < w_ch w j) : ∀ n, w_ear w u n = none := by
  intro n
  induction n with
  | zero => rfl
  | succ n ih =>
    simp only [w_ear]
    rw [if_neg, ih]
    rintro ⟨a, b⟩
    have := h n a
    omega
end EV

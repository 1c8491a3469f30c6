/-! ===== the ledger changes: one movement, the book ===== -/
section CH
variable {N : NT} {w w' : Nat → Nat} {L T : Nat} {m m' : lt_m}
theorem wfM_cg {j : Nat} (h0 : w' 0 = w 0) (h1 : w' 1 = w 1) (hf : ∀ k, 16 + 26 * j ≤ k → k < 42 + 26 * j → w' k = w k) (h : wfM N w j) : wfM N w' j := by
  have e0 : w_of w' j = w_of w j := hf _ (by omega) (by omega)
  have e1 : w_kd w' j = w_kd w j := hf _ (by omega) (by omega)
  have e2 : w_un w' j = w_un w j := hf _ (by omega) (by omega)
  have e3 : w_st w' j = w_st w j := hf _ (by omega) (by omega)
  have e4 : w_sh w' j = w_sh w j := hf _ (by omega) (by omega)
  have e5 : w_tm w' j = w_tm w j := hf _ (by omega) (by omega)
  have e6 : w_sp w' j = w_sp w j := hf _ (by omega) (by omega)
  have e7 : w_br w' j = w_br w j := hf _ (by omega) (by omega)
  have e8 : w_db w' j = w_db w j := hf _ (by omega) (by omega)
  have e9 : w_lg w' j = w_lg w j := hf _ (by omega) (by omega)
  have er : ∀ k, k < 8 → w_rt w' j k = w_rt w j k := fun k hk => hf _ (by omega) (by omega)
  have ea : ∀ k, k < 8 → w_at w' j k = w_at w j k := fun k hk => hf _ (by omega) (by omega)
  have eg : w_goes w' j = w_goes w j := by unfold w_goes; rw [e3]
  unfold wfM at h ⊢
  rw [e0, e1, e2, e3, e4, e5, e6, e7, e8, e9, eg, h0, h1]
  obtain ⟨a0, a1, a2, a3, a4, a5, a6, a7, a8, a9, a10, a11, a12, a13, a14, a15, a16, a17, a18⟩ := h
  exact ⟨a0, a1, a2, a3, a4, a5, a6, a7, a8, a9, a10, a11, a12, fun k hk => by rw [er k (by omega)]; exact a13 k hk, fun k hk => by rw [er k (by omega), er (k + 1) (by omega)]; exact a14 k hk, fun k hk => by rw [ea k (by omega)]; exact a15 k hk, a16, a17, a18⟩
theorem mvR_cg {j q : Nat} (hf : ∀ k, 16 + 26 * j ≤ k → k < 42 + 26 * j → w' k = w k) (hlg : w_lg w j ≤ 8) (hsp : w_sp w j ≤ 8) (h : mvR N w j q m) : mvR N w' j q m := by
  have e0 : w_of w' j = w_of w j := hf _ (by omega) (by omega)
  have e1 : w_kd w' j = w_kd w j := hf _ (by omega) (by omega)
  have e2 : w_un w' j = w_un w j := hf _ (by omega) (by omega)
  have e3 : w_st w' j = w_st w j := hf _ (by omega) (by omega)
  have e4 : w_sh w' j = w_sh w j := hf _ (by omega) (by omega)
  have e5 : w_tm w' j = w_tm w j := hf _ (by omega) (by omega)
  have e6 : w_sp w' j = w_sp w j := hf _ (by omega) (by omega)
  have e7 : w_br w' j = w_br w j := hf _ (by omega) (by omega)
  have e8 : w_db w' j = w_db w j := hf _ (by omega) (by omega)
  have e9 : w_lg w' j = w_lg w j := hf _ (by omega) (by omega)
  have er : ∀ k, k < 8 → w_rt w' j k = w_rt w j k := fun k hk => hf _ (by omega) (by omega)
  have ea : ∀ k, k < 8 → w_at w' j k = w_at w j k := fun k hk => hf _ (by omega) (by omega)
  unfold mvR at h ⊢
  rw [e0, e1, e2, e3, e4, e5, e6, e7, e8, e9]
  obtain ⟨a1, a2, a3, a4, a5, a6, a7, a8, a9, a10, a11, a12, a13⟩ := h
  exact ⟨a1, a2, a3, a4, a5, a6, a7, a8, a9, a10, a11, fun k hk => by rw [er k (by omega)]; exact a12 k hk, fun k hk => by rw [ea k (by omega)]; exact a13 k hk⟩
theorem mvR_fr {j q : Nat} (h0 : m'.1 q = m.1 q) (h1 : m'.1 (q + 1) = m.1 (q + 1)) (h2 : m'.1 (q + 2) = m.1 (q + 2)) (h : mvR N w j q m) : mvR N w j q m' := by
  unfold mvR at h ⊢
  rw [h0, h1, h2]
  exact h
theorem used_cg {t : Nat} (h2 : w' 2 = w 2) (h20 : w 2 ≤ 20) (hf : ∀ j, j < w 2 → w_of w' j = w_of w j ∧ w_sh w' j = w_sh w j ∧ (w_open w' j = true → w_open w j = true)) : w_used w' t ≤ w_used w t := by
  unfold w_used
  rw [h2]
  refine sumN_le fun j hj => ?_
  obtain ⟨a, b, c⟩ := hf j hj
  rw [a, b]
  by_cases q : w_of w j = t ∧ w_open w' j = true
  · rw [if_pos q, if_pos ⟨q.1, c q.2⟩]; exact Nat.le_refl _
  · rw [if_neg q]; exact Nat.zero_le _
/-- one movement changes -/
theorem wfL_mv {i : Nat} (hi : i < w 2) (hf : ∀ k, k < 536 → ¬ (16 + 26 * i ≤ k ∧ k < 42 + 26 * i) → w' k = w k) (ho : w_of w' i = w_of w i ∧ w_sh w' i = w_sh w i ∧ (w_open w' i = true → w_open w i = true)) (hm : wfM N w' i) (hw : wfL N w) : wfL N w' := by
  obtain ⟨a0, a1, a2, a3, a4, a5⟩ := hw
  have g0 := hf 0 (by omega) (by omega)
  have g1 := hf 1 (by omega) (by omega)
  have g2 := hf 2 (by omega) (by omega)
  have g3 := hf 3 (by omega) (by omega)
  have hoth : ∀ j, j < w 2 → j ≠ i → ∀ k, 16 + 26 * j ≤ k → k < 42 + 26 * j → w' k = w k := fun j hj hne k h1 h2 => hf k (by omega) (by omega)
  refine ⟨by rw [g0]; exact a0, by rw [g1]; exact a1, by rw [g2]; exact a2, by rw [g3]; exact a3, fun t ht => ?_, fun j hj => ?_⟩
  · rw [g1] at ht
    rw [hf (4 + 2 * t) (by omega) (by omega), hf (5 + 2 * t) (by omega) (by omega)]
    obtain ⟨b1, b2, b3⟩ := a4 t ht
    refine ⟨b1, b2, Nat.le_trans (used_cg g2 a2 fun j hj => ?_) b3⟩
    by_cases e : j = i
    · subst e; exact ho
    · have hh := hoth j hj e
      have e3 : w_st w' j = w_st w j := hh _ (by omega) (by omega)
      refine ⟨hh _ (by omega) (by omega), hh _ (by omega) (by omega), fun q => ?_⟩
      unfold w_open at q ⊢
      rw [e3] at q
      exact q
  · rw [g2] at hj
    by_cases e : j = i
    · subst e; exact hm
    · exact wfM_cg g0 g1 (hoth j hj e) (a5 j hj)
theorem cl_mv {i : Nat} (hi : i < w 2) (hf : ∀ k, k < 536 → k ≠ 3 → ¬ (16 + 26 * i ≤ k ∧ k < 42 + 26 * i) → w' k = w k) (hm : ∀ b, L ≤ b → b < L + 68 → b ≠ L + 4 → b ≠ L + 5 → b ≠ L + 6 → b ≠ L + 7 → b ≠ L + 3 + 5 + 3 * i → b ≠ L + 3 + 5 + 3 * i + 2 → m'.1 b = m.1 b) (h0 : m'.1 (L + 3 + 5 + 3 * i) 0 = m.1 (L + 3 + 5 + 3 * i) 0) (hv : mvR N w' i (L + 3 + 5 + 3 * i) m') (hw : wfL N w) (h : cl N w L m) : cl N w' L m' := by
  obtain ⟨h1, h2, h3, h4, h5, h6, h7⟩ := h
  have a1 := hw.2.1
  have a2 := hw.2.2.1
  have g0 := hf 0 (by omega) (by omega) (by omega)
  have g1 := hf 1 (by omega) (by omega) (by omega)
  have g2 := hf 2 (by omega) (by omega) (by omega)
  refine ⟨by rw [hm L (by omega) (by omega) (by omega) (by omega) (by omega) (by omega) (by omega) (by omega), g0]; exact h1, by rw [hm L (by omega) (by omega) (by omega) (by omega) (by omega) (by omega) (by omega) (by omega), g1]; exact h2, by rw [hm L (by omega) (by omega) (by omega) (by omega) (by omega) (by omega) (by omega) (by omega), g2]; exact h3, fun t ht => ?_, fun j hj => ?_, fun j q1 q2 => ?_, fun j hj => ?_⟩
  · rw [g1] at ht
    rw [hm (L + 1) (by omega) (by omega) (by omega) (by omega) (by omega) (by omega) (by omega) (by omega), hm (L + 2) (by omega) (by omega) (by omega) (by omega) (by omega) (by omega) (by omega) (by omega), hf (4 + 2 * t) (by omega) (by omega) (by omega), hf (5 + 2 * t) (by omega) (by omega) (by omega)]
    exact h4 t ht
  · rw [g2] at hj
    by_cases e : j = i
    · subst e; exact hv
    · have hl := wf_sp hw hj
      refine mvR_cg (fun k k1 k2 => hf k (by omega) (by omega) (by omega)) (by omega) (by omega) (mvR_fr ?_ ?_ ?_ (h5 j hj))
      · exact hm _ (by omega) (by omega) (by omega) (by omega) (by omega) (by omega) (by omega) (by omega)
      · exact hm _ (by omega) (by omega) (by omega) (by omega) (by omega) (by omega) (by omega) (by omega)
      · exact hm _ (by omega) (by omega) (by omega) (by omega) (by omega) (by omega) (by omega) (by omega)
  · rw [g2] at q1
    rw [hm _ (by omega) (by omega) (by omega) (by omega) (by omega) (by omega) (by omega) (by omega)]
    exact h6 j q1 q2
  · by_cases e : j = i
    · subst e; rw [h0]; exact h7 j hj
    · rw [hm _ (by omega) (by omega) (by omega) (by omega) (by omega) (by omega) (by omega) (by omega)]
      exact h7 j hj
/-- a note in the book -/
def wnote (w : Nat → Nat) (a b c : Nat) : Nat → Nat := fun k => if w 3 = 30 then (if 536 ≤ k ∧ k < 623 then w (k + 3) else if k = 623 then a else if k = 624 then b else if k = 625 then c else w k) else if k = 536 + 3 * w 3 then a else if k = 537 + 3 * w 3 then b else if k = 538 + 3 * w 3 then c else if k = 3 then w 3 + 1 else w k
theorem wnote_lo {a b c k : Nat} (h : k < 536) (h3 : k ≠ 3) : wnote w a b c k = w k := by
  unfold wnote
  split
  · rw [if_neg (by omega), if_neg (by omega), if_neg (by omega), if_neg (by omega)]
  · rw [if_neg (show ¬ (k = 536 + 3 * w 3) by omega), if_neg (show ¬ (k = 537 + 3 * w 3) by omega), if_neg (show ¬ (k = 538 + 3 * w 3) by omega)]
theorem wnote_3 {a b c : Nat} (h : w 3 ≤ 30) : wnote w a b c 3 = min (w 3 + 1) 30 := by
  unfold wnote
  split
  · next q => rw [if_neg (by omega), if_neg (by omega), if_neg (by omega), if_neg (by omega), q]; rfl
  · next q => rw [if_neg (by omega), if_neg (by omega), if_neg (by omega), if_pos rfl]; omega
theorem cl_note {a b c : Nat} (hw : wfL N w) (h : cl N w L m) : cl N (wnote w a b c) L m := by
  have a1 := hw.2.1
  have a2 := hw.2.2.1
  have lo : ∀ k, k < 536 → k ≠ 3 → wnote w a b c k = w k := fun k h1 h2 => wnote_lo h1 h2
  obtain ⟨h1, h2, h3, h4, h5, h6, h7⟩ := h
  refine ⟨by rw [lo 0 (by omega) (by omega)]; exact h1, by rw [lo 1 (by omega) (by omega)]; exact h2, by rw [lo 2 (by omega) (by omega)]; exact h3, fun t ht => ?_, fun j hj => ?_, fun j q1 q2 => ?_, h7⟩
  · rw [lo 1 (by omega) (by omega)] at ht
    rw [lo (4 + 2 * t) (by omega) (by omega), lo (5 + 2 * t) (by omega) (by omega)]
    exact h4 t ht
  · rw [lo 2 (by omega) (by omega)] at hj
    have hl := wf_sp hw hj
    exact mvR_cg (fun k k1 k2 => lo k (by omega) (by omega)) (by omega) (by omega) (h5 j hj)
  · rw [lo 2 (by omega) (by omega)] at q1
    exact h6 j q1 q2
theorem wfL_note {a b c : Nat} (hw : wfL N w) : wfL N (wnote w a b c) := by
  have lo : ∀ k, k < 536 → k ≠ 3 → wnote w a b c k = w k := fun k h1 h2 => wnote_lo h1 h2
  obtain ⟨a0, a1, a2, a3, a4, a5⟩ := hw
  have g2 := lo 2 (by omega) (by omega)
  refine ⟨by rw [lo 0 (by omega) (by omega)]; exact a0, by rw [lo 1 (by omega) (by omega)]; exact a1, by rw [g2]; exact a2, by rw [wnote_3 a3]; omega, fun t ht => ?_, fun j hj => ?_⟩
  · rw [lo 1 (by omega) (by omega)] at ht
    rw [lo (4 + 2 * t) (by omega) (by omega), lo (5 + 2 * t) (by omega) (by omega)]
    obtain ⟨b1, b2, b3⟩ := a4 t ht
    refine ⟨b1, b2, Nat.le_trans (used_cg g2 a2 fun j hj => ?_) b3⟩
    have e3 : w_st (wnote w a b c) j = w_st w j := lo _ (by omega) (by omega)
    refine ⟨lo _ (by omega) (by omega), lo _ (by omega) (by omega), fun q => ?_⟩
    unfold w_open at q ⊢
    rw [e3] at q
    exact q
  · rw [g2] at hj
    exact wfM_cg (lo 0 (by omega) (by omega)) (lo 1 (by omega) (by omega)) (fun k k1 k2 => lo k (by omega) (by omega)) (a5 j hj)
theorem k17 (d : Nat) {a n k : Nat} (h0 : ts_sh a = (1, n)) (hk : k < n) (hn : n ≤ 5008) (v : Int32) : lt_ev (d + 1) 17 [.inr (.inr (some a)), .inl (nI k), .inl v] m = some (none, lm_i m a k v) := by
  refine (E17 d a n _ v h0 m).trans ?_
  rw [if_neg (nI_pos (by omega)), if_neg (by rw [show Int32.ofNat n = nI n from rfl, sp_len (by omega) (by omega)]; omega), lt_gd_t (sp_gd hk (by omega)), nI_clamp (by omega)]
/-- the class notes -/
theorem k112 (h0 : ts_sh L = (0, 2)) (hT : T < 2 ^ 30) (hw3 : w 3 ≤ 30) (h : bkR w L T m) (a b c : Nat) : ∃ m', (∀ d, lt_ev (d + 2) 112 [.inr (.inr (some (L + 4))), .inl (nI a), .inl (nI b), .inl (nI c)] m = some (none, m')) ∧ bkR (wnote w a b c) L (T + 1) m' ∧ m'.2 = m.2 ∧ ∀ b, ¬ (L + 4 ≤ b ∧ b < L + 8) → m'.1 b = m.1 b := by
  obtain ⟨tot, b1, b2, b3, b4⟩ := h
  have s0 : ts_sh (L + 4) = (0, 0) := sf_of h0 3 (by decide) (by decide)
  have hm : tot % 30 < 30 := Nat.mod_lt _ (by decide)
  refine ⟨lm_i (lm_i (lm_i (lm_i m (L + 4 + 1) (tot % 30) (nI a)) (L + 4 + 2) (tot % 30) (nI b)) (L + 4 + 3) (tot % 30) (nI c)) (L + 4) 3 (nI (tot + 1)), fun d => ?_, ⟨tot + 1, by omega, lm_i_eq, ?_, fun j hj => ?_⟩, rfl, fun b hb => ?_⟩
  · refine (E112 (d + 1) (L + 4) _ _ _ s0 m).trans ?_
    rw [b2, q_30, pk_rem (by omega) (by decide) (by decide), k17 d (a := L + 4 + 1) (sf_of s0 0 (by decide) (by decide)) hm (by decide), lt_cV_s, k17 d (a := L + 4 + 2) (sf_of s0 1 (by decide) (by decide)) hm (by decide), lt_cV_s, k17 d (a := L + 4 + 3) (sf_of s0 2 (by decide) (by decide)) hm (by decide), lt_cV_s]
    rw [lm_i_ne (by omega), lm_i_ne (by omega), lm_i_ne (by omega), b2, nI_1]
  · rw [wnote_3 hw3]; omega
  · rw [wnote_3 hw3] at hj ⊢
    rw [lm_i_ne (by omega), lm_i_ne (by omega), lm_i_ne (by omega)]
    have c1 : (lm_i (lm_i (lm_i (lm_i m (L + 4 + 1) (tot % 30) (nI a)) (L + 4 + 2) (tot % 30) (nI b)) (L + 4 + 3) (tot % 30) (nI c)) (L + 4) 3 (nI (tot + 1))).1 (L + 4 + 2) = (lm_i m (L + 4 + 2) (tot % 30) (nI b)).1 (L + 4 + 2) := by
      rw [lm_i_ne (by omega), lm_i_ne (by omega)]
      refine funext fun k => ?_
      show (if _ then _ else _) = (if _ then _ else _)
      by_cases q : L + 4 + 2 = L + 4 + 2 ∧ k = tot % 30
      · rw [if_pos q, if_pos q]
      · rw [if_neg q, if_neg q, lm_i_ne (by omega)]
    have c2 : (lm_i (lm_i (lm_i (lm_i m (L + 4 + 1) (tot % 30) (nI a)) (L + 4 + 2) (tot % 30) (nI b)) (L + 4 + 3) (tot % 30) (nI c)) (L + 4) 3 (nI (tot + 1))).1 (L + 4 + 3) = (lm_i m (L + 4 + 3) (tot % 30) (nI c)).1 (L + 4 + 3) := by
      rw [lm_i_ne (by omega)]
      refine funext fun k => ?_
      show (if _ then _ else _) = (if _ then _ else _)
      by_cases q : L + 4 + 3 = L + 4 + 3 ∧ k = tot % 30
      · rw [if_pos q, if_pos q]
      · rw [if_neg q, if_neg q, lm_i_ne (by omega), lm_i_ne (by omega)]
    rw [c1, c2]
    by_cases j0 : j = 0
    · subst j0
      rw [show tot + 1 - 1 - 0 = tot by omega, lm_i_eq, lm_i_eq, lm_i_eq]
      unfold wnote
      by_cases c30 : w 3 = 30
      · rw [if_pos c30, if_pos c30, if_pos c30, c30]
        exact ⟨rfl, rfl, rfl⟩
      · rw [if_neg c30, if_neg c30, if_neg c30, if_pos (by omega), if_neg (by omega), if_pos (by omega), if_neg (by omega), if_neg (by omega), if_pos (by omega)]
        exact ⟨rfl, rfl, rfl⟩
    · have hne : (tot + 1 - 1 - j) % 30 ≠ tot % 30 := by omega
      rw [lm_i_ns (by omega), lm_i_ns (by omega), lm_i_ns (by omega)]
      have := b4 (j - 1) (by omega)
      rw [show tot - 1 - (j - 1) = tot + 1 - 1 - j by omega] at this
      rw [this.1, this.2.1, this.2.2]
      unfold wnote
      by_cases c30 : w 3 = 30
      · rw [if_pos c30, if_pos c30, if_pos c30, if_pos (by omega), if_pos (by omega), if_pos (by omega), show 536 + 3 * (w 3 - 1 - (j - 1)) = 536 + 3 * (min (w 3 + 1) 30 - 1 - j) + 3 by omega, show 537 + 3 * (w 3 - 1 - (j - 1)) = 537 + 3 * (min (w 3 + 1) 30 - 1 - j) + 3 by omega, show 538 + 3 * (w 3 - 1 - (j - 1)) = 538 + 3 * (min (w 3 + 1) 30 - 1 - j) + 3 by omega]
        exact ⟨rfl, rfl, rfl⟩
      · have e : min (w 3 + 1) 30 - 1 - j = w 3 - 1 - (j - 1) := by omega
        rw [e]
        have lo : ∀ x, 536 ≤ x → x < 536 + 3 * w 3 → (if w 3 = 30 then (if 536 ≤ x ∧ x < 623 then w (x + 3) else if x = 623 then a else if x = 624 then b else if x = 625 then c else w x) else if x = 536 + 3 * w 3 then a else if x = 537 + 3 * w 3 then b else if x = 538 + 3 * w 3 then c else if x = 3 then w 3 + 1 else w x) = w x := fun x h1 h2 => by
          rw [if_neg c30, if_neg (by omega), if_neg (by omega), if_neg (by omega), if_neg (by omega)]
        rw [lo _ (by omega) (by omega), lo _ (by omega) (by omega), lo _ (by omega) (by omega)]
        exact ⟨rfl, rfl, rfl⟩
  · rw [lm_i_ne (by omega), lm_i_ne (by omega), lm_i_ne (by omega), lm_i_ne (by omega)]
def wset (w : Nat → Nat) (k v : Nat) : Nat → Nat := fun j => if j = k then v else w j
theorem wset_eq {k v : Nat} : wset w k v k = v := if_pos rfl
theorem wset_ne {k v j : Nat} (h : j ≠ k) : wset w k v j = w j := if_neg h
theorem row_set {k v : Nat} (h : ∀ j, j < 626 → m.1 712 j = nI (w j)) : ∀ j, j < 626 → (lm_i m 712 k (nI v)).1 712 j = nI (wset w k v j) := by
  intro j hj
  by_cases c : j = k
  · subst c; rw [lm_i_eq, wset_eq]
  · rw [lm_i_ns (by omega), wset_ne c]; exact h j hj
end CH

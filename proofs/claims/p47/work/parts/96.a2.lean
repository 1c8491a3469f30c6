/-! ===== stamps, breaks ===== -/
section ACT
variable {K : lk_K} {q0 : Option ts_V} {x2 x3 x5 x6 : Int32} {N0 : NT} {tr k : Nat} {S : ST} {vs : List Int32} {m : lt_m} {i : Nat}
/-- how an act goes on -/
def goes1301 (K : lk_K) (q0 : Option ts_V) (x2 x3 x5 x6 : Int32) (N0 : NT) (tr k : Nat) (S : ST) : Prop := ∀ (b : Int32) (ls : List (Option ts_V)) (m : lt_m), w1301 q0 x2 x3 x5 x6 (nI (S.w 2)) (nI S.D) (nI (S.w 0)) (nI (S.w 3)) b ls → pst N0 tr k S.D (S.w 0) (S.w 2) (S.w 3) b m → rch (K 1301 ls [] m)
theorem pst_n {T : Nat} (hT : T ≤ 100 * (k + 1)) (hI : lwI N0 tr k S) (h : cP T S vs m) : pst N0 tr k S.D (S.w 0) (S.w 2) (S.w 3) 0 m := pst_0 h hT hI rfl rfl
theorem pst_d {T : Nat} {w' : Nat → Nat} (hT : T ≤ 100 * (k + 1)) (hI : lwI N0 tr k S) (h8 : S.D ≤ 8) (h : cP T (S.rem.setw w') vs m) (h1 : w' 1 = S.w 1) (hJ : lwJ w') (h0 : w' 0 ≤ 64 * (k + 1)) : pst N0 tr k S.D (S.w 0) (S.w 2) (S.w 3) 1 m := pst_1 h hT h8 hI.1 hI.2.2.2.2 (h1.trans hI.2.1) hJ h0 rfl rfl rfl
/-! fields behind a stamp -/
theorem stW_o {w : Nat → Nat} {j : Nat} (h1 : j < 536) (h2 : j ≠ 3) (h3 : j ≠ 19 + 26 * i) (h4 : j ≠ 22 + 26 * i) (h5 : j ≠ 34 + 26 * i + w_sp w i) : stW w i j = w j := by
  unfold stW
  rw [wnote_lo h1 h2, wset_ne h3, wset_ne h4, wset_ne h5]
theorem stW_sp {w : Nat → Nat} (hi : i < 20) : w_sp (stW w i) i = w_sp w i + 1 := by
  show stW w i (22 + 26 * i) = _
  unfold stW
  rw [wnote_lo (by omega) (by omega), wset_ne (by omega), wset_eq]
theorem stW_st {w : Nat → Nat} (hi : i < 20) : w_st (stW w i) i = if w_sp w i + 1 = w_lg w i then 1 else w_st w i := by
  show stW w i (19 + 26 * i) = _
  unfold stW
  rw [wnote_lo (by omega) (by omega), wset_eq]
theorem stW_seen {w : Nat → Nat} (hi : i < 20) (hs : w_sp w i < 8) : w_seen (stW w i) i = w_rt w i (w_sp w i) := by
  unfold w_seen
  rw [stW_sp hi, Nat.add_sub_cancel]
  exact stW_o (by omega) (by omega) (by omega) (by omega) (by omega)
theorem stW_left {N : NT} {w : Nat → Nat} (hi : i < 20) (h1 : 1 ≤ w_sp w i) (hs : w_sp w i < w_lg w i) (h8 : w_lg w i ≤ 8) : w_left N (stW w i) i ≤ w_left N w i := by
  unfold w_left
  have e2 : w_lg (stW w i) i = w_lg w i := stW_o (by omega) (by omega) (by omega) (by omega) (by omega)
  have er : ∀ j, j < 8 → w_rt (stW w i) i j = w_rt w i j := fun j hj => stW_o (by omega) (by omega) (by omega) (by omega) (by omega)
  rw [stW_sp hi, e2, show w_lg w i - w_sp w i = (w_lg w i - (w_sp w i + 1)) + 1 by omega, sumN_front]
  have e : sumN (fun j => N.2.2.1 (w_rt (stW w i) i (w_sp w i + 1 + j - 1)) (w_rt (stW w i) i (w_sp w i + 1 + j))) (w_lg w i - (w_sp w i + 1)) = sumN (fun j => N.2.2.1 (w_rt w i (w_sp w i + (j + 1) - 1)) (w_rt w i (w_sp w i + (j + 1)))) (w_lg w i - (w_sp w i + 1)) := sumN_congr fun j hj => by
    rw [er _ (by omega), er _ (by omega), show w_sp w i + 1 + j = w_sp w i + (j + 1) by omega]
  rw [e]
  omega
theorem a_stamps (hI : lwI N0 tr k S) (fin : goes1301 K q0 x2 x3 x5 x6 N0 tr k S) (hk : k < 26) (h : cP (100 * k) S vs m) (hi : i < S.w 2 ∨ S.w 2 = 0 ∧ i = 0) (o4 : Option ts_V) (x12 : Int32) (x13 : Int32) (o16 : Option ts_V) (o17 : Option ts_V) (o18 : Option ts_V) (o19 : Option ts_V) (o20 : Option ts_V) (o21 : Option ts_V) (o22 : Option ts_V) (o23 : Option ts_V) (o24 : Option ts_V) (o25 : Option ts_V) (o26 : Option ts_V) (o27 : Option ts_V) :
    rch (lt_cI (lt_ev 13 132 [.inr (.inr (some 0)), .inl (nI i)] m) (fun v2 m2 => (if 0 ≤ v2 then (lt_cL (lt_ev 13 175 [.inr (.inr (some 0)), .inl (1 : Int32)] m2) (fun v3 m3 => (LG_732 K 13 q0 x2 x3 o4 x5 x6 (nI (S.w 2)) (nI S.D) (nI (S.w 0)) (nI (S.w 3)) (nI i) x12 x13 v2 o16 o17 o18 o19 o20 o21 o22 o23 o24 o25 o26 o27 (v3).toInt32 m3))) else (LG_732 K 13 q0 x2 x3 o4 x5 x6 (nI (S.w 2)) (nI S.D) (nI (S.w 0)) (nI (S.w 3)) (nI i) x12 x13 v2 o16 o17 o18 o19 o20 o21 o22 o23 o24 o25 o26 o27 0 m2)))) := by
  have hw := h.wfL
  have hN := h.wfN
  have bn := hN.2.1
  have h20 := hw.2.2.1
  have h8 := h.D8
  have no : ∀ (x15 x16 x17 : Int32) (o4 o18 o19 o20 o21 o22 o23 o24 o25 o26 o27 : Option ts_V) (m : lt_m) (vs : List Int32), cP (100 * k) S vs m → x17 < 0 → (S.w 2 = 0 → x17 = -1) → (S.w 2 ≠ 0 → 0 ≤ x16 → x17 = -2) → (S.w 2 ≠ 0 → ¬ 0 ≤ x16 → x17 = -1) → rch (LG_754 K 13 q0 x2 x3 o4 x5 x6 (nI (S.w 2)) (nI S.D) (nI (S.w 0)) (nI (S.w 3)) (nI i) x12 x13 x15 x16 x17 o18 o19 o20 o21 o22 o23 o24 o25 o26 o27 0 m) := by
    intro x15 x16 x17 o4 o18 o19 o20 o21 o22 o23 o24 o25 o26 o27 m vs h hx a1 a2 a3
    rw [EG_754, if_neg (by rw [Int32.le_iff_toInt_le]; rw [Int32.lt_iff_toInt_lt] at hx; omega)]
    simp (disch := omega) only [sp_eq0]
    by_cases c : S.w 2 = 0
    · rw [if_pos c, EG_779, if_pos (a1 c)]
      exact fin _ _ _ ⟨_, _, _, _, _, _, _, _, _, _, _, _, _, _, _, _, _, rfl⟩ (pst_n (by omega) hI h)
    · rw [if_neg c]
      by_cases c2 : 0 ≤ x16
      · rw [if_pos c2, EG_779, if_pos (a2 c c2)]
        exact fin _ _ _ ⟨_, _, _, _, _, _, _, _, _, _, _, _, _, _, _, _, _, rfl⟩ (pst_n (by omega) hI h)
      · rw [if_neg c2, EG_779, if_pos (a3 c c2)]
        exact fin _ _ _ ⟨_, _, _, _, _, _, _, _, _, _, _, _, _, _, _, _, _, rfl⟩ (pst_n (by omega) hI h)
  rcases hi with hi | ⟨hz, rfl⟩
  · obtain ⟨g1, g2, g3, g4⟩ := wf_sp hw hi
    obtain ⟨m1, e1, h1⟩ := q_left 1 h hi
    have e1' : lt_ev 13 132 [.inr (.inr (some 0)), .inl (nI i)] m = some (some (.inl (nI (w_left S.N S.w i))), m1) := e1
    have hle := w_left_le hN hw hi
    have er : lt_ev 13 175 [.inr (.inr (some 0)), .inl (1 : Int32)] m1 = some (some (.inr (.inl (if w_sp S.w i < w_lg S.w i then nI (w_rt S.w i (w_sp S.w i)) else -1).toInt64)), m1) := q_row 1 h1 (j := 1) rfl
    rw [e1', lt_cI_s, if_pos (nI_pos' (by omega)), er, lt_cL_s, to32, EG_732]
    by_cases c : w_sp S.w i < w_lg S.w i
    · have hr : w_rt S.w i (w_sp S.w i) < S.N.1 := wf_rt hw hi c
      rw [if_pos c]
      by_cases cg : w_goes S.w i = true
      · obtain ⟨m2, e2, h2⟩ := q_stamps 1 (by omega) h1 hi cg
        have e2' : lt_ev 13 113 [.inr (.inr (some 0)), .inl (nI i), .inl (nI (w_rt S.w i (w_sp S.w i)))] m1 = some (some (.inl (nI (w_lg S.w i - (w_sp S.w i + 1)))), m2) := e2
        have hi2 : i < (stW S.w i) 2 := by rw [stW_o (by omega) (by omega) (by omega) (by omega) (by omega)]; exact hi
        have e8 : lt_ev 13 129 [.inr (.inr (some 0)), .inl (nI i), .inl (8 : Int32)] m2 = some (some (.inl (nI (w_seen (stW S.w i) i))), m2) := q_mv 1 h2 (i := i) (k := 8) hi2 (by omega) (by omega)
        have e3 : ∀ {m : lt_m} {vs : List Int32}, cP (100 * k + 1) (S.rem.setw (stW S.w i)) vs m → lt_ev 13 129 [.inr (.inr (some 0)), .inl (nI i), .inl (3 : Int32)] m = some (some (.inl (nI (w_st (stW S.w i) i))), m) := fun h => q_mv 1 h (i := i) (k := 3) hi2 (by omega) (by omega)
        obtain ⟨m3, e9, h3⟩ := q_left 1 h2 (i := i) hi2
        have e9' : lt_ev 13 132 [.inr (.inr (some 0)), .inl (nI i)] m2 = some (some (.inl (nI (w_left S.N (stW S.w i) i))), m3) := e9
        have hll := stW_left (N := S.N) (w := S.w) (i := i) (by omega) g1 c g4
        rw [e2', lt_cI_s, if_neg (nI_pos (by omega)), EG_754, if_pos (nI_pos' (by omega)), e8, lt_cI_s, stW_seen (by omega) (by omega), if_neg (fun q => q rfl), e9', lt_cI_s]
        simp (disch := omega) only [sp_ltn, sp_eq0]
        rw [if_neg (by omega)]
        have hfin : ∀ ls, w1301 q0 x2 x3 x5 x6 (nI (S.w 2)) (nI S.D) (nI (S.w 0)) (nI (S.w 3)) 1 ls → rch (K 1301 ls [] m3) := fun ls hl => fin _ _ _ hl (pst_d (by omega) hI h8 h3 (stW_o (by omega) (by omega) (by omega) (by omega) (by omega)) (J_stamps hw hI.2.2.1 hi cg) (by rw [stW_o (by omega) (by omega) (by omega) (by omega) (by omega)]; have := hI.2.2.2; omega))
        have hgo : w_st S.w i = 0 ∨ w_st S.w i = 3 := by unfold w_goes at cg; exact of_decide_eq_true cg
        have hst := stW_st (w := S.w) (i := i) (by omega)
        by_cases c4 : w_sp S.w i + 1 = w_lg S.w i
        · rw [if_pos c4] at hst
          rw [if_neg (by omega), EG_819, e3 h3, lt_cI_s, hst, if_neg (by decide), EG_835, if_pos rfl]
          exact hfin _ ⟨_, _, _, _, _, _, _, _, _, _, _, _, _, _, _, _, _, rfl⟩
        · rw [if_neg c4] at hst
          rw [if_pos (by omega), EG_819, e3 h3, lt_cI_s, hst]
          simp (disch := omega) only [q_1, sp_eqn]
          rw [if_pos (by omega), EG_835, if_pos rfl]
          exact hfin _ ⟨_, _, _, _, _, _, _, _, _, _, _, _, _, _, _, _, _, rfl⟩
      · have e14 := c14n h1.nR hN hr
        have e2 : lt_ev 13 113 [.inr (.inr (some 0)), .inl (nI i), .inl (nI (w_rt S.w i (w_sp S.w i)))] m1 = some (some (.inl (-2)), m1) := (q_stampsN 1 h1 hi _).2 e14 cg
        rw [e2, lt_cI_s, if_pos (by decide)]
        exact no _ _ _ _ _ _ _ _ _ _ _ _ _ _  _ _ h1 (by decide) (fun q => by omega) (fun _ _ => rfl) (fun _ q => absurd (nI_pos' (by omega)) q)
    · have e2 : lt_ev 13 113 [.inr (.inr (some 0)), .inl (nI i), .inl (-1 : Int32)] m1 = some (some (.inl (-1)), m1) := (q_stampsN 1 h1 hi _).1 c14m
      rw [if_neg c, e2, lt_cI_s, if_pos (by decide)]
      exact no _ _ _ _ _ _ _ _ _ _ _ _ _ _  _ _ h1 (by decide) (fun q => rfl) (fun _ q => absurd q (by decide)) (fun _ q => rfl)
  · have e1 : lt_ev 13 132 [.inr (.inr (some 0)), .inl (nI 0)] m = some (some (.inl (-1)), m) := q_left0 1 h hz
    have e2 : lt_ev 13 113 [.inr (.inr (some 0)), .inl (nI 0), .inl (0 : Int32)] m = some (some (.inl (-1)), m) := q_stamps0 1 h hz _
    rw [e1, lt_cI_s, if_neg (by decide), EG_732, e2, lt_cI_s, if_pos (by decide)]
    exact no _ _ _ _ _ _ _ _ _ _ _ _ _ _  _ _ h (by decide) (fun q => rfl) (fun q => absurd hz q) (fun q => absurd hz q)
theorem brk_add {w : Nat → Nat} (hw : w 2 ≤ 20) {c : Nat} (hi : i < w 2) (h0 : w_br w i = 0) : w_broken (wnote (wset w (23 + 26 * i) 1) 2 i c) = w_broken w + 1 := by
  unfold w_broken
  rw [wn2, show wset w (23 + 26 * i) 1 2 = w 2 from wset_ne (by omega)]
  refine sumN_up (j := i) (w 2) hi (fun j hj hne => ?_) ?_
  · exact (show wnote (wset w (23 + 26 * i) 1) 2 i c (23 + 26 * j) = w (23 + 26 * j) from (wnote_lo (by omega) (by omega)).trans (wset_ne (by omega))).symm
  · show w_br (wnote (wset w (23 + 26 * i) 1) 2 i c) i = w_br w i + 1
    rw [show w_br (wnote (wset w (23 + 26 * i) 1) 2 i c) i = 1 from (wnote_lo (by omega) (by omega)).trans wset_eq, h0]
theorem a_breaks (hI : lwI N0 tr k S) (fin : goes1301 K q0 x2 x3 x5 x6 N0 tr k S) (hk : k < 26) (h : cP (100 * k) S vs m) (hi : i < S.w 2 ∨ S.w 2 = 0 ∧ i = 0) {x13 : Int32} (hx : i < S.w 2 → x13 = nI (w_st S.w i)) (o4 : Option ts_V) (x12 : Int32) (o18 : Option ts_V) (o19 : Option ts_V) (o20 : Option ts_V) (o21 : Option ts_V) (o22 : Option ts_V) (o23 : Option ts_V) (o24 : Option ts_V) (o25 : Option ts_V) (o26 : Option ts_V) (o27 : Option ts_V) :
    rch (lt_cI (lt_ev 13 173 [.inr (.inr (some 0)), .inl (10 : Int32)] m) (fun v12 m12 => (lt_cI (lt_ev 13 129 [.inr (.inr (some 0)), .inl (nI i), .inl (9 : Int32)] m12) (fun v13 m13 => (lt_cI (lt_ev 13 117 [.inr (.inr (some 0)), .inl (nI i)] m13) (fun v14 m14 => (if v14 < 0 then (LG_876 K 13 q0 x2 x3 o4 x5 x6 (nI (S.w 2)) (nI S.D) (nI (S.w 0)) (nI (S.w 3)) (nI i) x12 x13 v12 v13 v14 o18 o19 o20 o21 o22 o23 o24 o25 o26 o27 0 m14) else (LG_876 K 13 q0 x2 x3 o4 x5 x6 (nI (S.w 2)) (nI S.D) (nI (S.w 0)) (nI (S.w 3)) (nI i) x12 x13 v12 v13 v14 o18 o19 o20 o21 o22 o23 o24 o25 o26 o27 1 m14)))))))) := by
  have hw := h.wfL
  have h20 := hw.2.2.1
  have h8 := h.D8
  rw [n10 h, lt_cI_s]
  rcases hi with hi | ⟨hz, rfl⟩
  · have b7 := wf_st hw hi
    have b12 : w_br S.w i ≤ 1 := (hw.2.2.2.2.2 i hi).2.2.2.2.2.2.2.2.2.2.2.1
    have hbb : w_broken S.w ≤ 20 := by
      have := sumN_bound (n := S.w 2) (c := 1) (f := fun i => w_br S.w i) (fun j hj => (hw.2.2.2.2.2 j hj).2.2.2.2.2.2.2.2.2.2.2.1)
      unfold w_broken
      omega
    have e9 : lt_ev 13 129 [.inr (.inr (some 0)), .inl (nI i), .inl (9 : Int32)] m = some (some (.inl (nI (w_br S.w i))), m) := q_mv 1 h hi (k := 9) (by omega) (by omega)
    rw [e9, lt_cI_s, hx hi]
    have hgo : w_goes S.w i = true ↔ w_st S.w i = 0 ∨ w_st S.w i = 3 := by unfold w_goes; simp
    by_cases cg : w_goes S.w i = true
    · by_cases cb : w_br S.w i = 0
      · obtain ⟨m2, e2, h2⟩ := q_breaks 1 (by omega) h hi cg cb
        have e2' : lt_ev 13 117 [.inr (.inr (some 0)), .inl (nI i)] m = some (some (.inl (nI (w_broken (wnote (wset S.w (23 + 26 * i) 1) 2 i (S.w 0))))), m2) := e2
        rw [brk_add h20 hi cb] at e2'
        have hfin : ∀ ls, w1301 q0 x2 x3 x5 x6 (nI (S.w 2)) (nI S.D) (nI (S.w 0)) (nI (S.w 3)) 1 ls → rch (K 1301 ls [] m2) := fun ls hl => fin _ _ _ hl (pst_d (by omega) hI h8 h2 ((wnote_lo (by omega) (by omega)).trans (wset_ne (by omega))) (J_breaks hw hI.2.2.1 hi) (by rw [wnote_lo (by omega) (by omega), wset_ne (by omega)]; have := hI.2.2.2; omega))
        have h905 : ∀ (o4 o18 o19 o20 o21 o22 o23 o24 o25 o26 o27 : Option ts_V), rch (LG_905 K 13 q0 x2 x3 o4 x5 x6 (nI (S.w 2)) (nI S.D) (nI (S.w 0)) (nI (S.w 3)) (nI i) x12 (nI (w_st S.w i)) 1 (nI (w_broken S.w)) (nI (w_br S.w i)) (nI (w_broken S.w + 1)) o18 o19 o20 o21 o22 o23 o24 o25 o26 o27 (nI (w_broken S.w + 1)) m2) := by
          intro o4 o18 o19 o20 o21 o22 o23 o24 o25 o26 o27
          rw [EG_905, cb, if_pos (by decide), nI_1, EG_920, if_pos rfl]
          exact hfin _ ⟨_, _, _, _, _, _, _, _, _, _, _, _, _, _, _, _, _, rfl⟩
        rw [e2', lt_cI_s, if_neg (nI_pos (by omega)), EG_876]
        simp (disch := omega) only [sp_eq0, q_3, sp_eqn]
        rw [if_pos (by omega)]
        rcases hgo.mp cg with q | q
        · rw [if_pos q]; exact h905 _ _ _ _ _ _ _ _ _ _ _ 
        · rw [if_neg (by omega), if_pos q]; exact h905 _ _ _ _ _ _ _ _ _ _ _ 
      · have e2 : lt_ev 13 117 [.inr (.inr (some 0)), .inl (nI i)] m = some (some (.inl (-3)), m) := (q_breaksN 1 h hi).1 cg cb
        have h905 : ∀ (o4 o18 o19 o20 o21 o22 o23 o24 o25 o26 o27 : Option ts_V), rch (LG_905 K 13 q0 x2 x3 o4 x5 x6 (nI (S.w 2)) (nI S.D) (nI (S.w 0)) (nI (S.w 3)) (nI i) x12 (nI (w_st S.w i)) 0 (nI (w_broken S.w)) (nI (w_br S.w i)) (-3) o18 o19 o20 o21 o22 o23 o24 o25 o26 o27 (-3) m) := by
          intro o4 o18 o19 o20 o21 o22 o23 o24 o25 o26 o27
          rw [EG_905, show w_br S.w i = 1 by omega, if_neg (by decide), EG_920, if_pos rfl]
          exact fin _ _ _ ⟨_, _, _, _, _, _, _, _, _, _, _, _, _, _, _, _, _, rfl⟩ (pst_n (by omega) hI h)
        rw [e2, lt_cI_s, if_pos (by decide), EG_876]
        simp (disch := omega) only [sp_eq0, q_3, sp_eqn]
        rw [if_pos (by omega)]
        rcases hgo.mp cg with q | q
        · rw [if_pos q]; exact h905 _ _ _ _ _ _ _ _ _ _ _ 
        · rw [if_neg (by omega), if_pos q]; exact h905 _ _ _ _ _ _ _ _ _ _ _ 
    · have e2 : lt_ev 13 117 [.inr (.inr (some 0)), .inl (nI i)] m = some (some (.inl (-2)), m) := (q_breaksN 1 h hi).2 cg
      rw [e2, lt_cI_s, if_pos (by decide), EG_876]
      simp (disch := omega) only [sp_eq0, q_3, sp_eqn]
      rw [if_pos (by omega), if_neg (fun q => cg (hgo.mpr (Or.inl q))), if_neg (fun q => cg (hgo.mpr (Or.inr q))), EG_920, if_pos rfl]
      exact fin _ _ _ ⟨_, _, _, _, _, _, _, _, _, _, _, _, _, _, _, _, _, rfl⟩ (pst_n (by omega) hI h)
  · have e9 : lt_ev 13 129 [.inr (.inr (some 0)), .inl (nI 0), .inl (9 : Int32)] m = some (some (.inl (-1)), m) := q_mv0 1 h hz _
    have e2 : lt_ev 13 117 [.inr (.inr (some 0)), .inl (nI 0)] m = some (some (.inl (-1)), m) := q_breaks0 1 h hz
    rw [e9, lt_cI_s, e2, lt_cI_s, if_pos (by decide), EG_876, if_neg (by rw [hz]; decide), EG_920, if_pos rfl]
    exact fin _ _ _ ⟨_, _, _, _, _, _, _, _, _, _, _, _, _, _, _, _, _, rfl⟩ (pst_n (by omega) hI h)
end ACT

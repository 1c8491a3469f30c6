/-! ===== the class alone: its state with its ROW; what its calls answer ===== -/
theorem ssL {a b : Int32} {m : lt_m} (h : a = b) : (some (some (.inl a), m) : Option lt_r) = some (some (.inl b), m) := by rw [h]
theorem CS_same {dist wl : DT} {T : Nat} {S : ST} {m m' : lt_m} (h : same m m') (hc : CS dist wl T S m) : CS dist wl T S m' := CS_fr (fun b k _ hs => h.2.2 b k hs) ⟨h.1, h.2.1⟩ hc
def cP (T : Nat) (S : ST) (vs : List Int32) (m : lt_m) : Prop := CS dsD wlD T S m ∧ vs.length ≤ 12 ∧ rwC vs m
section CPS
variable {T : Nat} {S : ST} {vs : List Int32} {m m' : lt_m}
theorem cP.cl (h : cP T S vs m) : cl S.N S.w (0 + 13) m := h.1.2.2.1.1
theorem cP.wfL (h : cP T S vs m) : wfL S.N S.w := h.1.2.2.1.2.2
theorem cP.wfN (h : cP T S vs m) : wfN S.N := by obtain ⟨⟨A, B, n⟩, -⟩ := h.1; exact n.2.2.2.1
theorem cP.nR (h : cP T S vs m) : nR S.N m.2.2.1 m := by obtain ⟨⟨A, B, n⟩, -⟩ := h.1; rw [n.1]; exact n.2.2.2.2.1
set_option maxRecDepth 10000 in
theorem CS_sA {dist wl : DT} (h : CS dist wl T S m) : ts_sh m.2.2.1 = (0, 5) := by
  obtain ⟨⟨A, B, n1, n2, n3, -⟩, -⟩ := h
  rw [n1]
  rcases n3 with ⟨rfl, -⟩ | ⟨rfl, -⟩ <;> decide +kernel
theorem cP.sA (h : cP T S vs m) : ts_sh m.2.2.1 = (0, 5) := CS_sA h.1
theorem q_tell1 (h : cP T S vs m) (A : Int32) : ∃ M2, (∀ d, lt_ev (d + 3) 75 [.inr (.inr (some 0)), .inl A] m = some (none, M2)) ∧ cP T S [A] M2 :=
  ⟨radd (rclr m) 0 A, fun d => k75 d, CS_same (same_tr same_rclr same_radd) h.1, by simp, rwC_add (vs := []) (rwC_clr m)⟩
theorem q_tell2 (h : cP T S vs m) (A B : Int32) : ∃ M2, (∀ d, lt_ev (d + 4) 74 [.inr (.inr (some 0)), .inl A, .inl B] m = some (none, M2)) ∧ cP T S [A, B] M2 :=
  ⟨radd (radd (rclr m) 0 A) 1 B, fun d => k74 d, CS_same (same_tr same_rclr (same_tr same_radd same_radd)) h.1, by simp, rwC_add (vs := [A]) (rwC_add (vs := []) (rwC_clr m))⟩
theorem q_add (h : cP T S vs m) (hl : vs.length < 12) (A : Int32) : ∃ M2, (∀ d, lt_ev (d + 2) 68 [.inr (.inr (some (0 + 4))), .inl A] m = some (none, M2)) ∧ cP T S (vs ++ [A]) M2 :=
  ⟨radd m vs.length A, fun d => k68 d h.2.2 hl, CS_same same_radd h.1, by rw [List.length_append]; exact hl, rwC_add h.2.2⟩
/-- inUse -/
theorem q_inUse (d : Nat) (h : cP T S vs m) {t : Nat} (ht : t < S.w 1) : ∃ m', lt_ev (d + 12) 93 [.inr (.inr (some 0)), .inl (nI t)] m = some (some (.inl (nI (w_used S.w t))), m') ∧ cP T S [nI (S.w (4 + 2 * t)), nI (S.w (5 + 2 * t)), nI (S.w (4 + 2 * t) - w_used S.w t), nI (w_openSet S.w t)] m' := by
  have hw := h.wfL
  have b1 := hw.2.1
  have e : v90 m (0 + 13) (nI t) = 1 := by
    rcases c90 h.cl hw (nI t) with ⟨t', ht', -, e⟩ | ⟨hx, -⟩
    · exact e
    · rcases hx with hx | hx
      · exact absurd hx (nI_pos (by omega))
      · rw [sp_len (by omega) (by omega)] at hx; omega
  obtain ⟨M2, e2, h2⟩ := q_tell2 h (nI (S.w (4 + 2 * t))) (nI (S.w (5 + 2 * t)))
  obtain ⟨M3, e3, h3⟩ := q_add h2 (by simp) (nI (S.w (4 + 2 * t) - w_used S.w t))
  obtain ⟨M4, e4, h4⟩ := q_add h3 (by simp) (nI (w_openSet S.w t))
  refine ⟨M4, ?_, h4⟩
  refine (E93 (d + 11) 0 _ sx m).trans ?_
  rw [p90 (d + 10) _ _ sL m, lt_cI_s, e, if_pos (by decide), p94 (d + 9) _ _ sL m, lt_cI_s, c94 h.cl hw ht, p95 (d + 9) _ _ sL m, lt_cI_s, c95 h.cl hw ht, e2 (d + 7), lt_cV_s, k96 (d + 8) sL h2.cl hw ht, lt_cI_s, e3 (d + 9), lt_cV_s, k97 (d + 9) sL h3.cl hw (by omega), lt_cI_s, e4 (d + 9), lt_cV_s, k91 (d + 9) sL h4.cl hw (by omega), lt_cI_s]
/-- owes -/
theorem q_owes (d : Nat) (h : cP T S vs m) {t : Nat} (ht : t < S.w 1) : ∃ m', lt_ev (d + 12) 98 [.inr (.inr (some 0)), .inl (nI t)] m = some (some (.inl (nI (w_debts S.w t 4))), m') ∧ cP T S [nI (w_debts S.w t 5)] m' := by
  have hw := h.wfL
  have b1 := hw.2.1
  have e : v90 m (0 + 13) (nI t) = 1 := by
    rcases c90 h.cl hw (nI t) with ⟨t', ht', -, e⟩ | ⟨hx, -⟩
    · exact e
    · rcases hx with hx | hx
      · exact absurd hx (nI_pos (by omega))
      · rw [sp_len (by omega) (by omega)] at hx; omega
  obtain ⟨M2, e2, h2⟩ := q_tell1 h (nI (w_debts S.w t 5))
  refine ⟨M2, ?_, h2⟩
  refine (E98 (d + 11) 0 _ sx m).trans ?_
  rw [p90 (d + 10) _ _ sL m, lt_cI_s, e, if_pos (by decide), q_5, k99 (d + 10) sL h.cl hw (by omega) (by omega), lt_cI_s, e2 (d + 8), lt_cV_s, q_4, k99 (d + 10) sL h2.cl hw (by omega) (by omega), lt_cI_s]
/-- left -/
theorem q_left (d : Nat) (h : cP T S vs m) {i : Nat} (hi : i < S.w 2) : ∃ m', lt_ev (d + 12) 132 [.inr (.inr (some 0)), .inl (nI i)] m = some (some (.inl (nI (w_left S.N S.w i))), m') ∧ cP T S [nI (w_tm S.w i) - nI (S.w 0), if w_sp S.w i < w_lg S.w i then nI (w_rt S.w i (w_sp S.w i)) else -1] m' := by
  have hw := h.wfL
  have hN := h.wfN
  have b1 := hw.2.2.1
  have e : v114 m (0 + 13) (nI i) = some (0 + 13 + 3 + 5 + 3 * i) := by
    rcases c114 h.cl hw (nI i) with ⟨i', hi', hh, e⟩ | ⟨hx, -⟩
    · rw [sp_eqn (by omega) (by omega)] at hh
      subst hh
      exact e
    · rcases hx with hx | hx
      · exact absurd hx (nI_pos (by omega))
      · rw [sp_len (by omega) (by omega)] at hx; omega
  obtain ⟨g1, g2, g3, g4⟩ := wf_sp hw hi
  have hq := sh_mv sL (i := i) (by omega)
  obtain ⟨nx, hnx⟩ : ∃ nx, nx = if w_sp S.w i < w_lg S.w i then nI (w_rt S.w i (w_sp S.w i)) else -1 := ⟨_, rfl⟩
  rw [← hnx]
  obtain ⟨M2, e2, h2⟩ := q_tell2 h (nI (w_tm S.w i) - nI (S.w 0)) nx
  refine ⟨M2, ?_, h2⟩
  refine (E132 (d + 11) 0 _ sx m).trans ?_
  rw [p114 (d + 9) _ _ sL m, lt_cR_s, e, lt_nl_s, lt_gd_t hq, p115 (d + 8) _ hq m, lt_cI_s, c115 h.cl hw hi, ← hnx, (h.cl.2.2.2.2.1 i hi).2.2.2.2.2.1, h.cl.1, e2 (d + 7), lt_cV_s, k133 (d + 8) sx h2.sA sL h2.nR h2.cl hN hw hi, lt_cI_s]
theorem q_nol (h : cP T S vs m) (hz : S.w 2 = 0) : v114 m (0 + 13) (nI 0) = none := by
  rcases c114 h.cl h.wfL (nI 0) with ⟨i', hi', -, -⟩ | ⟨-, e⟩
  · omega
  · exact e
theorem q_left0 (d : Nat) (h : cP T S vs m) (hz : S.w 2 = 0) : lt_ev (d + 12) 132 [.inr (.inr (some 0)), .inl (nI 0)] m = some (some (.inl (-1)), m) := by
  refine (E132 (d + 11) 0 _ sx m).trans ?_
  rw [p114 (d + 9) _ _ sL m, lt_cR_s, q_nol h hz, lt_nl_n]
theorem q_fnd (h : cP T S vs m) {i : Nat} (hi : i < S.w 2) : v114 m (0 + 13) (nI i) = some (0 + 13 + 3 + 5 + 3 * i) := by
  have b1 := h.wfL.2.2.1
  rcases c114 h.cl h.wfL (nI i) with ⟨i', hi', hh, e⟩ | ⟨hx, -⟩
  · rw [sp_eqn (by omega) (by omega)] at hh
    subst hh
    exact e
  · rcases hx with hx | hx
    · exact absurd hx (nI_pos (by omega))
    · rw [sp_len (by omega) (by omega)] at hx; omega
theorem q_trd (h : cP T S vs m) {t : Nat} (ht : t < S.w 1) : v90 m (0 + 13) (nI t) = 1 := by
  have b1 := h.wfL.2.1
  rcases c90 h.cl h.wfL (nI t) with ⟨t', ht', -, e⟩ | ⟨hx, -⟩
  · exact e
  · rcases hx with hx | hx
    · exact absurd hx (nI_pos (by omega))
    · rw [sp_len (by omega) (by omega)] at hx; omega
/-- stop -/
theorem q_stop (d : Nat) (h : cP T S vs m) {i k : Nat} (hi : i < S.w 2) (hk : k < w_lg S.w i) : ∃ m', lt_ev (d + 12) 130 [.inr (.inr (some 0)), .inl (nI i), .inl (nI k)] m = some (some (.inl (nI (w_rt S.w i k))), m') ∧ cP T S [if k < w_sp S.w i then nI (w_at S.w i k) else -1] m' := by
  have hw := h.wfL
  have hN := h.wfN
  have b1 := hw.2.2.1
  have bn := hN.2.1
  obtain ⟨g1, g2, g3, g4⟩ := wf_sp hw hi
  have hq := sh_mv sL (i := i) (by omega)
  have e8 := (h.cl.2.2.2.2.1 i hi).2.2.2.2.2.2.2.1
  obtain ⟨hh, hhe⟩ : ∃ hh, hh = if k < w_sp S.w i then nI (w_at S.w i k) else -1 := ⟨_, rfl⟩
  have hv : v131 m (0 + 13 + 3 + 5 + 3 * i) (nI k) = hh := by
    rw [hhe]
    split
    · next q => exact c131 h.cl hw hi q
    · next q => exact c131o h.cl hw hi (by omega) (by omega)
  have hrt : w_rt S.w i k < S.N.1 := wf_rt hw hi hk
  rw [← hhe]
  obtain ⟨M2, e2, h2⟩ := q_tell1 h hh
  refine ⟨M2, ?_, h2⟩
  refine (E130 (d + 11) 0 _ _ sx m).trans ?_
  rw [p114 (d + 9) _ _ sL m, lt_cR_s, q_fnd h hi, lt_nl_s, lt_gd_t hq, p64 (d + 9) _ _ hq m, lt_cI_s, c64 h.cl hw hi hk]
  simp (disch := omega) only [sp_m1, not_false_eq_true, if_true]
  rw [p131 (d + 9) _ _ hq m, lt_cI_s, hv, e2 (d + 8), lt_cV_s, p64 (d + 9) _ _ hq M2, lt_cI_s, c64 h2.cl hw hi hk]
/-- movement -/
def mvV (N : NT) (w : Nat → Nat) (i k : Nat) : Nat := match k with
  | 0 => w_of w i
  | 1 => w_kd w i
  | 2 => w_un w i
  | 3 => w_st w i
  | 4 => w_un w i * N.2.2.2.2 (w_kd w i)
  | 5 => w_sh w i
  | 6 => w_tm w i
  | 7 => w_sp w i
  | 8 => w_seen w i
  | 9 => w_br w i
  | 10 => w_db w i
  | _ => w_lg w i
theorem q_mv (d : Nat) (h : cP T S vs m) {i k : Nat} (hi : i < S.w 2) (hk : k < 13) (hk2 : k ≠ 11) : lt_ev (d + 12) 129 [.inr (.inr (some 0)), .inl (nI i), .inl (nI k)] m = some (some (.inl (nI (mvV S.N S.w i k))), m) := by
  have hw := h.wfL
  have h20 := hw.2.2.1
  have hq := sh_mv sL (i := i) (by omega)
  obtain ⟨e1, e2, e3, e4, e5, e6, e7, e8, e9, e10, e11, -, -⟩ := h.cl.2.2.2.2.1 i hi
  have b12 : w_br S.w i ≤ 1 := (hw.2.2.2.2.2 i hi).2.2.2.2.2.2.2.2.2.2.2.1
  have hcl : lt_ev (d + 12) 129 [.inr (.inr (some 0)), .inl (nI i), .inl (nI k)] m = _ := (E129 (d + 11) 0 _ _ sx m)
  rw [p114 (d + 9) _ _ sL m, lt_cR_s, q_fnd h hi, lt_nl_s, lt_sw_n (by simp) (by simp; omega)] at hcl
  have hk3 : k = 0 ∨ k = 1 ∨ k = 2 ∨ k = 3 ∨ k = 4 ∨ k = 5 ∨ k = 6 ∨ k = 7 ∨ k = 8 ∨ k = 9 ∨ k = 10 ∨ k = 12 := by omega
  rcases hk3 with rfl | rfl | rfl | rfl | rfl | rfl | rfl | rfl | rfl | rfl | rfl | rfl
  · exact hcl.trans ((lt_gd_t hq).trans (by rw [e1]; rfl))
  · exact hcl.trans ((lt_gd_t hq).trans (by rw [e2]; rfl))
  · exact hcl.trans ((lt_gd_t hq).trans (by rw [e3]; rfl))
  · exact hcl.trans ((lt_gd_t hq).trans (by rw [e7]; rfl))
  · exact hcl.trans ((lt_gd_t hq).trans (by rw [e4]; rfl))
  · exact hcl.trans ((lt_gd_t hq).trans (by rw [e5]; rfl))
  · exact hcl.trans ((lt_gd_t hq).trans (by rw [e6]; rfl))
  · exact hcl.trans ((lt_gd_t hq).trans (by rw [e9]; rfl))
  · exact hcl.trans ((lt_gd_t hq).trans (by rw [p63 (d + 8) _ hq m, lt_cI_s, c63 h.cl hw hi]; rfl))
  · refine hcl.trans ((lt_gd_t hq).trans ?_)
    rw [e11]
    have c : w_br S.w i = 0 ∨ w_br S.w i = 1 := by omega
    show _ = (some (some (.inl (nI (w_br S.w i))), m) : Option lt_r)
    rcases c with c | c
    · rw [c, if_pos (by decide)]; rfl
    · rw [c, if_neg (by decide)]; rfl
  · exact hcl.trans ((lt_gd_t hq).trans (by rw [e10]; rfl))
  · exact hcl.trans ((lt_gd_t hq).trans (by rw [e8]; rfl))
theorem q_mv0 (d : Nat) (h : cP T S vs m) (hz : S.w 2 = 0) (y : Int32) : lt_ev (d + 12) 129 [.inr (.inr (some 0)), .inl (nI 0), .inl y] m = some (some (.inl (-1)), m) := by
  refine (E129 (d + 11) 0 _ _ sx m).trans ?_
  rw [p114 (d + 9) _ _ sL m, lt_cR_s, q_nol h hz, lt_nl_n]
/-- states -/
theorem q_states (d : Nat) (h : cP T S vs m) {t : Nat} (ht : t < 6) : ∃ m', lt_ev (d + 12) 137 [.inr (.inr (some 0)), .inl (nI t)] m = some (some (.inl (nI (bitsN (fun i => decide (w_st S.w i = t)) (S.w 2)))), m') ∧ cP T S [nI (pcN (bitsN (fun i => decide (w_st S.w i = t)) (S.w 2)) 24), nI (sumN (fun i => if w_st S.w i = t then w_sh S.w i else 0) (S.w 2))] m' := by
  have hw := h.wfL
  have h20 := hw.2.2.1
  obtain ⟨w, hww⟩ : ∃ w, w = S.w := ⟨_, rfl⟩
  have hcl := h.cl
  rw [← hww] at hw h20 hcl ⊢
  obtain ⟨p, hp⟩ : ∃ p : Nat → Bool, p = fun i => decide (w_st w i = t) := ⟨_, rfl⟩
  obtain ⟨f, hf⟩ : ∃ f, f = fun i => if w_st w i = t then w_sh w i else 0 := ⟨_, rfl⟩
  rw [← hp, ← hf]
  have ep : bitsN p (w 2) = bitsN (fun i => decide (i < w 2) && p i) 20 := b20 h20 p
  have ef : sumN f (w 2) = sumN (fun i => if i < w 2 ∧ w_st w i = t then w_sh w i else 0) 20 := by rw [hf]; exact s20 h20 _ _
  obtain ⟨M2, e2, h2⟩ := q_tell2 h (nI (pcN (bitsN p (w 2)) 24)) (nI (sumN f (w 2)))
  have hb := bitsN_24 p (n := w 2) (by omega)
  refine ⟨M2, ?_, h2⟩
  refine (E137 (d + 11) 0 _ sx m).trans ?_
  rw [if_neg (nI_pos (by omega)), if_pos (by rw [q_5, sp_len (by omega) (by omega)]; omega)]
  rw [ep, ef] at e2
  rw [ep] at hb ⊢
  refine lp_it (F := fun i o => L137_32 (d + 11) 0 (nI t) (nI (bitsN (fun i => decide (i < w 2) && p i) i)) (nI (sumN (fun i => if i < w 2 ∧ w_st w i = t then w_sh w i else 0) i)) (nI i) o m) 20 ?_ ?_ none
  · intro i o hi
    refine ⟨some (.inr (.inr (some (0 + 13 + 3 + 5 + 3 * i)))), ?_⟩
    rw [E137_32 _ _ _ _ _ _ _ sx]
    simp (disch := omega) only [q_20, sp_len, nI_clamp, sumN, bitsN_succ]
    rw [if_neg (by omega), lt_gd_t ⟨nI_pos' (by omega), hi⟩]
    by_cases h2 : i < w 2
    · obtain ⟨-, -, -, -, e5, -, e7, -⟩ := hcl.2.2.2.2.1 i h2
      have b7 := wf_st hw h2
      rw [e7]
      simp (disch := omega) only [sp_eqn]
      by_cases c : w_st w i = t
      · rw [if_neg (by simp [c]), p65 (d + 10) _ (sh_mv sL hi) m, lt_cI_s, c65 hcl hi, sp_orI (bitsN_lt _ i), nI_1, e5, nI_add, if_pos (by rw [hp]; simp [h2, c]), if_pos ⟨h2, c⟩]
      · rw [if_pos c, nI_1, if_neg (by rw [hp]; simp [c]), if_neg (by simp [c])]; rfl
    · rw [hcl.2.2.2.2.2.1 i (by omega) hi, if_pos (by rw [sp_m1' (by omega)]; decide), nI_1, if_neg (by simp [h2]), if_neg (by simp [h2])]; rfl
  · intro o
    rw [E137_32 _ _ _ _ _ _ _ sx, if_pos (by decide), k60 (d + 10) hb, lt_cI_s, e2 (d + 7), lt_cV_s]
/-- late -/
theorem q_late (d : Nat) (h : cP T S vs m) : ∃ m', lt_ev (d + 12) 140 [.inr (.inr (some 0))] m = some (some (.inl (nI (bitsN (w_late S.N S.w) (S.w 2)))), m') ∧ cP T S [nI (pcN (bitsN (w_late S.N S.w) (S.w 2)) 24)] m' := by
  have hw := h.wfL
  have hN := h.wfN
  have h20 := hw.2.2.1
  obtain ⟨w, hww⟩ : ∃ w, w = S.w := ⟨_, rfl⟩
  obtain ⟨N, hNN⟩ : ∃ N, N = S.N := ⟨_, rfl⟩
  have hcl := h.cl
  have hnR := h.nR
  rw [← hww] at hw h20 hcl ⊢
  rw [← hNN] at hN hw hcl hnR ⊢
  obtain ⟨p, hp⟩ : ∃ p : Nat → Bool, p = w_late N w := ⟨_, rfl⟩
  rw [← hp]
  have ep : bitsN p (w 2) = bitsN (fun i => decide (i < w 2) && p i) 20 := b20 h20 p
  obtain ⟨M2, e2, h2⟩ := q_tell1 h (nI (pcN (bitsN p (w 2)) 24))
  have hb := bitsN_24 p (n := w 2) (by omega)
  refine ⟨M2, ?_, h2⟩
  refine (E140 (d + 11) 0 sx m).trans ?_
  rw [ep] at e2
  rw [ep] at hb ⊢
  refine lp_it (F := fun i o => L140_16 (d + 11) 0 (nI (bitsN (fun i => decide (i < w 2) && p i) i)) (nI i) o m) 20 ?_ ?_ none
  · intro i o hi
    refine ⟨some (.inr (.inr (some (0 + 13 + 3 + 5 + 3 * i)))), ?_⟩
    rw [E140_16 _ _ _ _ _ sx]
    simp (disch := omega) only [q_20, sp_len, nI_clamp, bitsN_succ]
    rw [if_neg (by omega), lt_gd_t ⟨nI_pos' (by omega), hi⟩, k141 (d + 6) sx h.sA sL hnR hcl hN hw hi, lt_cI_s]
    by_cases c : i < w 2 ∧ w_late N w i = true
    · rw [show (if i < w 2 ∧ w_late N w i = true then (1 : Int32) else 0) = 1 from if_pos c, if_neg (by decide), p65 (d + 10) _ (sh_mv sL hi) m, lt_cI_s, c65 hcl hi, sp_orI (bitsN_lt _ i), nI_1, if_pos (by rw [hp]; simp [c])]
    · rw [show (if i < w 2 ∧ w_late N w i = true then (1 : Int32) else 0) = 0 from if_neg c, if_pos rfl, nI_1, if_neg (by rw [hp]; simp only [Bool.and_eq_true, decide_eq_true_eq]; exact c)]; rfl
  · intro o
    rw [E140_16 _ _ _ _ _ sx, if_pos (by decide), k60 (d + 10) hb, lt_cI_s, e2 (d + 8), lt_cV_s]
end CPS

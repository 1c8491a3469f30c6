/-! ===== calls that change a movement ===== -/
section CPS
variable {T : Nat} {S : ST} {vs : List Int32} {m m' : lt_m}
theorem rwC_eq (h4 : m'.1 4 = m.1 4) (h5 : m'.1 5 = m.1 5) (h : rwC vs m) : rwC vs m' := ⟨by rw [h4]; exact h.1, fun j v hj => by rw [h5]; exact h.2 j v hj⟩
/-- breaks -/
theorem q_breaks (d : Nat) (hT : T < 2 ^ 30) (h : cP T S vs m) {i : Nat} (hi : i < S.w 2) (c1 : w_goes S.w i = true) (c2 : w_br S.w i = 0) : ∃ m', lt_ev (d + 12) 117 [.inr (.inr (some 0)), .inl (nI i)] m = some (some (.inl (nI (w_broken (wnote (wset S.w (23 + 26 * i) 1) 2 i (S.w 0))))), m') ∧ cP (T + 1) (S.rem.setw (wnote (wset S.w (23 + 26 * i) 1) 2 i (S.w 0))) vs m' := by
  have hC := h.1
  have hw := h.wfL
  have h20 := hw.2.2.1
  have hcl := h.cl
  have hq := sh_mv sL (i := i) (by omega)
  have e11 : m.1 (0 + 13 + 3 + 5 + 3 * i) 11 = nI (w_br S.w i) := (hcl.2.2.2.2.1 i hi).2.2.2.2.2.2.2.2.2.2.1
  have hcls : lt_ev (d + 12) 117 [.inr (.inr (some 0)), .inl (nI i)] m = _ := E117 (d + 11) 0 _ sx m
  rw [p114 (d + 9) _ _ sL m, lt_cR_s, q_fnd h hi, lt_nl_s, lt_gd_t hq, p62 (d + 10) _ hq m, lt_cI_s, c62 hcl hw (by omega), e11] at hcls
  rw [show (if i < S.w 2 ∧ w_goes S.w i = true then (1 : Int32) else 0) = 1 from if_pos ⟨hi, c1⟩, if_pos (by decide), c2, if_pos (by decide)] at hcls
  obtain ⟨M1, e1, C1, r1, f1⟩ := k81 hC
  have hmv : mvR S.N S.w i (0 + 13 + 3 + 5 + 3 * i) M1 := C1.2.2.1.1.2.2.2.2.1 i hi
  obtain ⟨M3, e3, C3, r3, f3, f3'⟩ := CS_chg (S := S.rem) (w' := wset S.w (23 + 26 * i) 1) (M2 := lm_i M1 (0 + 13 + 3 + 5 + 3 * i) 11 1) C1 hT hi (fun k hk => wset_ne (by omega)) ⟨wset_ne (by omega), wset_ne (by omega), fun q => by
      unfold w_open at q ⊢
      rw [show w_st (wset S.w (23 + 26 * i) 1) i = w_st S.w i from wset_ne (by omega)] at q
      exact q⟩ (wfM_br (by decide) (hw.2.2.2.2.2 i hi)) (fun b b1 b2 => lm_i_ne b1) (lm_i_ns (by omega)) (Or.inr lm_i_eq) rfl (mvR_br hmv) 2
  have hw5 : wfL S.N (wnote (wset S.w (23 + 26 * i) 1) 2 i (S.w 0)) := C3.2.2.1.2.2
  have hcl5 : cl S.N (wnote (wset S.w (23 + 26 * i) 1) 2 i (S.w 0)) (0 + 13) M3 := C3.2.2.1.1
  refine ⟨M3, hcls.trans ?_, C3, h.2.1, rwC_eq (by rw [f3 4 (by omega), f1 4 (by omega)]) (by rw [f3 5 (by omega), f1 5 (by omega)]) h.2.2⟩
  have e81 : lt_ev (d + 11) 81 [.inr (.inr (some (0 + 81))), .inr (.inr (some (0 + 13)))] m = some (none, M1) := e1 (d + 7)
  rw [e81, lt_cV_s, q_2, e3 (d + 8), lt_cV_s, k118 (d + 10) sL hcl5 hw5, lt_cI_s]
theorem q_breaksN (d : Nat) (h : cP T S vs m) {i : Nat} (hi : i < S.w 2) : (w_goes S.w i = true → w_br S.w i ≠ 0 → lt_ev (d + 12) 117 [.inr (.inr (some 0)), .inl (nI i)] m = some (some (.inl (-3)), m)) ∧ (¬ w_goes S.w i = true → lt_ev (d + 12) 117 [.inr (.inr (some 0)), .inl (nI i)] m = some (some (.inl (-2)), m)) := by
  have hw := h.wfL
  have h20 := hw.2.2.1
  have hcl := h.cl
  have hq := sh_mv sL (i := i) (by omega)
  have b12 : w_br S.w i ≤ 1 := (hw.2.2.2.2.2 i hi).2.2.2.2.2.2.2.2.2.2.2.1
  have e11 : m.1 (0 + 13 + 3 + 5 + 3 * i) 11 = nI (w_br S.w i) := (hcl.2.2.2.2.1 i hi).2.2.2.2.2.2.2.2.2.2.1
  have hcls : lt_ev (d + 12) 117 [.inr (.inr (some 0)), .inl (nI i)] m = _ := E117 (d + 11) 0 _ sx m
  rw [p114 (d + 9) _ _ sL m, lt_cR_s, q_fnd h hi, lt_nl_s, lt_gd_t hq, p62 (d + 10) _ hq m, lt_cI_s, c62 hcl hw (by omega), e11] at hcls
  refine ⟨fun c1 c2 => ?_, fun c1 => ?_⟩
  · rw [show (if i < S.w 2 ∧ w_goes S.w i = true then (1 : Int32) else 0) = 1 from if_pos ⟨hi, c1⟩, if_pos (by decide), show w_br S.w i = 1 by omega, if_neg (by decide)] at hcls
    exact hcls
  · rw [show (if i < S.w 2 ∧ w_goes S.w i = true then (1 : Int32) else 0) = 0 from if_neg (fun q => c1 q.2), if_neg (by decide)] at hcls
    exact hcls
theorem q_breaks0 (d : Nat) (h : cP T S vs m) (hz : S.w 2 = 0) : lt_ev (d + 12) 117 [.inr (.inr (some 0)), .inl (nI 0)] m = some (some (.inl (-1)), m) := by
  refine (E117 (d + 11) 0 _ sx m).trans ?_
  rw [p114 (d + 9) _ _ sL m, lt_cR_s, q_nol h hz, lt_nl_n]
/-- proves -/
theorem q_proves (d : Nat) (hT : T < 2 ^ 30) (h : cP T S vs m) {i : Nat} (hi : i < S.w 2) (c1 : w_st S.w i = 3) (c2 : w_br S.w i = 0) : ∃ m', lt_ev (d + 12) 121 [.inr (.inr (some 0)), .inl (nI i)] m = some (some (.inl (nI ((S.w 0 - w_tm S.w i) / 24))), m') ∧ cP (T + 1) (S.rem.setw (wnote (wset S.w (19 + 26 * i) 2) 3 i (S.w 0))) vs m' := by
  have hC := h.1
  have hw := h.wfL
  have h20 := hw.2.2.1
  have hcl := h.cl
  have hq := sh_mv sL (i := i) (by omega)
  have hwm := hw.2.2.2.2.2 i hi
  obtain ⟨-, -, -, -, -, -, e7, -, -, -, e11, -⟩ := hcl.2.2.2.2.1 i hi
  have hcls : lt_ev (d + 12) 121 [.inr (.inr (some 0)), .inl (nI i)] m = _ := E121 (d + 11) 0 _ sx m
  rw [p114 (d + 9) _ _ sL m, lt_cR_s, q_fnd h hi, lt_nl_s, lt_gd_t hq, e7, e11, c1, if_pos (by decide), c2, if_pos (by decide)] at hcls
  obtain ⟨M1, e1, C1, r1, f1⟩ := k81 hC
  have hcl1 : cl S.N S.w (0 + 13) M1 := C1.2.2.1.1
  have hmv : mvR S.N S.w i (0 + 13 + 3 + 5 + 3 * i) M1 := hcl1.2.2.2.2.1 i hi
  have hbr1 : M1.1 (0 + 13 + 3 + 5 + 3 * i) 11 = 0 := by rw [hmv.2.2.2.2.2.2.2.2.2.2.1, c2]; rfl
  obtain ⟨M3, e3, C3, r3, f3, f3'⟩ := CS_chg (S := S.rem) (w' := wset S.w (19 + 26 * i) 2) (M2 := lm_i M1 (0 + 13 + 3 + 5 + 3 * i) 7 2) C1 hT hi (fun k hk => wset_ne (by omega)) ⟨wset_ne (by omega), wset_ne (by omega), op_cl 2 (by omega)⟩ (wfM_st (by omega) (fun _ => hwm.2.2.2.2.2.2.2.2.2.2.2.2.1.2 (by omega)) hwm) (fun b b1 b2 => lm_i_ne b1) (lm_i_ns (by omega)) (Or.inl (by rw [lm_i_ns (by omega)]; exact hbr1)) rfl (mvR_st hmv) 3
  refine ⟨M3, hcls.trans ?_, C3, h.2.1, rwC_eq (by rw [f3 4 (by omega), f1 4 (by omega)]) (by rw [f3 5 (by omega), f1 5 (by omega)]) h.2.2⟩
  have e81 : lt_ev (d + 11) 81 [.inr (.inr (some (0 + 81))), .inr (.inr (some (0 + 13)))] m = some (none, M1) := e1 (d + 7)
  rw [e81, lt_cV_s, p122 (d + 10) _ _ hq M1, lt_cI_s, hcl1.1, c122 hcl1 hw hi, if_pos c1, q_3, e3 (d + 8), lt_cV_s]
theorem q_provesN (d : Nat) (h : cP T S vs m) {i : Nat} (hi : i < S.w 2) (c : ¬ (w_st S.w i = 3 ∧ w_br S.w i = 0)) : ∃ v : Int32, v < 0 ∧ lt_ev (d + 12) 121 [.inr (.inr (some 0)), .inl (nI i)] m = some (some (.inl v), m) := by
  have hw := h.wfL
  have h20 := hw.2.2.1
  have hcl := h.cl
  have hq := sh_mv sL (i := i) (by omega)
  have b7 := wf_st hw hi
  have b12 : w_br S.w i ≤ 1 := (hw.2.2.2.2.2 i hi).2.2.2.2.2.2.2.2.2.2.2.1
  obtain ⟨-, -, -, -, -, -, e7, -, -, -, e11, -⟩ := hcl.2.2.2.2.1 i hi
  have hcls : lt_ev (d + 12) 121 [.inr (.inr (some 0)), .inl (nI i)] m = _ := E121 (d + 11) 0 _ sx m
  rw [p114 (d + 9) _ _ sL m, lt_cR_s, q_fnd h hi, lt_nl_s, lt_gd_t hq, e7, e11] at hcls
  by_cases c1 : w_st S.w i = 3
  · refine ⟨-3, by decide, hcls.trans ?_⟩
    rw [c1, if_pos (by decide), show w_br S.w i = 1 by omega, if_neg (by decide)]
  · refine ⟨-2, by decide, hcls.trans ?_⟩
    rw [if_neg (by rw [q_3, sp_eqn (by omega) (by omega)]; exact c1)]
theorem q_proves0 (d : Nat) (h : cP T S vs m) (hz : S.w 2 = 0) : lt_ev (d + 12) 121 [.inr (.inr (some 0)), .inl (nI 0)] m = some (some (.inl (-1)), m) := by
  refine (E121 (d + 11) 0 _ sx m).trans ?_
  rw [p114 (d + 9) _ _ sL m, lt_cR_s, q_nol h hz, lt_nl_n]
/-- pays -/
theorem q_pays (d : Nat) (hT : T < 2 ^ 30) (h : cP T S vs m) {i : Nat} (hi : i < S.w 2) (c1 : w_st S.w i = 4) : ∃ m', lt_ev (d + 12) 123 [.inr (.inr (some 0)), .inl (nI i)] m = some (some (.inl (nI (w_db S.w i))), m') ∧ cP (T + 1) (S.rem.setw (wnote (wset S.w (19 + 26 * i) 5) 6 i (S.w 0))) vs m' := by
  have hC := h.1
  have hw := h.wfL
  have h20 := hw.2.2.1
  have hcl := h.cl
  have hq := sh_mv sL (i := i) (by omega)
  have hwm := hw.2.2.2.2.2 i hi
  have b12 : w_br S.w i ≤ 1 := hwm.2.2.2.2.2.2.2.2.2.2.2.1
  obtain ⟨-, -, -, -, -, -, e7, -⟩ := hcl.2.2.2.2.1 i hi
  have hcls : lt_ev (d + 12) 123 [.inr (.inr (some 0)), .inl (nI i)] m = _ := E123 (d + 11) 0 _ sx m
  rw [p114 (d + 9) _ _ sL m, lt_cR_s, q_fnd h hi, lt_nl_s, lt_gd_t hq, e7, c1, if_pos (by decide)] at hcls
  obtain ⟨M1, e1, C1, r1, f1⟩ := k81 hC
  have hcl1 : cl S.N S.w (0 + 13) M1 := C1.2.2.1.1
  have hmv : mvR S.N S.w i (0 + 13 + 3 + 5 + 3 * i) M1 := hcl1.2.2.2.2.1 i hi
  have hbr1 : M1.1 (0 + 13 + 3 + 5 + 3 * i) 11 = 0 ∨ M1.1 (0 + 13 + 3 + 5 + 3 * i) 11 = 1 := by
    rw [hmv.2.2.2.2.2.2.2.2.2.2.1]
    have : w_br S.w i = 0 ∨ w_br S.w i = 1 := by omega
    rcases this with q | q
    · rw [q]; exact Or.inl rfl
    · rw [q]; exact Or.inr rfl
  obtain ⟨M3, e3, C3, r3, f3, f3'⟩ := CS_chg (S := S.rem) (w' := wset S.w (19 + 26 * i) 5) (M2 := lm_i M1 (0 + 13 + 3 + 5 + 3 * i) 7 5) C1 hT hi (fun k hk => wset_ne (by omega)) ⟨wset_ne (by omega), wset_ne (by omega), op_cl 5 (by omega)⟩ (wfM_st (by omega) (fun q => absurd q (by decide)) hwm) (fun b b1 b2 => lm_i_ne b1) (lm_i_ns (by omega)) (by rw [lm_i_ns (by omega)]; exact hbr1) rfl (mvR_st hmv) 6
  have e10 : M3.1 (0 + 13 + 3 + 5 + 3 * i) 10 = nI (w_db S.w i) := by
    rw [f3' _ (by omega), lm_i_ns (by omega)]; exact hmv.2.2.2.2.2.2.2.2.2.1
  refine ⟨M3, hcls.trans ?_, C3, h.2.1, rwC_eq (by rw [f3 4 (by omega), f1 4 (by omega)]) (by rw [f3 5 (by omega), f1 5 (by omega)]) h.2.2⟩
  have e81 : lt_ev (d + 11) 81 [.inr (.inr (some (0 + 81))), .inr (.inr (some (0 + 13)))] m = some (none, M1) := e1 (d + 7)
  rw [e81, lt_cV_s, q_6, e3 (d + 8), lt_cV_s, e10]
theorem q_paysN (d : Nat) (h : cP T S vs m) {i : Nat} (hi : i < S.w 2) (c1 : ¬ w_st S.w i = 4) : lt_ev (d + 12) 123 [.inr (.inr (some 0)), .inl (nI i)] m = some (some (.inl (-2)), m) := by
  have hw := h.wfL
  have h20 := hw.2.2.1
  have hcl := h.cl
  have hq := sh_mv sL (i := i) (by omega)
  have b7 := wf_st hw hi
  obtain ⟨-, -, -, -, -, -, e7, -⟩ := hcl.2.2.2.2.1 i hi
  have hcls : lt_ev (d + 12) 123 [.inr (.inr (some 0)), .inl (nI i)] m = _ := E123 (d + 11) 0 _ sx m
  rw [p114 (d + 9) _ _ sL m, lt_cR_s, q_fnd h hi, lt_nl_s, lt_gd_t hq, e7, if_neg (by rw [q_4, sp_eqn (by omega) (by omega)]; exact c1)] at hcls
  exact hcls
theorem q_pays0 (d : Nat) (h : cP T S vs m) (hz : S.w 2 = 0) : lt_ev (d + 12) 123 [.inr (.inr (some 0)), .inl (nI 0)] m = some (some (.inl (-1)), m) := by
  refine (E123 (d + 11) 0 _ sx m).trans ?_
  rw [p114 (d + 9) _ _ sL m, lt_cR_s, q_nol h hz, lt_nl_n]
/-- stamps -/
def stW (w : Nat → Nat) (i : Nat) : Nat → Nat := wnote (wset (wset (wset w (34 + 26 * i + w_sp w i) (w 0)) (22 + 26 * i) (w_sp w i + 1)) (19 + 26 * i) (if w_sp w i + 1 = w_lg w i then 1 else w_st w i)) 1 i (w 0)
theorem q_stampsN (d : Nat) (h : cP T S vs m) {i : Nat} (hi : i < S.w 2) (y : Int32) : (v14 m m.2.2.1 y = 0 → lt_ev (d + 12) 113 [.inr (.inr (some 0)), .inl (nI i), .inl y] m = some (some (.inl (-1)), m)) ∧ (v14 m m.2.2.1 y = 1 → ¬ w_goes S.w i = true → lt_ev (d + 12) 113 [.inr (.inr (some 0)), .inl (nI i), .inl y] m = some (some (.inl (-2)), m)) := by
  have hw := h.wfL
  have h20 := hw.2.2.1
  have hcl := h.cl
  have hq := sh_mv sL (i := i) (by omega)
  have hcls : lt_ev (d + 12) 113 [.inr (.inr (some 0)), .inl (nI i), .inl y] m = _ := E113 (d + 11) 0 _ _ sx m
  rw [p114 (d + 9) _ _ sL m, lt_cR_s, q_fnd h hi, lt_nl_s, lt_gd_t h.sA, p14 (d + 10) _ _ h.sA m, lt_cI_s] at hcls
  refine ⟨fun e' => ?_, fun e' c1 => ?_⟩
  · rw [e', if_neg (by decide)] at hcls
    exact hcls
  · rw [e', if_pos (by decide), lt_gd_t hq, p62 (d + 10) _ hq m, lt_cI_s, c62 hcl hw (by omega), show (if i < S.w 2 ∧ w_goes S.w i = true then (1 : Int32) else 0) = 0 from if_neg (fun q => c1 q.2), if_neg (by decide)] at hcls
    exact hcls
theorem q_stamps0 (d : Nat) (h : cP T S vs m) (hz : S.w 2 = 0) (y : Int32) : lt_ev (d + 12) 113 [.inr (.inr (some 0)), .inl (nI 0), .inl y] m = some (some (.inl (-1)), m) := by
  refine (E113 (d + 11) 0 _ _ sx m).trans ?_
  rw [p114 (d + 9) _ _ sL m, lt_cR_s, q_nol h hz, lt_nl_n]
theorem q_stamps (d : Nat) (hT : T < 2 ^ 30) (h : cP T S vs m) {i : Nat} (hi : i < S.w 2) (c1 : w_goes S.w i = true) : ∃ m', lt_ev (d + 12) 113 [.inr (.inr (some 0)), .inl (nI i), .inl (nI (w_rt S.w i (w_sp S.w i)))] m = some (some (.inl (nI (w_lg S.w i - (w_sp S.w i + 1)))), m') ∧ cP (T + 1) (S.rem.setw (stW S.w i)) vs m' := by
  have hC := h.1
  have hw := h.wfL
  have hN := h.wfN
  have bn := hN.2.1
  have h20 := hw.2.2.1
  have hcl := h.cl
  have hq := sh_mv sL (i := i) (by omega)
  obtain ⟨s1, s2, s3, s4⟩ := wf_sp hw hi
  have hwm := hw.2.2.2.2.2 i hi
  have b12 : w_br S.w i ≤ 1 := hwm.2.2.2.2.2.2.2.2.2.2.2.1
  have hsl : w_sp S.w i < w_lg S.w i := hwm.2.2.2.2.2.2.2.2.2.2.2.2.2.2.2.2.1 c1
  have hr1 : w_rt S.w i (w_sp S.w i) < S.N.1 := wf_rt hw hi hsl
  have e' := c14n h.nR hN hr1
  have hcls : lt_ev (d + 12) 113 [.inr (.inr (some 0)), .inl (nI i), .inl (nI (w_rt S.w i (w_sp S.w i)))] m = _ := E113 (d + 11) 0 _ _ sx m
  rw [p114 (d + 9) _ _ sL m, lt_cR_s, q_fnd h hi, lt_nl_s, lt_gd_t h.sA, p14 (d + 10) _ _ h.sA m, lt_cI_s, e', if_pos (by decide), lt_gd_t hq, p62 (d + 10) _ hq m, lt_cI_s, c62 hcl hw (by omega), show (if i < S.w 2 ∧ w_goes S.w i = true then (1 : Int32) else 0) = 1 from if_pos ⟨hi, c1⟩, if_pos (by decide), p115 (d + 8) _ hq m, lt_cI_s, c115 hcl hw hi, if_pos hsl, if_pos rfl] at hcls
  obtain ⟨sp, hsp⟩ : ∃ sp, sp = w_sp S.w i := ⟨_, rfl⟩
  obtain ⟨st, hst⟩ : ∃ st, st = if sp + 1 = w_lg S.w i then 1 else w_st S.w i := ⟨_, rfl⟩
  obtain ⟨W1, hW1⟩ : ∃ W1, W1 = wset (wset S.w (34 + 26 * i + sp) (S.w 0)) (22 + 26 * i) (sp + 1) := ⟨_, rfl⟩
  have hop : w_open S.w i = true := by
    unfold w_goes at c1
    unfold w_open
    simp only [decide_eq_true_eq] at c1 ⊢
    omega
  obtain ⟨M1, e1, C1, r1, f1⟩ := k81 hC
  have hcl1 : cl S.N S.w (0 + 13) M1 := C1.2.2.1.1
  have hmv : mvR S.N S.w i (0 + 13 + 3 + 5 + 3 * i) M1 := hcl1.2.2.2.2.1 i hi
  have hbr1 : M1.1 (0 + 13 + 3 + 5 + 3 * i) 11 = 0 ∨ M1.1 (0 + 13 + 3 + 5 + 3 * i) 11 = 1 := by
    rw [hmv.2.2.2.2.2.2.2.2.2.2.1]
    have : w_br S.w i = 0 ∨ w_br S.w i = 1 := by omega
    rcases this with q | q
    · rw [q]; exact Or.inl rfl
    · rw [q]; exact Or.inr rfl
  obtain ⟨MA, hMA⟩ : ∃ MA, MA = lm_i (lm_i M1 (0 + 13 + 3 + 5 + 3 * i + 2) sp (nI (S.w 0))) (0 + 13 + 3 + 5 + 3 * i) 9 (nI (sp + 1)) := ⟨_, rfl⟩
  have gA : mvR S.N W1 i (0 + 13 + 3 + 5 + 3 * i) MA := by rw [hW1, hMA, hsp]; exact mvR_at s4 (by omega) hmv
  obtain ⟨M2, hM2⟩ : ∃ M2, M2 = if sp + 1 = w_lg S.w i then lm_i MA (0 + 13 + 3 + 5 + 3 * i) 7 1 else MA := ⟨_, rfl⟩
  have w1st : w_st W1 i = w_st S.w i := by rw [hW1]; exact (wset_ne (by omega)).trans (wset_ne (by omega))
  have g4 : mvR S.N (wset W1 (19 + 26 * i) st) i (0 + 13 + 3 + 5 + 3 * i) M2 := by
    rw [hM2, hst]
    by_cases c : sp + 1 = w_lg S.w i
    · rw [if_pos c, if_pos c]; exact mvR_st gA
    · rw [if_neg c, if_neg c, wset_id (w := W1) (k := 19 + 26 * i) w1st]; exact gA
  have g1 : ∀ b, b ≠ 0 + 13 + 3 + 5 + 3 * i → b ≠ 0 + 13 + 3 + 5 + 3 * i + 2 → M2.1 b = M1.1 b := fun b hb hb2 => by
    rw [hM2]; split
    · rw [lm_i_ne hb, hMA, lm_i_ne hb, lm_i_ne hb2]
    · rw [hMA, lm_i_ne hb, lm_i_ne hb2]
  have g2 : ∀ z, z ≠ 7 → z ≠ 9 → M2.1 (0 + 13 + 3 + 5 + 3 * i) z = M1.1 (0 + 13 + 3 + 5 + 3 * i) z := fun z z1 z2 => by
    rw [hM2]; split
    · rw [lm_i_ns (by omega), hMA, lm_i_ns (by omega), lm_i_ne (by omega)]
    · rw [hMA, lm_i_ns (by omega), lm_i_ne (by omega)]
  have g3 : M2.2 = M1.2 := by rw [hM2, hMA]; split <;> rfl
  have g9 : M2.1 (0 + 13 + 3 + 5 + 3 * i) 9 = nI (sp + 1) := by
    rw [hM2]; split
    · rw [lm_i_ns (by omega), hMA]; exact lm_i_eq
    · rw [hMA]; exact lm_i_eq
  have hwf' : wfM S.N (wset W1 (19 + 26 * i) st) i := by rw [hW1, hst, hsp]; exact wfM_at s4 hsl c1 hwm
  have hofs : ∀ k, k ≠ 19 + 26 * i → k ≠ 22 + 26 * i → k ≠ 34 + 26 * i + sp → wset W1 (19 + 26 * i) st k = S.w k := fun k k1 k2 k3 => by rw [wset_ne k1, hW1, wset_ne k2, wset_ne k3]
  obtain ⟨M3, e3, C3, r3, f3, f3'⟩ := CS_chg (S := S.rem) (w' := wset W1 (19 + 26 * i) st) (M2 := M2) C1 hT hi (fun k hk => hofs k (by omega) (by omega) (by omega)) ⟨hofs _ (by omega) (by omega) (by omega), hofs _ (by omega) (by omega) (by omega), fun _ => hop⟩ hwf' g1 (g2 0 (by decide) (by decide)) (by rw [g2 11 (by decide) (by decide)]; exact hbr1) g3 g4 1
  have hfin : wnote (wset W1 (19 + 26 * i) st) 1 i (S.w 0) = stW S.w i := by rw [hW1, hst, hsp]; rfl
  refine ⟨M3, hcls.trans ?_, by rw [← hfin]; exact C3, h.2.1, rwC_eq (by rw [f3 4 (by omega), f1 4 (by omega)]) (by rw [f3 5 (by omega), f1 5 (by omega)]) h.2.2⟩
  have e81 : lt_ev (d + 11) 81 [.inr (.inr (some (0 + 81))), .inr (.inr (some (0 + 13)))] m = some (none, M1) := e1 (d + 7)
  have e116 : lt_ev (d + 11) 116 [.inr (.inr (some (0 + 13 + 3 + 5 + 3 * i))), .inl (nI (S.w 0))] M1 = some (none, M2) := by
    refine (E116 (d + 10) _ _ hq M1).trans ?_
    have e9 : M1.1 (0 + 13 + 3 + 5 + 3 * i) 9 = nI sp := by rw [hsp]; exact hmv.2.2.2.2.2.2.2.2.1
    have e8 : M1.1 (0 + 13 + 3 + 5 + 3 * i) 8 = nI (w_lg S.w i) := hmv.2.2.2.2.2.2.2.1
    rw [e9, k17 (d + 9) (a := 0 + 13 + 3 + 5 + 3 * i + 2) (sf_of hq 13 (by decide) (by decide)) (show sp < 8 by omega) (by decide), lt_cV_s]
    have x9' : (lm_i M1 (0 + 13 + 3 + 5 + 3 * i + 2) sp (nI (S.w 0))).1 (0 + 13 + 3 + 5 + 3 * i) 9 = nI sp := by rw [lm_i_ne (by omega)]; exact e9
    rw [x9', nI_1, ← hMA, show MA.1 (0 + 13 + 3 + 5 + 3 * i) 9 = nI (sp + 1) by rw [hMA]; exact lm_i_eq, show MA.1 (0 + 13 + 3 + 5 + 3 * i) 8 = nI (w_lg S.w i) by rw [hMA, lm_i_ns (by omega), lm_i_ne (by omega)]; exact e8, hM2]
    by_cases c : sp + 1 = w_lg S.w i
    · rw [if_neg (by rw [sp_ltn (by omega) (by omega)]; omega), if_pos c]
    · rw [if_pos (by rw [sp_ltn (by omega) (by omega)]; omega), if_neg c]
  have e13 : M1.1 (0 + 13) 4 = nI (S.w 0) := hcl1.1
  have x8 : M3.1 (0 + 13 + 3 + 5 + 3 * i) 8 = nI (w_lg S.w i) := by rw [f3' _ (by omega), g2 8 (by decide) (by decide)]; exact hmv.2.2.2.2.2.2.2.1
  have x9 : M3.1 (0 + 13 + 3 + 5 + 3 * i) 9 = nI (sp + 1) := by rw [f3' _ (by omega)]; exact g9
  rw [e81, lt_cV_s, e13, e116, lt_cV_s, show (1 : Int32) = nI 1 from rfl, e3 (d + 8), lt_cV_s, x8, x9, pk_sub (by omega), hsp]
end CPS

/-! ===== written ===== -/
section WR
variable {dist : DT} {N : NT} {w : Nat → Nat} {T : Nat} {m : lt_m}
theorem ml_p {M : lt_m} (h : pfr m M) (hm : ml N w 711 m) : ml N w 711 M := by
  obtain ⟨h0, h1, h2, h3, h4, h5⟩ := hm
  have c : ∀ b, b ≠ 711 → b ≠ 728 → M.1 b = m.1 b := fun b g1 g2 => funext fun k => h.1 b k (by omega)
  exact ⟨by rw [c (711 + 1) (by omega) (by omega)]; exact h0, by rw [h.1 711 8 (by omega)]; exact h1, by rw [h.1 711 10 (by omega)]; exact h2, by rw [c (711 + 4) (by omega) (by omega)]; exact h3, by rw [c (711 + 6) (by omega) (by omega)]; exact h4, by rw [c (711 + 5) (by omega) (by omega)]; exact h5⟩
theorem same_p {M : lt_m} (h : pfr m M) : same m M := ⟨by rw [h.2], by rw [h.2], fun b k hb => h.1 b k (by
  rintro (rfl | ⟨rfl, rfl⟩)
  · exact absurd hb (by unfold scr; simp)
  · exact absurd hb (by decide))⟩
/-- the reference's roads, zero outside the NET -/
def rdZ (N : NT) (m : lt_m) : Prop := ∀ k, k < 144 → m.1 716 k = if k / 12 < N.1 ∧ k % 12 < N.1 then nI (N.2.2.1 (k / 12) (k % 12)) else 0
theorem RS.rdZ {wl : DT} (h : RS dist wl N w T m) : rdZ N m := by
  obtain ⟨⟨A, B, n1, n2, n3, n4, n5, n6, n7, n8, n9, n10, n11, n12, n13⟩, -⟩ := h
  intro k hk
  by_cases c : k / 12 < N.1 ∧ k % 12 < N.1
  · rw [if_pos c]
    have := n12 (k / 12) (k % 12) c.1 c.2
    rw [show 12 * (k / 12) + k % 12 = k by omega] at this
    exact this
  · rw [if_neg c]; exact n13 k hk c
theorem m267r (hN : wfN N) (x : Int32) {P : List Nat} (hlen : P.length + (rlL N.2.2.1 N.1 144).length ≤ 200) : ∀ r k m, k + r = 144 → rdZ N m → PT (P ++ rlL N.2.2.1 N.1 k) m → ∃ M y, (∀ d, L267_49 (d + 3) 711 x (if fsL (rlL N.2.2.1 N.1 k) then 1 else 0) (nI k) m = L267_137 (d + 3) 711 x y 0 M) ∧ PT (P ++ rlL N.2.2.1 N.1 144) M ∧ pfr m M := by
  have hn2 := hN.2.1
  intro r
  induction r with
  | zero =>
    intro k m hk hz h
    have hk : k = 144 := hk
    subst hk
    refine ⟨m, if fsL (rlL N.2.2.1 N.1 144) then 1 else 0, fun d => ?_, h, pfr_rf m⟩
    rw [E267_49 _ _ _ _ _ sy, if_pos (by decide)]
  | succ r ih =>
    intro k m hk hz h
    have hzk := hz k (by omega)
    have hr : rcd N.2.2.1 N.1 k = decide (k / 12 < k % 12 ∧ k % 12 < N.1 ∧ 0 < N.2.2.1 (k / 12) (k % 12)) := rfl
    have head : ∀ d y, L267_49 (d + 3) 711 x y (nI k) m = (if (m.1 716 k) = 0 then (L267_49 (d + 3) 711 x y (nI (k + 1)) m) else (if nI (k / 12) ≤ nI (k % 12) then (if ¬ y = 0 then (L267_89 (d + 3) 711 x y (nI k) m) else (lt_cV (lt_ev (d + 3) 268 [.inr (.inr (some 711)), .inl (nI 44)] m) (fun m1 => (L267_89 (d + 3) 711 x y (nI k) m1)))) else (L267_49 (d + 3) 711 x y (nI (k + 1)) m))) := fun d y => by
      rw [E267_49 _ _ _ _ _ sy, if_neg (by rw [show (144 : Int32) = nI 144 from rfl, sp_len (by omega) (by omega)]; omega), lt_gd_t (sp_gd (by omega) (by omega)), nI_clamp (by omega), q_12, pk_rem (by omega) (by decide) (by decide), pk_div (by omega) (by decide) (by decide), nI_1]
      rfl
    by_cases c : rcd N.2.2.1 N.1 k = true
    · have hc := of_decide_eq_true (hr ▸ c)
      have hin : k / 12 < N.1 ∧ k % 12 < N.1 := by omega
      have hh := hN.2.2.2.1 (k / 12) (k % 12) hin.1 hin.2
      rw [if_pos hin] at hzk
      have e := rl_s c
      have hfs := fs_rl c
      have hle : (rlL N.2.2.1 N.1 (k + 1)).length ≤ (rlL N.2.2.1 N.1 144).length := rl_le (by omega)
      have hlr : (rlL N.2.2.1 N.1 k).length + ((stL (fsL (rlL N.2.2.1 N.1 k))).length + (rdL (k / 12) (k % 12) (N.2.2.1 (k / 12) (k % 12))).length) = (rlL N.2.2.1 N.1 (k + 1)).length := by
        rw [e, List.length_append, List.length_append]
      -- the road's signs
      have body : ∀ y l m', rdZ N m' → (l ++ rdL (k / 12) (k % 12) (N.2.2.1 (k / 12) (k % 12))).length ≤ 200 → PT l m' → ∃ M, (∀ d, L267_89 (d + 3) 711 x y (nI k) m' = L267_49 (d + 3) 711 x 0 (nI (k + 1)) M) ∧ PT (l ++ rdL (k / 12) (k % 12) (N.2.2.1 (k / 12) (k % 12))) M ∧ pfr m' M := by
        intro y l m' hz' hl h'
        unfold rdL at hl ⊢
        simp only [List.length_append, List.length_cons, List.length_nil] at hl
        obtain ⟨M1, e1, c1, f1⟩ := m269 (v := k / 12) (by omega) (by rw [List.length_append]; omega) h'
        obtain ⟨M2, e2, c2, f2⟩ := m268 (v := 45) (by rw [List.length_append]; omega) (by omega) c1
        obtain ⟨M3, e3, c3, f3⟩ := m269 (v := k % 12) (by omega) (by simp only [List.length_append, List.length_cons, List.length_nil]; omega) c2
        obtain ⟨M4, e4, c4, f4⟩ := m268 (v := 58) (by simp only [List.length_append, List.length_cons, List.length_nil]; omega) (by omega) c3
        obtain ⟨M5, e5, c5, f5⟩ := m269 (v := N.2.2.1 (k / 12) (k % 12)) (by omega) (by simp only [List.length_append, List.length_cons, List.length_nil]; omega) c4
        have f14 := pfr_tr f1 (pfr_tr f2 (pfr_tr f3 f4))
        have h716 : M4.1 (711 + 5) k = nI (N.2.2.1 (k / 12) (k % 12)) := by
          rw [show (711 + 5 : Nat) = 716 from rfl, f14.1 716 k (by omega), hz' k (by omega), if_pos hin]
        refine ⟨M5, fun d => ?_, ?_, pfr_tr f14 f5⟩
        · rw [E267_89 _ _ _ _ _ sy, q_12, pk_rem (by omega) (by decide) (by decide), pk_div (by omega) (by decide) (by decide), e1 (d + 1), lt_cV_s, show (45 : Int32) = nI 45 from rfl, e2 (d + 2), lt_cV_s, e3 (d + 1), lt_cV_s, show (58 : Int32) = nI 58 from rfl, e4 (d + 2), lt_cV_s, lt_gd_t (sp_gd (by omega) (by omega)), nI_clamp (by omega), h716, e5 (d + 1), lt_cV_s, nI_1]
        · rw [List.append_assoc, List.append_assoc, List.append_assoc, List.append_assoc] at c5
          exact c5
      have hzf : ∀ M, pfr m M → rdZ N M := fun M hM k hk => by rw [hM.1 716 k (by omega)]; exact hz k hk
      have hgo : ¬ m.1 716 k = 0 := by rw [hzk, sp_eq0 (by omega)]; omega
      cases hf : fsL (rlL N.2.2.1 N.1 k) with
      | true =>
        rw [hf] at e hlr
        obtain ⟨M1, e1, c1, f1⟩ := body 1 (P ++ rlL N.2.2.1 N.1 k) m hz (by rw [List.append_assoc, List.length_append, List.length_append]; omega) h
        rw [List.append_assoc, show rlL N.2.2.1 N.1 k ++ rdL (k / 12) (k % 12) (N.2.2.1 (k / 12) (k % 12)) = rlL N.2.2.1 N.1 (k + 1) by rw [e]; rfl] at c1
        obtain ⟨M, y, e2, c2, f2⟩ := ih (k + 1) M1 (by omega) (hzf M1 f1) c1
        refine ⟨M, y, fun d => ?_, c2, pfr_tr f1 f2⟩
        have e2' := e2 d
        rw [hfs] at e2'
        rw [head, if_neg hgo, if_pos (by rw [sp_len (by omega) (by omega)]; omega)]
        show (if ¬ (1 : Int32) = 0 then _ else _) = _
        rw [if_pos (by decide)]
        exact (e1 d).trans e2'
      | false =>
        rw [hf] at e hlr
        have hst : (stL false).length = 1 := rfl
        obtain ⟨M0, e0, c0, f0⟩ := m268 (v := 44) (by rw [List.length_append]; omega) (by omega) h
        obtain ⟨M1, e1, c1, f1⟩ := body 0 ((P ++ rlL N.2.2.1 N.1 k) ++ [44]) M0 (hzf M0 f0) (by simp only [List.length_append, List.length_cons, List.length_nil]; omega) c0
        rw [List.append_assoc, List.append_assoc, show rlL N.2.2.1 N.1 k ++ ([44] ++ rdL (k / 12) (k % 12) (N.2.2.1 (k / 12) (k % 12))) = rlL N.2.2.1 N.1 (k + 1) by rw [e]; rfl] at c1
        obtain ⟨M, y, e2, c2, f2⟩ := ih (k + 1) M1 (by omega) (hzf M1 (pfr_tr f0 f1)) c1
        refine ⟨M, y, fun d => ?_, c2, pfr_tr f0 (pfr_tr f1 f2)⟩
        have e2' := e2 d
        rw [hfs] at e2'
        rw [head, if_neg hgo, if_pos (by rw [sp_len (by omega) (by omega)]; omega)]
        show (if ¬ (0 : Int32) = 0 then _ else _) = _
        rw [if_neg (by decide), e0 (d + 2), lt_cV_s]
        show L267_89 (d + 3) 711 x 0 (nI k) M0 = _
        rw [e1 d]
        exact e2'
    · have e : rlL N.2.2.1 N.1 (k + 1) = rlL N.2.2.1 N.1 k := by
        simp only [rlL]
        rw [if_neg c]
      obtain ⟨M, y, e1, c1, f1⟩ := ih (k + 1) m (by omega) hz (by rw [e]; exact h)
      refine ⟨M, y, fun d => ?_, c1, f1⟩
      have e1' := e1 d
      rw [e] at e1'
      rw [head]
      by_cases z : m.1 716 k = 0
      · rw [if_pos z, e1']
      · rw [if_neg z]
        have hin : k / 12 < N.1 ∧ k % 12 < N.1 := by
          by_cases q : k / 12 < N.1 ∧ k % 12 < N.1
          · exact q
          · rw [if_neg q] at hzk; exact absurd hzk z
        rw [if_pos hin] at hzk
        have hpos : 0 < N.2.2.1 (k / 12) (k % 12) := by
          rcases Nat.eq_zero_or_pos (N.2.2.1 (k / 12) (k % 12)) with q | q
          · rw [q] at hzk; exact absurd hzk z
          · exact q
        have hdg : k / 12 ≠ k % 12 := fun q => by
          have := hN.2.2.2.2.2.1 (k % 12) hin.2
          rw [q] at hpos
          omega
        have hno : ¬ k / 12 < k % 12 := fun q => c (decide_eq_true ⟨q, hin.2, hpos⟩)
        rw [if_neg (by rw [sp_len (by omega) (by omega)]; omega), e1']
theorem m267d (hN : wfN N) (x y : Int32) {P : List Nat} (hlen : P.length + (dtL N.2.2.2.2 N.2.1).length ≤ 200) : ∀ r g m, g + r = N.2.1 → ml N w 711 m → PT (P ++ dtL N.2.2.2.2 g) m → ∃ M, (∀ d, L267_137 (d + 3) 711 x y (nI g) m = L267_137 (d + 3) 711 x y (nI N.2.1) M) ∧ PT (P ++ dtL N.2.2.2.2 N.2.1) M ∧ pfr m M := by
  have hg6 := hN.2.2.1
  intro r
  induction r with
  | zero =>
    intro g m hg hml h
    have hg : g = N.2.1 := hg
    subst hg
    exact ⟨m, fun d => rfl, h, pfr_rf m⟩
  | succ r ih =>
    intro g m hg hml h
    have hg2 : g < N.2.1 := by omega
    have hd := hN.2.2.2.2.2.2.2 g hg2
    have hle : (dtL N.2.2.2.2 (g + 1)).length ≤ (dtL N.2.2.2.2 N.2.1).length := dt_le (by omega)
    have hdt : dtL N.2.2.2.2 (g + 1) = dtL N.2.2.2.2 g ++ ([if g = 0 then 124 else 44] ++ dgL (N.2.2.2.2 g)) := rfl
    have hle2 : (dtL N.2.2.2.2 g).length + 1 + (dgL (N.2.2.2.2 g)).length ≤ (dtL N.2.2.2.2 N.2.1).length := by
      rw [hdt] at hle
      simp only [List.length_append, List.length_cons, List.length_nil] at hle
      omega
    obtain ⟨M1, e1, c1, f1⟩ := m268 (v := if g = 0 then 124 else 44) (by rw [List.length_append]; omega) (by split <;> omega) h
    obtain ⟨M2, e2, c2, f2⟩ := m269 (v := N.2.2.2.2 g) (by omega) (by simp only [List.length_append, List.length_cons, List.length_nil]; omega) c1
    rw [List.append_assoc, List.append_assoc, ← hdt] at c2
    have hml1 := ml_p f1 hml
    obtain ⟨M3, e3, c3, f3⟩ := ih (g + 1) M2 (by omega) (ml_p f2 hml1) c2
    refine ⟨M3, fun d => ?_, c3, pfr_tr f1 (pfr_tr f2 f3)⟩
    have e1' := e1 (d + 2)
    have hdu : M1.1 (711 + 6) g = nI (N.2.2.2.2 g) := hml1.2.2.2.2.1 g hg2
    rw [E267_137 _ _ _ _ _ sy, hml.2.2.1, if_neg (by rw [sp_len (by omega) (by omega)]; omega)]
    by_cases c : g = 0
    · rw [if_pos c] at e1'
      rw [if_neg (by rw [c]; exact fun q => q rfl), show (124 : Int32) = nI 124 from rfl, e1', lt_cV_s, lt_gd_t (sp_gd (by omega) (by omega)), nI_clamp (by omega), hdu, e2 (d + 1), lt_cV_s, nI_1, e3 d]
    · rw [if_neg c] at e1'
      rw [if_pos (by rw [sp_eq0 (by omega)]; exact c), show (44 : Int32) = nI 44 from rfl, e1', lt_cV_s, lt_gd_t (sp_gd (by omega) (by omega)), nI_clamp (by omega), hdu, e2 (d + 1), lt_cV_s, nI_1, e3 d]
theorem m267c (hN : wfN N) (x : Int32) : ∀ r k m, k + r = N.1 → ml N w 711 m → PT (ctL N.2.2.2.1 k) m → ∃ M, (∀ d, L267_12 (d + 3) 711 x (nI k) m = L267_12 (d + 3) 711 x (nI N.1) M) ∧ PT (ctL N.2.2.2.1 N.1) M ∧ pfr m M := by
  have hn2 := hN.2.1
  intro r
  induction r with
  | zero =>
    intro k m hk hml h
    have hk : k = N.1 := hk
    subst hk
    exact ⟨m, fun d => rfl, h, pfr_rf m⟩
  | succ r ih =>
    intro k m hk hml h
    have hc := hN.2.2.2.2.2.2.1 k (by omega)
    obtain ⟨M1, e1, c1, f1⟩ := m268 (v := 48 + N.2.2.2.1 k) (by rw [ct_len]; omega) (by omega) h
    obtain ⟨M2, e2, c2, f2⟩ := ih (k + 1) M1 (by omega) (ml_p f1 hml) c1
    refine ⟨M2, fun d => ?_, c2, pfr_tr f1 f2⟩
    have hco : m.1 (711 + 4) k = nI (N.2.2.2.1 k) := hml.2.2.2.1 k (by omega)
    rw [E267_12 _ _ _ _ sy, hml.2.1, if_neg (by rw [sp_len (by omega) (by omega)]; omega), lt_gd_t (sp_gd (by omega) (by omega)), nI_clamp (by omega), hco, show (48 : Int32) = nI 48 from rfl, nI_add, e1 (d + 2), lt_cV_s, nI_1, e2 d]
theorem op_written (d : Nat) (hr : RR dist wlD T m) (x : Int32) : OP dist wlD d T T 166 267 [.inl x] m := by
  obtain ⟨N, w, vs, hs, hl, hc, hm⟩ := hr
  have hN := hs.wfN
  have hn2 := hN.2.1
  have hwy : m.1 (m.2.2.1 + 6) 1 = nI (wtx N).length ∧ (wtx N).length ≤ 200 ∧ ∀ j, j < (wtx N).length → m.1 (m.2.2.1 + 7) j = nI ((wtx N).getD j 0) := by
    obtain ⟨⟨A, B, n1, n2, n3, n4, n5, n6, n7, -⟩, -⟩ := hs
    rw [n1]
    exact ⟨n7.2.1, n7.2.2.1, n7.2.2.2.1⟩
  obtain ⟨y1, y2, y3⟩ := hwy
  have hlen' := y2
  unfold wtx at hlen'
  simp only [List.length_append, List.length_cons, List.length_nil, ct_len] at hlen'
  have s6 : ts_sh (m.2.2.1 + 6) = (0, 10) := sf_of hs.sA 5 (by decide) (by decide)
  -- the reference
  obtain ⟨M0, hM0⟩ : ∃ M0, M0 = lm_i (lm_i m 711 15 0) 711 38 0 := ⟨_, rfl⟩
  have f0 : pfr (lm_i m 711 15 0) M0 := ⟨fun b k hb => by rw [hM0, lm_i_ns (by omega)], by rw [hM0]; rfl⟩
  have hml0 : ml N w 711 M0 := ml_p f0 hs.t0.ml
  obtain ⟨M1, e1, c1, f1⟩ := m267c hN x N.1 0 M0 (by omega) hml0 ⟨by rw [hM0, lm_i_eq]; rfl, fun j v hj => by simp [ctL] at hj⟩
  have hml1 := ml_p f1 hml0
  obtain ⟨M2, e2, c2, f2⟩ := m268 (v := 124) (by rw [ct_len]; omega) (by omega) c1
  have hml2 := ml_p f2 hml1
  have hz2 : rdZ N M2 := fun k hk => by
    rw [f2.1 716 k (by omega), f1.1 716 k (by omega), f0.1 716 k (by omega)]
    exact hs.t0.rdZ k hk
  obtain ⟨M3, y, e3, c3, f3⟩ := m267r hN x (P := ctL N.2.2.2.1 N.1 ++ [124]) (by rw [List.length_append, ct_len]; simp; omega) 144 0 M2 (by omega) hz2 (by
    show PT ((ctL N.2.2.2.1 N.1 ++ [124]) ++ []) M2
    rw [List.append_nil]; exact c2)
  obtain ⟨M4, e4, c4, f4⟩ := m267d hN x y (P := (ctL N.2.2.2.1 N.1 ++ [124]) ++ rlL N.2.2.1 N.1 144) (by simp only [List.length_append, List.length_cons, List.length_nil, ct_len]; omega) N.2.1 0 M3 (by omega) (ml_p f3 hml2) (by
    show PT (((ctL N.2.2.2.1 N.1 ++ [124]) ++ rlL N.2.2.1 N.1 144) ++ []) M3
    rw [List.append_nil]; exact c3)
  rw [List.append_assoc (ctL N.2.2.2.1 N.1 ++ [124])] at c4
  have c4 : PT (wtx N) M4 := c4
  have f04 := pfr_tr f0 (pfr_tr f1 (pfr_tr f2 (pfr_tr f3 f4)))
  have hs4 := RS_fr (same_p f04) hs.t0
  have hml4 := hs4.ml
  have hmod : lt_ev (d + 30) 267 [.inr (.inr (some 711)), .inl x] m = (if ¬ x = (-1 : Int32) then (lt_cI (lt_ev (d + 29) 181 [.inr (.inl ((x).toInt64)), .inr (.inl (0 : Int64)), .inr (.inl ((((M4.1 711 38) - (1 : Int32))).toInt64))] M4) (fun v1 m1 => (if v1 = 0 then (some (some (.inl (-1 : Int32)), m1)) else (lt_gd (0 ≤ x ∧ (x).toNatClampNeg < 512) (some (some (.inl (m1.1 (711 + 17) (x).toNatClampNeg)), m1)))))) else (some (some (.inl (M4.1 711 38)), M4))) := by
    refine (E267 (d + 29) 711 _ sy m).trans ?_
    rw [← hM0]
    refine (e1 (d + 26)).trans ?_
    rw [E267_12 _ _ _ _ sy, hml1.2.1, if_pos (by rw [sp_len (by omega) (by omega)]; exact Nat.le_refl _), show (124 : Int32) = nI 124 from rfl, e2 (d + 28), lt_cV_s]
    refine (e3 (d + 26)).trans ((e4 (d + 26)).trans ?_)
    rw [E267_137 _ _ _ _ _ sy, hml4.2.2.1, if_pos (by rw [sp_len (by have := hN.2.2.1; omega) (by have := hN.2.2.1; omega)]; exact Nat.le_refl _)]
  have fin : ∀ v : ts_V, lt_ev (d + 30) 166 [.inr (.inr (some 0)), .inl x] m = some (some v, m) → lt_ev (d + 30) 267 [.inr (.inr (some 711)), .inl x] m = some (some v, M4) → OP dist wlD d T T 166 267 [.inl x] m := fun v h1 h2 => by
    refine ⟨v, m, M4, h1, h2, ⟨N, w, vs, hs4, hl, ?_, ?_⟩⟩
    · exact ⟨by rw [f04.1 4 1 (by omega), lm_i_ne (by omega)]; exact hc.1, fun j v hj => by rw [f04.1 5 j (by omega), lm_i_ne (by omega)]; exact hc.2 j v hj⟩
    · exact ⟨by rw [f04.1 711 14 (by omega), lm_i_ns (by omega)]; exact hm.1, fun j v hj => by rw [f04.2]; exact hm.2 j v hj⟩
  have hcls : lt_ev (d + 30) 166 [.inr (.inr (some 0)), .inl x] m = _ := E166 (d + 29) 0 _ sx m
  rw [lt_gd_t hs.sA, p36 (d + 28) _ _ s6 m, lt_cI_s, lt_gd_t hs.sA, p27 (d + 28) _ s6 m, lt_cI_s] at hcls
  have e27 : v27 m (m.2.2.1 + 6) = nI (wtx N).length := y1
  rcases pk_ix x (n := (wtx N).length) (by omega) with c | c | ⟨j, hj, rfl⟩
  · by_cases cm : x = -1
    · subst cm
      refine fin (.inl (nI (wtx N).length)) (hcls.trans ?_) (hmod.trans ?_)
      · rw [if_neg (fun q => q rfl), e27]
      · rw [if_neg (fun q => q rfl), c4.1]
    · refine fin (.inl (-1)) (hcls.trans ?_) (hmod.trans ?_)
      · have : v36 m (m.2.2.1 + 6) x = -1 := by unfold v36; rw [if_pos c]
        rw [if_pos cm, this]
      · rw [if_pos cm, c4.1, k181n (d + 28) x (by omega), lt_cI_s, sp_i0 (by omega) (Or.inl c), if_pos rfl]
  · have cm : ¬ x = -1 := by
      rintro rfl
      rw [Int32.le_iff_toInt_le, nI_toInt (by omega), show (-1 : Int32).toInt = -1 by decide] at c
      omega
    have c0 : ¬ x < 0 := by
      rw [Int32.le_iff_toInt_le, nI_toInt (by omega)] at c
      rw [Int32.lt_iff_toInt_lt, Int32.toInt_zero]
      omega
    refine fin (.inl (-1)) (hcls.trans ?_) (hmod.trans ?_)
    · have : v36 m (m.2.2.1 + 6) x = -1 := by unfold v36; rw [if_neg c0, y1, if_pos c]
      rw [if_pos cm, this]
    · rw [if_pos cm, c4.1, k181n (d + 28) x (by omega), lt_cI_s, sp_i0 (by omega) (Or.inr c), if_pos rfl]
  · have cm : ¬ nI j = -1 := by rw [sp_m1 (by omega)]; exact not_false
    have hg : (wtx N)[j]? = some ((wtx N).getD j 0) := by
      rw [List.getElem?_eq_getElem hj, List.getD_eq_getElem?_getD, List.getElem?_eq_getElem hj]
      rfl
    refine fin (.inl (nI ((wtx N).getD j 0))) (hcls.trans ?_) (hmod.trans ?_)
    · have : v36 m (m.2.2.1 + 6) (nI j) = nI ((wtx N).getD j 0) := by
        unfold v36
        rw [if_neg (nI_pos (by omega)), y1, if_neg (by rw [sp_len (by omega) (by omega)]; omega), if_neg (by rw [q_200, sp_len (by omega) (by omega)]; omega), nI_clamp (by omega)]
        exact y3 j hj
      rw [if_pos cm, this]
    · rw [if_pos cm, c4.1, k181n (d + 28) (nI j) (by omega), lt_cI_s, sp_i1 hj (by omega), if_neg (by decide), lt_gd_t (sp_gd (by omega) (by omega)), nI_clamp (by omega), show M4.1 (711 + 17) j = nI ((wtx N).getD j 0) from c4.2 j _ hg]
end WR

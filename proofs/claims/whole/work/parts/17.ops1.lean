/-! ===== calls, side by side: those that ask of the ledger ===== -/
def OP (dist wl : NT → Nat → Nat → Nat) (d T T' y z : Nat) (as : List ts_V) (m : lt_m) : Prop := ∃ (v : ts_V) (m1 m2 : lt_m), lt_ev (d + 30) y (.inr (.inr (some 0)) :: as) m = some (some v, m1) ∧ lt_ev (d + 30) z (.inr (.inr (some 711)) :: as) m1 = some (some v, m2) ∧ RR dist wl T' m2
section OPS
variable {dist wl : NT → Nat → Nat → Nat} {N : NT} {w : Nat → Nat} {T : Nat} {m : lt_m} {vs us : List Int32}
theorem RS.t0 (h : RS dist wl N w T m) : RS dist wl N w T (lm_i m 711 15 0) := RS_fr (same_i (by decide)) h
theorem RS.z0 (h : RS dist wl N w T m) : RS dist wl N w T (lm_i m 711 14 0) := RS_fr (same_i (by decide)) h
theorem rwC_t0 (h : rwC vs m) : rwC vs (lm_i m 711 15 0) := rwC_i h (by decide)
theorem rwM_t0 (h : rwM vs m) : rwM vs (lm_i m 711 15 0) := rwM_i h (by decide)
theorem rwC_z0 (h : rwC vs m) : rwC vs (lm_i m 711 14 0) := rwC_i h (by decide)
theorem rwM_z0 (m : lt_m) : rwM [] (lm_i m 711 14 0) := rwM_zer m
theorem k74e (d : Nat) (A B : Int32) (m : lt_m) : ∃ m', lt_ev (d + 4) 74 [.inr (.inr (some 0)), .inl A, .inl B] m = some (none, m') ∧ same m m' ∧ rwC [A, B] m' :=
  ⟨_, k74 d, same_tr same_rclr (same_tr same_radd same_radd), rwC_add (vs := [A]) (rwC_add (vs := []) (rwC_clr m))⟩
theorem k75e (d : Nat) (A : Int32) (m : lt_m) : ∃ m', lt_ev (d + 3) 75 [.inr (.inr (some 0)), .inl A] m = some (none, m') ∧ same m m' ∧ rwC [A] m' :=
  ⟨_, k75 d, same_tr same_rclr same_radd, rwC_add (vs := []) (rwC_clr m)⟩
theorem k68e (d : Nat) (A : Int32) (h : rwC vs m) (hl : vs.length < 12) : ∃ m', lt_ev (d + 2) 68 [.inr (.inr (some (0 + 4))), .inl A] m = some (none, m') ∧ same m m' ∧ rwC (vs ++ [A]) m' :=
  ⟨_, k68 d h hl, same_radd, rwC_add h⟩
theorem m202e (d : Nat) (A : Int32) (h : rwM vs m) (hl : vs.length < 32) (hc : rwC us m) : ∃ m', lt_ev (d + 1) 202 [.inr (.inr (some 711)), .inr (.inl A.toInt64)] m = some (none, m') ∧ same m m' ∧ rwM (vs ++ [A]) m' ∧ rwC us m' :=
  ⟨_, m202 d h.1 hl, same_rtel, rwM_tel h, rwC_tel hc⟩
/-- freeOf -/
theorem k96 (d : Nat) {L : Nat} (h0 : ts_sh L = (0, 2)) (h : cl N w L m) (hw : wfL N w) {t : Nat} (ht : t < w 1) : lt_ev (d + 3) 96 [.inr (.inr (some L)), .inl (nI t)] m = some (some (.inl (nI (w (4 + 2 * t) - w_used w t))), m) := by
  have b := hw.2.1
  refine (E96 (d + 2) L _ h0 m).trans ?_
  rw [p94 d _ _ h0 m, lt_cI_s, c94 h hw ht, k91 d h0 h hw (by omega), lt_cI_s, pk_sub (hw.2.2.2.2.1 t ht).2.2]
/-- road -/
theorem op_road (d : Nat) (hr : RR dist wl T m) (x y : Int32) : OP dist wl d T T 57 192 [.inl x, .inl y] m := by
  obtain ⟨N, w, vs, hs, hl, hc, hm⟩ := hr
  have hN := hs.wfN
  have b1 := hN.2.1
  have fin : RR dist wl T (lm_i m 711 15 0) := ⟨N, w, vs, hs.t0, hl, rwC_t0 hc, rwM_t0 hm⟩
  rcases c14 hs.nR hN x with ⟨a, ha, rfl, e⟩ | ⟨hx, e⟩
  · rcases c14 hs.nR hN y with ⟨b, hb, rfl, e2⟩ | ⟨hy, e2⟩
    · have hh : N.2.2.1 a b ≤ 99 := hN.2.2.2.1 a b ha hb
      refine ⟨if N.2.2.1 a b = 0 then .inl (-2) else .inl (nI (N.2.2.1 a b)), m, _, ?_, ?_, fin⟩
      · refine (E57 (d + 29) 0 _ _ sx m).trans ?_
        rw [lt_gd_t hs.sA, p14 (d + 28) _ _ hs.sA m, lt_cI_s, e, if_neg (by decide), lt_gd_t hs.sA, p14 (d + 28) _ _ hs.sA m, lt_cI_s, e2, if_pos (by decide), lt_gd_t hs.sA, p13 (d + 27) _ _ _ hs.sA m, lt_cI_s, c13 hs.nR hN ha hb]
        simp (disch := omega) only [q_0, sp_eqn]
        by_cases c : N.2.2.1 a b = 0
        · rw [if_neg (by simp [c]), if_pos c]
        · rw [if_pos c, if_neg c]
      · refine (E192 (d + 29) 711 _ _ sy m).trans ?_
        rw [m193 (d + 27) sy hs.t0.ml hN, lt_cI_s, sp_i1 ha (by omega), if_neg (by decide), m193 (d + 27) sy hs.t0.ml hN, lt_cI_s, sp_i1 hb (by omega), if_pos (by decide), m194 (d + 28) sy hs.t0.ml hN ha hb, lt_cI_s]
        simp (disch := omega) only [q_0, sp_eqn]
        by_cases c : N.2.2.1 a b = 0
        · rw [if_neg (by simp [c]), if_pos c]
        · rw [if_pos c, if_neg c]
          have := m194 (d + 28) sy hs.t0.ml hN ha hb
          rw [q_0] at this
          rw [this, lt_cI_s]
    · refine ⟨.inl (-1), m, _, ?_, ?_, fin⟩
      · refine (E57 (d + 29) 0 _ _ sx m).trans ?_
        rw [lt_gd_t hs.sA, p14 (d + 28) _ _ hs.sA m, lt_cI_s, e, if_neg (by decide), lt_gd_t hs.sA, p14 (d + 28) _ _ hs.sA m, lt_cI_s, e2, if_neg (by decide)]
      · refine (E192 (d + 29) 711 _ _ sy m).trans ?_
        rw [m193 (d + 27) sy hs.t0.ml hN, lt_cI_s, sp_i1 ha (by omega), if_neg (by decide), m193 (d + 27) sy hs.t0.ml hN, lt_cI_s, sp_i0 (by omega) hy, if_neg (by decide)]
  · refine ⟨.inl (-1), m, _, ?_, ?_, fin⟩
    · refine (E57 (d + 29) 0 _ _ sx m).trans ?_
      rw [lt_gd_t hs.sA, p14 (d + 28) _ _ hs.sA m, lt_cI_s, e, if_pos (by decide)]
    · refine (E192 (d + 29) 711 _ _ sy m).trans ?_
      rw [m193 (d + 27) sy hs.t0.ml hN, lt_cI_s, sp_i0 (by omega) hx, if_pos (by decide)]
/-- inUse -/
theorem op_inUse (d : Nat) (hr : RR dist wl T m) (x : Int32) : OP dist wl d T T 93 216 [.inl x] m := by
  obtain ⟨N, w, vs, hs, hl, hc, hm⟩ := hr
  have hw := hs.wfL
  have b1 := hw.2.1
  rcases c90 hs.cl hw x with ⟨t, ht, rfl, e⟩ | ⟨hx, e⟩
  · obtain ⟨M2, e2, s2, r2⟩ := k74e (d + 25) (nI (w (4 + 2 * t))) (nI (w (5 + 2 * t))) m
    have hs2 := RS_fr s2 hs
    obtain ⟨M3, e3, s3, r3⟩ := k68e (d + 27) (nI (w (4 + 2 * t) - w_used w t)) r2 (by simp)
    have hs3 := RS_fr s3 hs2
    obtain ⟨M4, e4, s4, r4⟩ := k68e (d + 27) (nI (w_openSet w t)) r3 (by simp)
    have hs4 := RS_fr s4 hs3
    have hz := hs4.t0.z0
    obtain ⟨R1, f1, t1, u1, v1⟩ := m202e (d + 28) (nI (w (4 + 2 * t))) (rwM_z0 (lm_i M4 711 15 0)) (by simp) (rwC_z0 (rwC_t0 r4))
    have hz1 := RS_fr t1 hz
    obtain ⟨R2, f2, t2, u2, v2⟩ := m202e (d + 28) (nI (w (5 + 2 * t))) u1 (by simp) v1
    have hz2 := RS_fr t2 hz1
    obtain ⟨R3, f3, t3, u3, v3⟩ := m202e (d + 28) (nI (w (4 + 2 * t) - w_used w t)) u2 (by simp) v2
    have hz3 := RS_fr t3 hz2
    obtain ⟨R4, f4, t4, u4, v4⟩ := m202e (d + 28) (nI (w_openSet w t)) u3 (by simp) v3
    have hz4 := RS_fr t4 hz3
    refine ⟨.inl (nI (w_used w t)), M4, R4, ?_, ?_, ⟨N, w, _, hz4, by simp, v4, u4⟩⟩
    · refine (E93 (d + 29) 0 _ sx m).trans ?_
      rw [p90 (d + 28) _ _ sL m, lt_cI_s, e, if_pos (by decide), p94 (d + 27) _ _ sL m, lt_cI_s, c94 hs.cl hw ht, p95 (d + 27) _ _ sL m, lt_cI_s, c95 hs.cl hw ht, e2, lt_cV_s, k96 (d + 26) sL hs2.cl hw ht, lt_cI_s, e3, lt_cV_s, k97 (d + 27) sL hs3.cl hw (by omega), lt_cI_s, e4, lt_cV_s, k91 (d + 27) sL hs4.cl hw (by omega), lt_cI_s]
    · refine (E216 (d + 29) 711 _ sy M4).trans ?_
      rw [m213 (d + 27) sy hs4.t0.ml hw, lt_cI_s, sp_i1 ht (by omega), if_pos (by decide), m217 (d + 28) sy hz.ml (by omega), lt_cI_s, f1, lt_cV_s, m218 (d + 28) sy hz1.ml (by omega), lt_cI_s, f2, lt_cV_s, m219 (d + 24) sy hz2.ml hw ht, lt_cI_s, f3, lt_cV_s, m220 (d + 25) sy hz3.ml hw (by omega), lt_cI_s, f4, lt_cV_s, m214 (d + 25) sy hz4.ml hw (by omega), lt_cI_s]
  · refine ⟨.inl (-1), m, _, ?_, ?_, ⟨N, w, vs, hs.t0, hl, rwC_t0 hc, rwM_t0 hm⟩⟩
    · refine (E93 (d + 29) 0 _ sx m).trans ?_
      rw [p90 (d + 28) _ _ sL m, lt_cI_s, e, if_neg (by decide)]
    · refine (E216 (d + 29) 711 _ sy m).trans ?_
      rw [m213 (d + 27) sy hs.t0.ml hw, lt_cI_s, sp_i0 (by omega) hx, if_neg (by decide)]
/-- owes -/
theorem op_owes (d : Nat) (hr : RR dist wl T m) (x : Int32) : OP dist wl d T T 98 221 [.inl x] m := by
  obtain ⟨N, w, vs, hs, hl, hc, hm⟩ := hr
  have hw := hs.wfL
  have b1 := hw.2.1
  rcases c90 hs.cl hw x with ⟨t, ht, rfl, e⟩ | ⟨hx, e⟩
  · obtain ⟨M2, e2, s2, r2⟩ := k75e (d + 26) (nI (w_debts w t 5)) m
    have hs2 := RS_fr s2 hs
    have hz := hs2.t0.z0
    obtain ⟨R1, f1, t1, u1, v1⟩ := m202e (d + 28) (nI (w_debts w t 5)) (rwM_z0 (lm_i M2 711 15 0)) (by simp) (rwC_z0 (rwC_t0 r2))
    have hz1 := RS_fr t1 hz
    refine ⟨.inl (nI (w_debts w t 4)), M2, R1, ?_, ?_, ⟨N, w, _, hz1, by simp, v1, u1⟩⟩
    · refine (E98 (d + 29) 0 _ sx m).trans ?_
      rw [p90 (d + 28) _ _ sL m, lt_cI_s, e, if_pos (by decide), q_5, k99 (d + 28) sL hs.cl hw (by omega) (by omega), lt_cI_s, e2, lt_cV_s, q_4, k99 (d + 28) sL hs2.cl hw (by omega) (by omega), lt_cI_s]
    · refine (E221 (d + 29) 711 _ sy M2).trans ?_
      rw [m213 (d + 27) sy hs2.t0.ml hw, lt_cI_s, sp_i1 ht (by omega), if_pos (by decide), q_5, m222 (d + 26) sy hz.ml hw (by omega) (by omega), lt_cI_s, f1, lt_cV_s, q_4, m222 (d + 26) sy hz1.ml hw (by omega) (by omega), lt_cI_s]
  · refine ⟨.inl (-1), m, _, ?_, ?_, ⟨N, w, vs, hs.t0, hl, rwC_t0 hc, rwM_t0 hm⟩⟩
    · refine (E98 (d + 29) 0 _ sx m).trans ?_
      rw [p90 (d + 28) _ _ sL m, lt_cI_s, e, if_neg (by decide)]
    · refine (E221 (d + 29) 711 _ sy m).trans ?_
      rw [m213 (d + 27) sy hs.t0.ml hw, lt_cI_s, sp_i0 (by omega) hx, if_neg (by decide)]
/-- left -/
theorem op_left (d : Nat) (hr : RR dist wl T m) (x : Int32) : OP dist wl d T T 132 244 [.inl x] m := by
  obtain ⟨N, w, vs, hs, hl, hc, hm⟩ := hr
  have hw := hs.wfL
  have hN := hs.wfN
  have b1 := hw.2.2.1
  rcases c114 hs.cl hw x with ⟨i, hi, rfl, e⟩ | ⟨hx, e⟩
  · obtain ⟨g1, g2, g3, g4⟩ := wf_sp hw hi
    have hq := sh_mv sL (i := i) (by omega)
    obtain ⟨nx, hnx⟩ : ∃ nx, nx = if w_sp w i < w_lg w i then nI (w_rt w i (w_sp w i)) else -1 := ⟨_, rfl⟩
    obtain ⟨M2, e2, s2, r2⟩ := k74e (d + 25) (nI (w_tm w i) - nI (w 0)) nx m
    have hs2 := RS_fr s2 hs
    have hz := hs2.t0.z0
    obtain ⟨R1, f1, t1, u1, v1⟩ := m202e (d + 28) (nI (w_tm w i) - nI (w 0)) (rwM_z0 (lm_i M2 711 15 0)) (by simp) (rwC_z0 (rwC_t0 r2))
    have hz1 := RS_fr t1 hz
    obtain ⟨R2, f2, t2, u2, v2⟩ := m202e (d + 28) nx u1 (by simp) v1
    have hz2 := RS_fr t2 hz1
    refine ⟨.inl (nI (w_left N w i)), M2, R2, ?_, ?_, ⟨N, w, _, hz2, by simp, v2, u2⟩⟩
    · refine (E132 (d + 29) 0 _ sx m).trans ?_
      rw [p114 (d + 27) _ _ sL m, lt_cR_s, e, lt_nl_s, lt_gd_t hq, p115 (d + 26) _ hq m, lt_cI_s, c115 hs.cl hw hi, ← hnx, (hs.cl.2.2.2.2.1 i hi).2.2.2.2.2.1, hs.cl.1, e2, lt_cV_s, k133 (d + 26) sx hs2.sA sL hs2.nR hs2.cl hN hw hi, lt_cI_s]
    · refine (E244 (d + 29) 711 _ sy M2).trans ?_
      have h00 : (lm_i (lm_i M2 711 15 0) 711 14 0).1 (711 + 1) (0 : Int32).toNatClampNeg = nI (w 0) := by rw [show (0 : Int32).toNatClampNeg = 0 by decide]; exact hz.ml.1 0 (by omega)
      rw [m231 (d + 27) sy hs2.t0.ml hw, lt_cI_s, sp_i1 hi (by omega), if_pos (by decide), m198_sp (d + 28) sy hs2.t0.ml (by omega), lt_cI_s, m198_tm (d + 28) sy hz.ml (by omega), lt_cI_s, lt_gd_t (by decide), h00, f1, lt_cV_s, m198_lg (d + 28) sy hz1.ml (by omega), lt_cI_s]
      simp (disch := omega) only [sp_len]
      by_cases c : w_sp w i < w_lg w i
      · rw [if_pos c] at hnx
        rw [if_neg (by omega), m198_rt (d + 28) sy hz1.ml (by omega) (by omega), lt_cI_s, ← hnx, f2, lt_cV_s, m245 (d + 27) sy hz2.ml hN hw hi, lt_cI_s]
      · rw [if_neg c] at hnx
        subst hnx
        rw [if_pos (by omega), show (-1 : Int64) = (-1 : Int32).toInt64 by decide, f2, lt_cV_s, m245 (d + 27) sy hz2.ml hN hw hi, lt_cI_s]
  · refine ⟨.inl (-1), m, _, ?_, ?_, ⟨N, w, vs, hs.t0, hl, rwC_t0 hc, rwM_t0 hm⟩⟩
    · refine (E132 (d + 29) 0 _ sx m).trans ?_
      rw [p114 (d + 27) _ _ sL m, lt_cR_s, e, lt_nl_n]
    · refine (E244 (d + 29) 711 _ sy m).trans ?_
      rw [m231 (d + 27) sy hs.t0.ml hw, lt_cI_s, sp_i0 (by omega) hx, if_neg (by decide)]
/-- stop -/
theorem op_stop (d : Nat) (hr : RR dist wl T m) (x y : Int32) : OP dist wl d T T 130 243 [.inl x, .inl y] m := by
  obtain ⟨N, w, vs, hs, hl, hc, hm⟩ := hr
  have hw := hs.wfL
  have hN := hs.wfN
  have b1 := hw.2.2.1
  have bn := hN.2.1
  have fin : RR dist wl T (lm_i m 711 15 0) := ⟨N, w, vs, hs.t0, hl, rwC_t0 hc, rwM_t0 hm⟩
  rcases c114 hs.cl hw x with ⟨i, hi, rfl, e⟩ | ⟨hx, e⟩
  · obtain ⟨g1, g2, g3, g4⟩ := wf_sp hw hi
    have hq := sh_mv sL (i := i) (by omega)
    have e8 := (hs.cl.2.2.2.2.1 i hi).2.2.2.2.2.2.2.1
    rcases pk_ix y (n := w_lg w i) (by omega) with c | c | ⟨k, hk, rfl⟩
    · refine ⟨.inl (-1), m, _, ?_, ?_, fin⟩
      · refine (E130 (d + 29) 0 _ _ sx m).trans ?_
        rw [p114 (d + 27) _ _ sL m, lt_cR_s, e, lt_nl_s, lt_gd_t hq, p64 (d + 27) _ _ hq m, lt_cI_s, show v64 m (0 + 13 + 3 + 5 + 3 * i) y = -1 by unfold v64; rw [if_pos c], if_neg (by decide)]
      · refine (E243 (d + 29) 711 _ _ sy m).trans ?_
        rw [m231 (d + 27) sy hs.t0.ml hw, lt_cI_s, sp_i1 hi (by omega), if_neg (by decide), m198_lg (d + 28) sy hs.t0.ml (by omega), lt_cI_s, k181n (d + 28) y (by omega), lt_cI_s, sp_i0 (by omega) (Or.inl c), if_neg (by decide)]
    · refine ⟨.inl (-1), m, _, ?_, ?_, fin⟩
      · refine (E130 (d + 29) 0 _ _ sx m).trans ?_
        rw [p114 (d + 27) _ _ sL m, lt_cR_s, e, lt_nl_s, lt_gd_t hq, p64 (d + 27) _ _ hq m, lt_cI_s, show v64 m (0 + 13 + 3 + 5 + 3 * i) y = -1 by unfold v64; rw [e8, if_pos c]; split <;> rfl, if_neg (by decide)]
      · refine (E243 (d + 29) 711 _ _ sy m).trans ?_
        rw [m231 (d + 27) sy hs.t0.ml hw, lt_cI_s, sp_i1 hi (by omega), if_neg (by decide), m198_lg (d + 28) sy hs.t0.ml (by omega), lt_cI_s, k181n (d + 28) y (by omega), lt_cI_s, sp_i0 (by omega) (Or.inr c), if_neg (by decide)]
    · obtain ⟨hh, hhe⟩ : ∃ hh, hh = if k < w_sp w i then nI (w_at w i k) else -1 := ⟨_, rfl⟩
      have hv : v131 m (0 + 13 + 3 + 5 + 3 * i) (nI k) = hh := by
        rw [hhe]
        split
        · next q => exact c131 hs.cl hw hi q
        · next q => exact c131o hs.cl hw hi (by omega) (by omega)
      have hrt : w_rt w i k < N.1 := wf_rt hw hi hk
      obtain ⟨M2, e2, s2, r2⟩ := k75e (d + 26) hh m
      have hs2 := RS_fr s2 hs
      have hz := hs2.t0.z0
      obtain ⟨R1, f1, t1, u1, v1⟩ := m202e (d + 28) hh (rwM_z0 (lm_i M2 711 15 0)) (by simp) (rwC_z0 (rwC_t0 r2))
      have hz1 := RS_fr t1 hz
      refine ⟨.inl (nI (w_rt w i k)), M2, R1, ?_, ?_, ⟨N, w, _, hz1, by simp, v1, u1⟩⟩
      · refine (E130 (d + 29) 0 _ _ sx m).trans ?_
        rw [p114 (d + 27) _ _ sL m, lt_cR_s, e, lt_nl_s, lt_gd_t hq, p64 (d + 27) _ _ hq m, lt_cI_s, c64 hs.cl hw hi hk]
        simp (disch := omega) only [sp_m1, not_false_eq_true, if_true]
        rw [p131 (d + 27) _ _ hq m, lt_cI_s, hv, e2, lt_cV_s, p64 (d + 27) _ _ hq M2, lt_cI_s, c64 hs2.cl hw hi hk]
      · refine (E243 (d + 29) 711 _ _ sy M2).trans ?_
        rw [m231 (d + 27) sy hs2.t0.ml hw, lt_cI_s, sp_i1 hi (by omega), if_neg (by decide), m198_lg (d + 28) sy hs2.t0.ml (by omega), lt_cI_s, k181n (d + 28) (nI k) (by omega), lt_cI_s, sp_i1 hk (by omega), if_pos (by decide), m198_sp (d + 28) sy hz.ml (by omega), lt_cI_s]
        simp (disch := omega) only [sp_len]
        by_cases c : k < w_sp w i
        · rw [if_pos c] at hhe
          rw [if_neg (by omega), m198_at (d + 28) sy hz.ml (by omega) (by omega), lt_cI_s, ← hhe, f1, lt_cV_s, m198_rt (d + 28) sy hz1.ml (by omega) (by omega), lt_cI_s]
        · rw [if_neg c] at hhe
          subst hhe
          rw [if_pos (by omega), show (-1 : Int64) = (-1 : Int32).toInt64 by decide, f1, lt_cV_s, m198_rt (d + 28) sy hz1.ml (by omega) (by omega), lt_cI_s]
  · refine ⟨.inl (-1), m, _, ?_, ?_, fin⟩
    · refine (E130 (d + 29) 0 _ _ sx m).trans ?_
      rw [p114 (d + 27) _ _ sL m, lt_cR_s, e, lt_nl_n]
    · refine (E243 (d + 29) 711 _ _ sy m).trans ?_
      rw [m231 (d + 27) sy hs.t0.ml hw, lt_cI_s, sp_i0 (by omega) hx, if_pos (by decide)]
/-- risk -/
theorem op_risk (d : Nat) (hr : RR dist wl T m) (x : Int32) : OP dist wl d T T 161 264 [.inl x] m := by
  obtain ⟨N, w, vs, hs, hl, hc, hm⟩ := hr
  have hw := hs.wfL
  have hN := hs.wfN
  have b1 := hw.2.2.1
  have bn := hN.2.1
  have fin : RR dist wl T (lm_i m 711 15 0) := ⟨N, w, vs, hs.t0, hl, rwC_t0 hc, rwM_t0 hm⟩
  rcases c114 hs.cl hw x with ⟨i, hi, rfl, e⟩ | ⟨hx, e⟩
  · obtain ⟨g1, g2, g3, g4⟩ := wf_sp hw hi
    have b7 := wf_st hw hi
    have hq := sh_mv sL (i := i) (by omega)
    obtain ⟨-, -, -, e4, e5, -, e7, -⟩ := hs.cl.2.2.2.2.1 i hi
    have hse : w_seen w i < N.1 := wf_rt hw hi (by omega)
    by_cases c : w_goes w i = true ∨ w_st w i = 1
    · obtain ⟨M2, e2, s2, r2⟩ := k74e (d + 25) (nI (w_un w i * N.2.2.2.2 (w_kd w i)) - nI (w_sh w i)) (nI (N.2.2.2.1 (w_seen w i))) m
      have hs2 := RS_fr s2 hs
      have hz := hs2.t0.z0
      obtain ⟨R1, f1, t1, u1, v1⟩ := m202e (d + 28) (nI (w_un w i * N.2.2.2.2 (w_kd w i)) - nI (w_sh w i)) (rwM_z0 (lm_i M2 711 15 0)) (by simp) (rwC_z0 (rwC_t0 r2))
      have hz1 := RS_fr t1 hz
      obtain ⟨R2, f2, t2, u2, v2⟩ := m202e (d + 28) (nI (N.2.2.2.1 (w_seen w i))) u1 (by simp) v1
      have hz2 := RS_fr t2 hz1
      have hcl : L161_33 (d + 29) 0 (nI i) (0 + 13 + 3 + 5 + 3 * i) m = some (some (.inl (nI (w_un w i * N.2.2.2.2 (w_kd w i)))), M2) := by
        rw [E161_33 _ _ _ _ sx hq, p63 (d + 26) _ hq m, lt_cI_s, c63 hs.cl hw hi, lt_gd_t hs.sA, p21 (d + 27) _ _ hs.sA m, lt_cI_s, c21 hs.nR hN hse, e4, e5, e2, lt_cV_s, (hs2.cl.2.2.2.2.1 i hi).2.2.2.1]
      have hml : L264_35 (d + 29) 711 (nI i) (lm_i M2 711 15 0) = some (some (.inl (nI (w_un w i * N.2.2.2.2 (w_kd w i)))), R2) := by
        have hco : R1.1 (711 + 4) (nI (w_seen w i)).toNatClampNeg = nI (N.2.2.2.1 (w_seen w i)) := by rw [nI_clamp (by omega)]; exact hz1.ml.2.2.2.1 _ hse
        rw [E264_35 _ _ _ sy, m241 (d + 27) sy hz.ml hN hw hi, lt_cI_s, m198_sh (d + 28) sy hz.ml (by omega), lt_cI_s, f1, lt_cV_s, m199 (d + 27) sy hz1.ml hw hi, lt_cI_s, lt_gd_t (sp_gd (by omega) (by omega)), hco, f2, lt_cV_s, m241 (d + 27) sy hz2.ml hN hw hi, lt_cI_s]
      refine ⟨.inl (nI (w_un w i * N.2.2.2.2 (w_kd w i))), M2, R2, ?_, ?_, ⟨N, w, _, hz2, by simp, v2, u2⟩⟩
      · refine (E161 (d + 29) 0 _ sx m).trans ?_
        rw [p114 (d + 27) _ _ sL m, lt_cR_s, e, lt_nl_s, lt_gd_t hq, p62 (d + 28) _ hq m, lt_cI_s, c62 hs.cl hw (by omega)]
        by_cases c2 : w_goes w i = true
        · rw [show (if i < w 2 ∧ w_goes w i = true then (1:Int32) else 0) = 1 from if_pos ⟨hi, c2⟩, if_pos (by decide)]; exact hcl
        · rw [show (if i < w 2 ∧ w_goes w i = true then (1:Int32) else 0) = 0 from if_neg (fun q => c2 q.2), if_neg (by decide), e7, if_pos (by rw [c.resolve_left c2]; rfl)]; exact hcl
      · refine (E264 (d + 29) 711 _ sy M2).trans ?_
        rw [m231 (d + 27) sy hs2.t0.ml hw, lt_cI_s, sp_i1 hi (by omega), if_pos (by decide), m196 (d + 26) sy hs2.t0.ml hw hi, lt_cI_s]
        by_cases c2 : w_goes w i = true
        · rw [show (if w_goes w i = true then (1:Int32) else 0) = 1 from if_pos c2, if_pos (by decide)]; exact hml
        · rw [show (if w_goes w i = true then (1:Int32) else 0) = 0 from if_neg c2, if_neg (by decide), m197 (d + 27) sy hs2.t0.ml (by omega), lt_cI_s, if_pos (by rw [c.resolve_left c2]; rfl)]; exact hml
    · have c1 : ¬ w_goes w i = true := fun q => c (Or.inl q)
      have c2 : ¬ w_st w i = 1 := fun q => c (Or.inr q)
      refine ⟨.inl (-2), m, _, ?_, ?_, fin⟩
      · refine (E161 (d + 29) 0 _ sx m).trans ?_
        rw [p114 (d + 27) _ _ sL m, lt_cR_s, e, lt_nl_s, lt_gd_t hq, p62 (d + 28) _ hq m, lt_cI_s, c62 hs.cl hw (by omega), show (if i < w 2 ∧ w_goes w i = true then (1:Int32) else 0) = 0 from if_neg (fun q => c1 q.2), if_neg (by decide), e7, if_neg (by rw [q_1, sp_eqn (by omega) (by omega)]; exact c2)]
      · refine (E264 (d + 29) 711 _ sy m).trans ?_
        rw [m231 (d + 27) sy hs.t0.ml hw, lt_cI_s, sp_i1 hi (by omega), if_pos (by decide), m196 (d + 26) sy hs.t0.ml hw hi, lt_cI_s, show (if w_goes w i = true then (1:Int32) else 0) = 0 from if_neg c1, if_neg (by decide), m197 (d + 27) sy hs.t0.ml (by omega), lt_cI_s, if_neg (by rw [q_1, sp_eqn (by omega) (by omega)]; exact c2)]
  · refine ⟨.inl (-1), m, _, ?_, ?_, fin⟩
    · refine (E161 (d + 29) 0 _ sx m).trans ?_
      rw [p114 (d + 27) _ _ sL m, lt_cR_s, e, lt_nl_n]
    · refine (E264 (d + 29) 711 _ sy m).trans ?_
      rw [m231 (d + 27) sy hs.t0.ml hw, lt_cI_s, sp_i0 (by omega) hx, if_neg (by decide)]
end OPS

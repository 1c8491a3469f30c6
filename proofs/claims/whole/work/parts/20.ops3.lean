/-! ===== more of those that ask: movement, borders, asked, owed, states, late, next, busiest ===== -/
theorem pk_ix6 (x : Int32) : (x < 0 ∨ nI 6 ≤ x) ∨ ∃ k, k < 6 ∧ x = nI k := by
  rcases pk_ix x (n := 6) (by decide) with c | c | c
  · exact Or.inl (Or.inl c)
  · exact Or.inl (Or.inr c)
  · exact Or.inr c
theorem sp_le0 {a : Nat} (h : a < 2 ^ 31) : (nI a ≤ (0 : Int32)) = (a ≤ 0) := by rw [q_0, sp_len h (by decide)]
theorem sp_gt0 {a : Nat} (h : a < 2 ^ 31) : ((0 : Int32) < nI a) = (0 < a) := by rw [q_0, sp_ltn (by decide) h]
theorem sp_eq0 {a : Nat} (h : a < 2 ^ 31) : (nI a = (0 : Int32)) = (a = 0) := by rw [q_0, sp_eqn h (by decide)]
theorem or_bit {A i : Nat} (h : A < 2 ^ i) (c : Prop) [Decidable c] : (A + if c then 2 ^ i else 0) ||| 2 ^ i = A + 2 ^ i := by
  by_cases hc : c
  · rw [if_pos hc, ← sp_or h, Nat.or_assoc, Nat.or_self]
  · rw [if_neg hc, Nat.add_zero, sp_or h]
section OPS
variable {dist wl : NT → Nat → Nat → Nat} {N : NT} {w : Nat → Nat} {T : Nat} {m : lt_m} {vs us : List Int32}
theorem m237 (d : Nat) {a : Nat} (h0 : ts_sh a = (0, 12)) (h : ml N w a m) (hw : wfL N w) {i : Nat} (hi : i < w 2) (h3 : w_st w i = 3) : lt_ev (d + 2) 237 [.inr (.inr (some a)), .inl (nI i)] m = some (some (.inl (nI ((w 0 - w_tm w i) / 24))), m) := by
  have h20 := hw.2.2.1
  have b0 := hw.1
  obtain ⟨g1, g2⟩ := (hw.2.2.2.2.2 i hi).2.2.2.2.2.2.2.2.2.2.2.2.2.2.2.2.2.2 h3
  refine (E237 (d + 1) a _ h0 m).trans ?_
  rw [lt_gd_t (by decide), m198_tm d h0 h (by omega), lt_cI_s, show (0 : Int32).toNatClampNeg = 0 by decide, h.1 0 (by omega), q_24, pk_sub (by omega), pk_div (by omega) (by omega) (by omega)]
/-- movement -/
theorem op_movement (d : Nat) (hr : RR dist wl T m) (x y : Int32) : OP dist wl d T T 129 242 [.inl x, .inl y] m := by
  have hr0 := hr
  obtain ⟨N, w, vs, hs, hl, hc, hm⟩ := hr
  have hN := hs.wfN
  have hw := hs.wfL
  have h20 := hw.2.2.1
  have b0 := hw.1
  rcases c114 hs.cl hw x with ⟨i, hi, rfl, e⟩ | ⟨hx, e⟩
  · have hq := sh_mv sL (i := i) (by omega)
    obtain ⟨e1, e2, e3, e4, e5, e6, e7, e8, e9, e10, e11, -, -⟩ := hs.cl.2.2.2.2.1 i hi
    have b12 : w_br w i ≤ 1 := (hw.2.2.2.2.2 i hi).2.2.2.2.2.2.2.2.2.2.2.1
    have hcl : lt_ev (d + 30) 129 [.inr (.inr (some 0)), .inl (nI i), .inl y] m = _ := (E129 (d + 29) 0 _ _ sx m)
    rw [p114 (d + 27) _ _ sL m, lt_cR_s, e, lt_nl_s] at hcl
    have hml : lt_ev (d + 30) 242 [.inr (.inr (some 711)), .inl (nI i), .inl y] m = _ := (E242 (d + 29) 711 _ _ sy m)
    have h := hs.t0.ml
    rw [m231 (d + 27) sy h hw, lt_cI_s, sp_i1 hi (by omega), if_pos (by decide)] at hml
    have out : ∀ {P : Prop}, (y < 0 ∨ nI 13 ≤ y) → OP dist wl d T T 129 242 [.inl (nI i), .inl y] m := by
      intro P c
      rw [lt_sw_o (n := 13) rfl (by decide) c] at hcl hml
      exact OP_q _ hr0 hcl hml
    rcases pk_ix y (n := 13) (by decide) with c | c | ⟨k, hk, rfl⟩
    · exact out (P := True) (Or.inl c)
    · exact out (P := True) (Or.inr c)
    · rw [lt_sw_n (by simp) (by simp; omega)] at hcl hml
      have hk3 : k = 0 ∨ k = 1 ∨ k = 2 ∨ k = 3 ∨ k = 4 ∨ k = 5 ∨ k = 6 ∨ k = 7 ∨ k = 8 ∨ k = 9 ∨ k = 10 ∨ k = 11 ∨ k = 12 := by omega
      rcases hk3 with rfl | rfl | rfl | rfl | rfl | rfl | rfl | rfl | rfl | rfl | rfl | rfl | rfl
      · refine OP_q _ hr0 (hcl.trans ((lt_gd_t hq).trans (by rw [e1]))) (hml.trans ?_)
        show lt_cI (lt_ev (d + 29) 198 _ _) _ = _
        rw [m198_of (d + 28) sy h (by omega), lt_cI_s]
      · refine OP_q _ hr0 (hcl.trans ((lt_gd_t hq).trans (by rw [e2]))) (hml.trans ?_)
        show lt_cI (lt_ev (d + 29) 198 _ _) _ = _
        rw [m198_kd (d + 28) sy h (by omega), lt_cI_s]
      · refine OP_q _ hr0 (hcl.trans ((lt_gd_t hq).trans (by rw [e3]))) (hml.trans ?_)
        show lt_cI (lt_ev (d + 29) 198 _ _) _ = _
        rw [m198_un (d + 28) sy h (by omega), lt_cI_s]
      · refine OP_q _ hr0 (hcl.trans ((lt_gd_t hq).trans (by rw [e7]))) (hml.trans ?_)
        show lt_cI (lt_ev (d + 29) 197 _ _) _ = _
        rw [m197 (d + 27) sy h (by omega), lt_cI_s]
      · refine OP_q _ hr0 (hcl.trans ((lt_gd_t hq).trans (by rw [e4]))) (hml.trans ?_)
        show lt_cI (lt_ev (d + 29) 241 _ _) _ = _
        rw [m241 (d + 27) sy h hN hw hi, lt_cI_s]
      · refine OP_q _ hr0 (hcl.trans ((lt_gd_t hq).trans (by rw [e5]))) (hml.trans ?_)
        show lt_cI (lt_ev (d + 29) 198 _ _) _ = _
        rw [m198_sh (d + 28) sy h (by omega), lt_cI_s]
      · refine OP_q _ hr0 (hcl.trans ((lt_gd_t hq).trans (by rw [e6]))) (hml.trans ?_)
        show lt_cI (lt_ev (d + 29) 198 _ _) _ = _
        rw [m198_tm (d + 28) sy h (by omega), lt_cI_s]
      · refine OP_q _ hr0 (hcl.trans ((lt_gd_t hq).trans (by rw [e9]))) (hml.trans ?_)
        show lt_cI (lt_ev (d + 29) 198 _ _) _ = _
        rw [m198_sp (d + 28) sy h (by omega), lt_cI_s]
      · refine OP_q _ hr0 (hcl.trans ((lt_gd_t hq).trans (by rw [p63 (d + 26) _ hq m, lt_cI_s, c63 hs.cl hw hi]))) (hml.trans ?_)
        show lt_cI (lt_ev (d + 29) 199 _ _) _ = _
        rw [m199 (d + 27) sy h hw hi, lt_cI_s]
      · refine OP_q (.inl (nI (w_br w i))) hr0 (hcl.trans ((lt_gd_t hq).trans ?_)) (hml.trans ?_)
        · rw [e11]
          have c : w_br w i = 0 ∨ w_br w i = 1 := by omega
          rcases c with c | c
          · rw [c, if_pos (by decide)]; rfl
          · rw [c, if_neg (by decide)]; rfl
        · show lt_cI (lt_ev (d + 29) 198 _ _) _ = _
          rw [m198_br (d + 28) sy h (by omega), lt_cI_s]
      · refine OP_q _ hr0 (hcl.trans ((lt_gd_t hq).trans (by rw [e10]))) (hml.trans ?_)
        show lt_cI (lt_ev (d + 29) 198 _ _) _ = _
        rw [m198_db (d + 28) sy h (by omega), lt_cI_s]
      · refine OP_q _ hr0 (hcl.trans ((lt_gd_t hq).trans (by rw [p122 (d + 28) _ _ hq m, lt_cI_s, hs.cl.1, c122 hs.cl hw hi]))) (hml.trans ?_)
        show lt_cI (lt_ev (d + 29) 197 _ _) _ = _
        rw [m197 (d + 27) sy h (by omega), lt_cI_s]
        have b7 := wf_st hw hi
        simp (disch := omega) only [q_3, sp_eqn]
        by_cases c3 : w_st w i = 3
        · rw [if_neg (by simp [c3]), if_pos c3, m237 (d + 27) sy h hw hi c3, lt_cI_s]
        · rw [if_pos c3, if_neg c3]; rfl
      · refine OP_q _ hr0 (hcl.trans ((lt_gd_t hq).trans (by rw [e8]))) (hml.trans ?_)
        show lt_cI (lt_ev (d + 29) 198 _ _) _ = _
        rw [m198_lg (d + 28) sy h (by omega), lt_cI_s]
  · refine OP_q (.inl (-1)) hr0 ?_ ?_
    · refine (E129 (d + 29) 0 _ _ sx m).trans ?_
      rw [p114 (d + 27) _ _ sL m, lt_cR_s, e, lt_nl_n]
    · refine (E242 (d + 29) 711 _ _ sy m).trans ?_
      rw [m231 (d + 27) sy hs.t0.ml hw, lt_cI_s, sp_i0 (by omega) hx, if_neg (by decide)]
/-- borders -/
theorem op_borders (d : Nat) (hr : RR dist wl T m) (x : Int32) : OP dist wl d T T 134 246 [.inl x] m := by
  have hr0 := hr
  obtain ⟨N, w, vs, hs, hl, hc, hm⟩ := hr
  have hN := hs.wfN
  have hw := hs.wfL
  have h20 := hw.2.2.1
  have bn := hN.2.1
  rcases c114 hs.cl hw x with ⟨i, hi, rfl, e⟩ | ⟨hx, e⟩
  · have hq := sh_mv sL (i := i) (by omega)
    obtain ⟨g1, g2, g3, g4⟩ := wf_sp hw hi
    have hco : ∀ k, k < w_lg w i → N.2.2.2.1 (w_rt w i k) ≤ 5 := fun k hk => hN.2.2.2.2.2.2.1 _ (wf_rt hw hi hk)
    obtain ⟨f, hf⟩ : ∃ f, f = fun k => if k = 0 ∨ N.2.2.2.1 (w_rt w i k) = N.2.2.2.1 (w_rt w i (k - 1)) then 0 else 1 := ⟨_, rfl⟩
    obtain ⟨M2, R1, e2, hs2, hz, f1, hz1, hR⟩ := tell1 hs (nI (orN (fun k => N.2.2.2.1 (w_rt w i k)) (w_lg w i)))
    have e8 := (hs.cl.2.2.2.2.1 i hi).2.2.2.2.2.2.2.1
    refine ⟨.inl (nI (sumN f (w_lg w i))), M2, R1, ?_, ?_, hR⟩
    · refine (E134 (d + 29) 0 _ sx m).trans ?_
      rw [p114 (d + 27) _ _ sL m, lt_cR_s, e, lt_nl_s]
      refine lp_it (F := fun k o => L134_23 (d + 29) 0 (nI i) (0 + 13 + 3 + 5 + 3 * i) (nI (sumN f k)) (nI (orN (fun k => N.2.2.2.1 (w_rt w i k)) k)) (nI k) o m) (w_lg w i) ?_ ?_ none
      · intro k o hk
        refine ⟨some (.inl (nI (N.2.2.2.1 (w_rt w i k)))), ?_⟩
        have := hco k hk
        rw [E134_23 _ _ _ _ _ _ _ _ sx, lt_gd_t hq, e8]
        simp (disch := omega) only [sp_len, sp_le0, sumN, orN]
        rw [if_neg (by omega), p64 (d + 27) _ _ hq m, lt_cI_s, c64 hs.cl hw hi hk, lt_gd_t hs.sA, p21 (d + 27) _ _ hs.sA m, lt_cI_s, c21 hs.nR hN (wf_rt hw hi hk), sp_bit (by omega), sp_orN, nI_1]
        by_cases c0 : k = 0
        · rw [if_pos (by omega), show f k = 0 by rw [hf]; exact if_pos (Or.inl c0)]; rfl
        · have := hco (k - 1) (by omega)
          rw [if_neg (by omega), q_1, pk_sub (by omega), p64 (d + 27) _ _ hq m, lt_cI_s, c64 hs.cl hw hi (by omega), lt_gd_t hs.sA, p21 (d + 27) _ _ hs.sA m, lt_cI_s, c21 hs.nR hN (wf_rt hw hi (by omega))]
          simp (disch := omega) only [sp_eqn]
          by_cases c1 : N.2.2.2.1 (w_rt w i k) = N.2.2.2.1 (w_rt w i (k - 1))
          · rw [if_pos c1, show f k = 0 by rw [hf]; exact if_pos (Or.inr c1)]; rfl
          · rw [if_neg c1, nI_add, show f k = 1 by rw [hf]; exact if_neg (by omega)]
      · intro o
        rw [E134_23 _ _ _ _ _ _ _ _ sx, lt_gd_t hq, e8]
        simp (disch := omega) only [sp_len]
        rw [if_pos (Nat.le_refl _), e2, lt_cV_s]
    · refine (E246 (d + 29) 711 _ sy M2).trans ?_
      have h := hs2.t0.ml
      rw [m231 (d + 27) sy h hw, lt_cI_s, sp_i1 hi (by omega), if_pos (by decide)]
      refine lp_it (F := fun k o => L246_22 (d + 29) 711 (nI i) (nI (sumN f k)) (nI (orN (fun k => N.2.2.2.1 (w_rt w i k)) k)) (nI k) o (lm_i M2 711 15 0)) (w_lg w i) ?_ ?_ none
      · intro k o hk
        refine ⟨some (.inl (nI (N.2.2.2.1 (w_rt w i k)))), ?_⟩
        have := hco k hk
        have hr1 : w_rt w i k < N.1 := wf_rt hw hi hk
        rw [E246_22 _ _ _ _ _ _ _ sy, m198_lg (d + 28) sy h (by omega), lt_cI_s]
        simp (disch := omega) only [sp_len, sp_le0, sumN, orN]
        rw [if_neg (by omega), m198_rt (d + 28) sy h (by omega) (by omega), lt_cI_s, lt_gd_t (sp_gd (by omega) (by omega)), nI_clamp (by omega), h.2.2.2.1 _ hr1, sp_bit (by omega), sp_orN, nI_1]
        by_cases c0 : k = 0
        · rw [if_pos (by omega), show f k = 0 by rw [hf]; exact if_pos (Or.inl c0)]; rfl
        · have := hco (k - 1) (by omega)
          have hr2 : w_rt w i (k - 1) < N.1 := wf_rt hw hi (by omega)
          rw [if_neg (by omega), m198_rt1 (d + 28) sy h (by omega) (by omega) (by omega), lt_cI_s, lt_gd_t (sp_gd (by omega) (by omega)), nI_clamp (by omega), h.2.2.2.1 _ hr2]
          simp (disch := omega) only [sp_eqn]
          by_cases c1 : N.2.2.2.1 (w_rt w i k) = N.2.2.2.1 (w_rt w i (k - 1))
          · rw [if_pos c1, show f k = 0 by rw [hf]; exact if_pos (Or.inr c1)]; rfl
          · rw [if_neg c1, nI_1, show f k = 1 by rw [hf]; exact if_neg (by omega)]
      · intro o
        rw [E246_22 _ _ _ _ _ _ _ sy, m198_lg (d + 28) sy h (by omega), lt_cI_s]
        simp (disch := omega) only [sp_len]
        rw [if_pos (Nat.le_refl _), f1, lt_cV_s]
  · refine OP_q (.inl (-1)) hr0 ?_ ?_
    · refine (E134 (d + 29) 0 _ sx m).trans ?_
      rw [p114 (d + 27) _ _ sL m, lt_cR_s, e, lt_nl_n]
    · refine (E246 (d + 29) 711 _ sy m).trans ?_
      rw [m231 (d + 27) sy hs.t0.ml hw, lt_cI_s, sp_i0 (by omega) hx, if_neg (by decide)]
/-- asked -/
theorem op_asked (d : Nat) (hr : RR dist wl T m) (x : Int32) : OP dist wl d T T 135 247 [.inl x] m := by
  have hr0 := hr
  obtain ⟨N, w, vs, hs, hl, hc, hm⟩ := hr
  have hN := hs.wfN
  have hw := hs.wfL
  have h20 := hw.2.2.1
  have b0 := hw.1
  have bn := hN.2.1
  rcases c114 hs.cl hw x with ⟨i, hi, rfl, e⟩ | ⟨hx, e⟩
  · have hq := sh_mv sL (i := i) (by omega)
    obtain ⟨g1, g2, g3, g4⟩ := wf_sp hw hi
    have b7 := wf_st hw hi
    have e7 := (hs.cl.2.2.2.2.1 i hi).2.2.2.2.2.2.1
    have e6 := (hs.cl.2.2.2.2.1 i hi).2.2.2.2.2.1
    by_cases c3 : w_st w i = 3
    · obtain ⟨k1, k2⟩ := (hw.2.2.2.2.2 i hi).2.2.2.2.2.2.2.2.2.2.2.2.2.2.2.2.2.2 c3
      obtain ⟨st, hst⟩ : ∃ st, st = (w 0 - w_tm w i) / 24 := ⟨_, rfl⟩
      have hst2 : st ≤ 2 := by omega
      obtain ⟨M2, R1, R2, e2, hs2, hz, f1, hz1, f2, hz2, hR⟩ := tell2 hs (nI st) (nI (w_tm w i) + nI (24 * (st + 1)) - nI (w 0))
      have h := hs2.t0.ml
      have hse : w_seen w i < N.1 := wf_rt hw hi (by omega)
      have e6' := (hs2.cl.2.2.2.2.1 i hi).2.2.2.2.2.1
      have e9' := (hs2.cl.2.2.2.2.1 i hi).2.2.2.2.2.2.2.2.1
      obtain ⟨A, hA⟩ : ∃ A, A = if st = 0 then 0 else if st = 1 then 2 ^ w_seen w i else orN (fun j => w_rt w i (w_sp w i - 1 + j)) (w_lg w i - (w_sp w i - 1)) := ⟨_, rfl⟩
      have hv : v122 m (0 + 13 + 3 + 5 + 3 * i) (m.1 (0 + 13) 4) = nI st := by rw [hs.cl.1, c122 hs.cl hw hi, if_pos c3, hst]
      refine ⟨.inl (nI A), M2, R2, ?_, ?_, hR⟩
      · refine (E135 (d + 29) 0 _ sx m).trans ?_
        rw [p114 (d + 27) _ _ sL m, lt_cR_s, e, lt_nl_s, lt_gd_t hq, e7, if_pos (by rw [c3]; rfl), p122 (d + 28) _ _ hq m, lt_cI_s, hv, hs.cl.1, e6, nI_1, q_24, pk_mul, e2, lt_cV_s]
        have hs3 : st = 0 ∨ st = 1 ∨ st = 2 := by omega
        rcases hs3 with c | c | c
        · rw [if_neg (by rw [c]; decide), hA, if_pos c]; rfl
        · rw [if_pos (by rw [c]; decide), if_neg (by rw [c]; decide), p63 (d + 26) _ hq M2, lt_cI_s, c63 hs2.cl hw hi, sp_bit (by omega), hA, if_neg (by omega), if_pos c]
        · rw [if_pos (by rw [c]; decide), if_pos (by rw [c]; decide), e9', q_1, pk_sub (by omega), k136 (d + 26) sL hs2.cl hN hw hi (by omega), lt_cI_s, hA, if_neg (by omega), if_neg (by omega)]
      · have fin : ∀ x3 x4, L247_96 (d + 29) 711 (nI i) (nI st) (nI x3) x4 (lm_i M2 711 15 0) = some (some (.inl (nI x3)), R2) := by
          intro x3 x4
          have h00 : R1.1 (711 + 1) (0 : Int32).toNatClampNeg = nI (w 0) := by rw [show (0 : Int32).toNatClampNeg = 0 by decide]; exact hz1.ml.1 0 (by omega)
          rw [E247_96 _ _ _ _ _ _ sy, f1, lt_cV_s, m198_tm (d + 28) sy hz1.ml (by omega), lt_cI_s, lt_gd_t (by decide), h00, nI_1, q_24, pk_mul, f2, lt_cV_s]
        refine (E247 (d + 29) 711 _ sy M2).trans ?_
        rw [m231 (d + 27) sy h hw, lt_cI_s, sp_i1 hi (by omega), if_pos (by decide), m197 (d + 27) sy h (by omega), lt_cI_s, if_pos (by rw [c3]; rfl), m237 (d + 27) sy h hw hi c3, lt_cI_s, ← hst]
        by_cases c0 : st = 0
        · rw [if_pos (by rw [c0]; decide), m198_sp (d + 28) sy h (by omega), lt_cI_s, E247_58 _ _ _ _ _ _ sy, m198_lg (d + 28) sy h (by omega), lt_cI_s]
          have := fin 0 (nI (w_sp w i))
          rw [hA, if_pos c0]
          split
          · exact this
          · rw [if_pos (by rw [c0]; decide)]; exact this
        · rw [if_neg (by rw [q_0, sp_len (by omega) (by omega)]; omega), m199 (d + 27) sy h hw hi, lt_cI_s, m198_sp (d + 28) sy h (by omega), lt_cI_s, sp_bit (by omega)]
          by_cases c1 : st = 1
          · rw [E247_58 _ _ _ _ _ _ sy, m198_lg (d + 28) sy h (by omega), lt_cI_s]
            have := fin (2 ^ w_seen w i) (nI (w_sp w i))
            rw [hA, if_neg c0, if_pos c1]
            split
            · exact this
            · rw [if_pos (by rw [c1]; decide)]; exact this
          · have c2 : st = 2 := by omega
            rw [hA, if_neg c0, if_neg c1]
            have e0 : 2 ^ w_seen w i = orN (fun j => w_rt w i (w_sp w i - 1 + j)) (0 + 1) := by
              simp only [orN]
              rw [Nat.zero_or]
              rfl
            rw [e0]
            refine lp_it (F := fun j (_ : Unit) => L247_58 (d + 29) 711 (nI i) (nI st) (nI (orN (fun j => w_rt w i (w_sp w i - 1 + j)) (j + 1))) (nI (w_sp w i + j)) (lm_i M2 711 15 0)) (w_lg w i - w_sp w i) ?_ ?_ ()
            · intro j o hj
              refine ⟨(), ?_⟩
              have hr1 : w_rt w i (w_sp w i + j) < N.1 := wf_rt hw hi (by omega)
              rw [E247_58 _ _ _ _ _ _ sy, m198_lg (d + 28) sy h (by omega), lt_cI_s]
              simp (disch := omega) only [sp_len]
              rw [if_neg (by omega), if_neg (by rw [c2]; decide), m198_rt (d + 28) sy h (by omega) (by omega), lt_cI_s, sp_bit (by omega), sp_orN, nI_1]
              have : orN (fun j => w_rt w i (w_sp w i - 1 + j)) (j + 1 + 1) = orN (fun j => w_rt w i (w_sp w i - 1 + j)) (j + 1) ||| 2 ^ w_rt w i (w_sp w i + j) := by
                rw [show w_sp w i + j = w_sp w i - 1 + (j + 1) by omega]; rfl
              rw [this]
              rfl
            · intro o
              rw [E247_58 _ _ _ _ _ _ sy, m198_lg (d + 28) sy h (by omega), lt_cI_s]
              simp (disch := omega) only [sp_len]
              rw [if_pos (by omega), show w_lg w i - w_sp w i + 1 = w_lg w i - (w_sp w i - 1) by omega]
              exact fin _ _
    · refine OP_q (.inl (-2)) hr0 ?_ ?_
      · refine (E135 (d + 29) 0 _ sx m).trans ?_
        rw [p114 (d + 27) _ _ sL m, lt_cR_s, e, lt_nl_s, lt_gd_t hq, e7, if_neg (by rw [q_3, sp_eqn (by omega) (by omega)]; exact c3)]
      · refine (E247 (d + 29) 711 _ sy m).trans ?_
        rw [m231 (d + 27) sy hs.t0.ml hw, lt_cI_s, sp_i1 hi (by omega), if_pos (by decide), m197 (d + 27) sy hs.t0.ml (by omega), lt_cI_s, if_neg (by rw [q_3, sp_eqn (by omega) (by omega)]; exact c3)]
  · refine OP_q (.inl (-1)) hr0 ?_ ?_
    · refine (E135 (d + 29) 0 _ sx m).trans ?_
      rw [p114 (d + 27) _ _ sL m, lt_cR_s, e, lt_nl_n]
    · refine (E247 (d + 29) 711 _ sy m).trans ?_
      rw [m231 (d + 27) sy hs.t0.ml hw, lt_cI_s, sp_i0 (by omega) hx, if_neg (by decide)]
/-- states -/
theorem op_states (d : Nat) (hr : RR dist wl T m) (x : Int32) : OP dist wl d T T 137 248 [.inl x] m := by
  have hr0 := hr
  obtain ⟨N, w, vs, hs, hl, hc, hm⟩ := hr
  have hN := hs.wfN
  have hw := hs.wfL
  have h20 := hw.2.2.1
  rcases pk_ix6 x with hx | ⟨t, ht, rfl⟩
  · refine OP_q (.inl (-1)) hr0 ?_ ?_
    · refine (E137 (d + 29) 0 _ sx m).trans ?_
      by_cases c : x < 0
      · rw [if_pos c]
      · rw [if_neg c, if_neg]
        rcases hx with hx | hx
        · exact absurd hx c
        · rw [Int32.le_iff_toInt_le] at hx ⊢
          have : (nI 6).toInt = 6 := by decide
          have : (5 : Int32).toInt = 5 := by decide
          omega
    · refine (E248 (d + 29) 711 _ sy m).trans ?_
      rw [m181_f (d + 28) (n := 5) (by decide) hx (by decide), lt_cI_s, if_neg (by decide)]
  · obtain ⟨p, hp⟩ : ∃ p : Nat → Bool, p = fun i => decide (w_st w i = t) := ⟨_, rfl⟩
    obtain ⟨f, hf⟩ : ∃ f, f = fun i => if w_st w i = t then w_sh w i else 0 := ⟨_, rfl⟩
    have ep : bitsN p (w 2) = bitsN (fun i => decide (i < w 2) && p i) 20 := b20 h20 p
    have ef : sumN f (w 2) = sumN (fun i => if i < w 2 ∧ w_st w i = t then w_sh w i else 0) 20 := by rw [hf]; exact s20 h20 _ _
    obtain ⟨M2, R1, R2, e2, hs2, hz, f1, hz1, f2, hz2, hR⟩ := tell2 hs (nI (pcN (bitsN p (w 2)) 24)) (nI (sumN f (w 2)))
    have hb := bitsN_24 p (n := w 2) (by omega)
    refine ⟨.inl (nI (bitsN p (w 2))), M2, R2, ?_, ?_, hR⟩
    · refine (E137 (d + 29) 0 _ sx m).trans ?_
      rw [if_neg (nI_pos (by omega)), if_pos (by rw [q_5, sp_len (by omega) (by omega)]; omega)]
      rw [ep, ef] at e2
      rw [ep] at hb ⊢
      refine lp_it (F := fun i o => L137_32 (d + 29) 0 (nI t) (nI (bitsN (fun i => decide (i < w 2) && p i) i)) (nI (sumN (fun i => if i < w 2 ∧ w_st w i = t then w_sh w i else 0) i)) (nI i) o m) 20 ?_ ?_ none
      · intro i o hi
        refine ⟨some (.inr (.inr (some (0 + 13 + 3 + 5 + 3 * i)))), ?_⟩
        rw [E137_32 _ _ _ _ _ _ _ sx]
        simp (disch := omega) only [q_20, sp_len, nI_clamp, sumN, bitsN_succ]
        rw [if_neg (by omega), lt_gd_t ⟨nI_pos' (by omega), hi⟩]
        by_cases h2 : i < w 2
        · obtain ⟨-, -, -, -, e5, -, e7, -⟩ := hs.cl.2.2.2.2.1 i h2
          have b7 := wf_st hw h2
          rw [e7]
          simp (disch := omega) only [sp_eqn]
          by_cases c : w_st w i = t
          · rw [if_neg (by simp [c]), p65 (d + 28) _ (sh_mv sL hi) m, lt_cI_s, c65 hs.cl hi, sp_orI (bitsN_lt _ i), nI_1, e5, nI_add, if_pos (by rw [hp]; simp [h2, c]), if_pos ⟨h2, c⟩]
          · rw [if_pos c, nI_1, if_neg (by rw [hp]; simp [c]), if_neg (by simp [c])]; rfl
        · rw [hs.cl.2.2.2.2.2.1 i (by omega) hi, if_pos (by rw [sp_m1' (by omega)]; decide), nI_1, if_neg (by simp [h2]), if_neg (by simp [h2])]; rfl
      · intro o
        rw [E137_32 _ _ _ _ _ _ _ sx, if_pos (by decide), k60 (d + 28) hb, lt_cI_s, e2, lt_cV_s]
    · refine (E248 (d + 29) 711 _ sy M2).trans ?_
      have h := hs2.t0.ml
      rw [m181_t (d + 28) (n := 5) (by omega) (by decide) (by decide), lt_cI_s, if_pos (by decide)]
      refine lp_it (F := fun i (_ : Unit) => L248_26 (d + 29) 711 (nI t) (nI (bitsN p i)) (nI (sumN f i)) (nI i) (lm_i M2 711 15 0)) (w 2) ?_ ?_ ()
      · intro i o hi
        refine ⟨(), ?_⟩
        have b7 := wf_st hw hi
        rw [E248_26 _ _ _ _ _ _ sy, lt_gd_t g2_ok, w2_at h]
        simp (disch := omega) only [sp_len, sumN, bitsN_succ]
        rw [if_neg (by omega), m197 (d + 27) sy h (by omega), lt_cI_s]
        simp (disch := omega) only [sp_eqn]
        by_cases c : w_st w i = t
        · rw [if_pos c, m198_sh (d + 28) sy h (by omega), lt_cI_s, sp_bit (by omega), sp_orI (bitsN_lt _ i), nI_1, nI_add, if_pos (by rw [hp]; simp [c]), show f i = w_sh w i by rw [hf]; exact if_pos c]
        · rw [if_neg c, nI_1, if_neg (by rw [hp]; simp [c]), show f i = 0 by rw [hf]; exact if_neg c]; rfl
      · intro o
        rw [E248_26 _ _ _ _ _ _ sy, lt_gd_t g2_ok, w2_at h, if_pos (by rw [sp_len (by omega) (by omega)]; exact Nat.le_refl _), m206 (d + 28) hb, lt_cI_s, f1, lt_cV_s, f2, lt_cV_s]
/-- late -/
theorem op_late (d : Nat) (hr : RR dist wl T m) : OP dist wl d T T 140 250 [] m := by
  have hr0 := hr
  obtain ⟨N, w, vs, hs, hl, hc, hm⟩ := hr
  have hN := hs.wfN
  have hw := hs.wfL
  have h20 := hw.2.2.1
  obtain ⟨p, hp⟩ : ∃ p : Nat → Bool, p = w_late N w := ⟨_, rfl⟩
  have ep : bitsN p (w 2) = bitsN (fun i => decide (i < w 2) && p i) 20 := b20 h20 p
  obtain ⟨M2, R1, e2, hs2, hz, f1, hz1, hR⟩ := tell1 hs (nI (pcN (bitsN p (w 2)) 24))
  have hb := bitsN_24 p (n := w 2) (by omega)
  refine ⟨.inl (nI (bitsN p (w 2))), M2, R1, ?_, ?_, hR⟩
  · refine (E140 (d + 29) 0 sx m).trans ?_
    rw [ep] at e2
    rw [ep] at hb ⊢
    refine lp_it (F := fun i o => L140_16 (d + 29) 0 (nI (bitsN (fun i => decide (i < w 2) && p i) i)) (nI i) o m) 20 ?_ ?_ none
    · intro i o hi
      refine ⟨some (.inr (.inr (some (0 + 13 + 3 + 5 + 3 * i)))), ?_⟩
      rw [E140_16 _ _ _ _ _ sx]
      simp (disch := omega) only [q_20, sp_len, nI_clamp, bitsN_succ]
      rw [if_neg (by omega), lt_gd_t ⟨nI_pos' (by omega), hi⟩, k141 (d + 24) sx hs.sA sL hs.nR hs.cl hN hw hi, lt_cI_s]
      by_cases c : i < w 2 ∧ w_late N w i = true
      · rw [show (if i < w 2 ∧ w_late N w i = true then (1 : Int32) else 0) = 1 from if_pos c, if_neg (by decide), p65 (d + 28) _ (sh_mv sL hi) m, lt_cI_s, c65 hs.cl hi, sp_orI (bitsN_lt _ i), nI_1, if_pos (by rw [hp]; simp [c])]
      · rw [show (if i < w 2 ∧ w_late N w i = true then (1 : Int32) else 0) = 0 from if_neg c, if_pos rfl, nI_1, if_neg (by rw [hp]; simp only [Bool.and_eq_true, decide_eq_true_eq]; exact c)]; rfl
    · intro o
      rw [E140_16 _ _ _ _ _ sx, if_pos (by decide), k60 (d + 28) hb, lt_cI_s, e2, lt_cV_s]
  · refine (E250 (d + 29) 711 sy M2).trans ?_
    have h := hs2.t0.ml
    refine lp_it (F := fun i (_ : Unit) => L250_9 (d + 29) 711 (nI (bitsN p i)) (nI i) (lm_i M2 711 15 0)) (w 2) ?_ ?_ ()
    · intro i o hi
      refine ⟨(), ?_⟩
      rw [E250_9 _ _ _ _ sy, lt_gd_t g2_ok, w2_at h]
      simp (disch := omega) only [sp_len, bitsN_succ]
      rw [if_neg (by omega), m251 (d + 25) sy h hN hw hi, lt_cI_s]
      by_cases c : w_late N w i = true
      · rw [show (if w_late N w i = true then (1 : Int32) else 0) = 1 from if_pos c, if_neg (by decide), sp_bit (by omega), sp_orI (bitsN_lt _ i), nI_1, if_pos (by rw [hp]; exact c)]
      · rw [show (if w_late N w i = true then (1 : Int32) else 0) = 0 from if_neg c, if_pos rfl, sp_or0, nI_1, if_neg (by rw [hp]; exact c)]; rfl
    · intro o
      rw [E250_9 _ _ _ _ sy, lt_gd_t g2_ok, w2_at h, if_pos (by rw [sp_len (by omega) (by omega)]; exact Nat.le_refl _), m206 (d + 28) hb, lt_cI_s, f1, lt_cV_s]
end OPS

/-! ===== the machine counts ROUTES: class (follow), reference (walks) ===== -/
def dfN (v p : Nat) : Nat := v &&& (p ^^^ (2 ^ 32 - 1))
theorem df_tb {v p o : Nat} (ho : o < 32) : (dfN v p).testBit o = (v.testBit o && !p.testBit o) := by
  unfold dfN
  rw [Nat.testBit_and, Nat.testBit_xor, Nat.testBit_two_pow_sub_one, decide_eq_true ho, Bool.xor_true]
theorem df_lt {v p c : Nat} (h : v < c) : dfN v p < c := Nat.lt_of_le_of_lt Nat.and_le_left h
theorem sp_df {v p : Nat} : nI v &&& (nI p ^^^ (-1 : Int32)) = nI (dfN v p) := by
  rw [show (-1 : Int32) = nI (2 ^ 32 - 1) by decide, sp_xorN, sp_andN]
  rfl
theorem s_12 : ts_sh 12 = (0, 9) := sf_of sx 4 (by decide) (by decide)
/-- the class's Search -/
def csM (x : MW) (m : lt_m) : Prop := m.1 12 2 = nI x.1 ∧ m.1 12 3 = nI x.2.1 ∧ m.1 12 4 = nI x.2.2.1
def sfr (m M : lt_m) : Prop := (∀ b, b ≠ 12 → M.1 b = m.1 b) ∧ M.1 12 1 = m.1 12 1 ∧ M.2 = m.2
theorem sfr_rf (m : lt_m) : sfr m m := ⟨fun _ _ => rfl, rfl, rfl⟩
theorem sfr_tr {a b c : lt_m} (h1 : sfr a b) (h2 : sfr b c) : sfr a c := ⟨fun x k => (h2.1 x k).trans (h1.1 x k), h2.2.1.trans h1.2.1, h2.2.2.trans h1.2.2⟩
section FO
variable {N : NT} {w : Nat → Nat} {A g : Nat} {m : lt_m}
theorem nR_s {M : lt_m} (hA2 : 13 ≤ A) (h : sfr m M) (hn : nR N A m) : nR N A M := nR_fr (fun b b1 b2 => h.1 b (by omega)) hn
theorem k73 {x : MW} {v : Nat} (hx : gdM x) (hv : v ≤ 1000) (h : csM x m) : ∃ M, (∀ d, lt_ev (d + 1) 73 [.inr (.inr (some 12)), .inl (nI v)] m = some (none, M)) ∧ (∀ p, csM (mP x (1, v, v, p)) M) ∧ sfr m M := by
  obtain ⟨h1, h2, h3⟩ := h
  obtain ⟨g1, g2, g3⟩ := hx
  refine ⟨lm_i (lm_i (lm_i m 12 2 (nI (x.1 + 1))) 12 3 (nI (min x.2.1 v))) 12 4 (nI (max x.2.2.1 v)), fun d => ?_, fun p => ⟨?_, ?_, lm_i_eq⟩, fun b hb => by rw [lm_i_ne hb, lm_i_ne hb, lm_i_ne hb], by rw [lm_i_ns (by omega), lm_i_ns (by omega), lm_i_ns (by omega)], rfl⟩
  · refine (E73 d 12 _ s_12 m).trans ?_
    have e3 : (lm_i m 12 2 (nI (x.1 + 1))).1 12 3 = nI x.2.1 := by rw [lm_i_ns (by omega)]; exact h2
    have e4 : ∀ v3, (lm_i (lm_i m 12 2 (nI (x.1 + 1))) 12 3 v3).1 12 4 = nI x.2.2.1 := fun v3 => by rw [lm_i_ns (by omega), lm_i_ns (by omega)]; exact h3
    rw [h1, nI_1, e3, e4, sp_min (by omega) (by omega), sp_max (by omega) (by omega)]
  · rw [lm_i_ns (by omega), lm_i_ns (by omega), lm_i_eq]
    rfl
  · rw [lm_i_ns (by omega), lm_i_eq]
    rfl
theorem k72 (hA : ts_sh A = (0, 5)) (hA2 : 13 ≤ A) (hN : wfN N) (hg : g < N.1) : ∀ r a p sp x m, r ≤ 6 → a < N.1 → p < 4096 → sp + 100 * (r + 1) ≤ 1000 → gdM x → csM x m → nR N A m → m.1 12 1 = nI g → m.2.2.2.2 = some A → ∃ M, (∀ d, lt_ev (d + r + 3) 72 [.inr (.inr (some 12)), .inl (nI a), .inl (nI p), .inl (nI (7 - r)), .inl (nI sp)] m = some (none, M)) ∧ csM (mP x (CC N.2.2.1 N.1 g r a p sp)) M ∧ sfr m M := by
  have hn2 := hN.2.1
  have hH := hN.2.2.2.1
  -- the first half: the goal itself
  have first : ∀ r a p sp x m, r ≤ 6 → a < N.1 → p < 4096 → sp + 100 * (r + 1) ≤ 1000 → gdM x → csM x m → nR N A m → m.1 12 1 = nI g → m.2.2.2.2 = some A → ∃ M v, (∀ d, lt_ev (d + 3) 72 [.inr (.inr (some 12)), .inl (nI a), .inl (nI p), .inl (nI (7 - r)), .inl (nI sp)] m = L72_38 (d + 2) 12 (nI a) (nI p) (nI (7 - r)) (nI sp) A v M) ∧ csM (mP x (CB N.2.2.1 g a p sp)) M ∧ sfr m M := by
    intro r a p sp x m hr ha hp hsp hx hcs hn hg1 hsn
    have hh := hH a g ha hg
    have e13 : ∀ d, lt_ev (d + 3) 72 [.inr (.inr (some 12)), .inl (nI a), .inl (nI p), .inl (nI (7 - r)), .inl (nI sp)] m = if nI (N.2.2.1 a g) ≤ 0 then (L72_38 (d + 2) 12 (nI a) (nI p) (nI (7 - r)) (nI sp) A (nI (N.2.2.1 a g)) m) else (lt_cV (lt_ev (d + 2) 73 [.inr (.inr (some 12)), .inl (nI sp + nI (N.2.2.1 a g))] m) (fun m2 => (L72_38 (d + 2) 12 (nI a) (nI p) (nI (7 - r)) (nI sp) A (nI (N.2.2.1 a g)) m2))) := fun d => by
      refine (E72 (d + 2) 12 _ _ _ _ s_12 m).trans ?_
      rw [hsn, lt_nl_s, lt_gd_t hA, hg1, p13 d A _ _ hA m, lt_cI_s, c13 hn hN ha hg]
    unfold CB
    by_cases c : N.2.2.1 a g = 0
    · refine ⟨m, nI (N.2.2.1 a g), fun d => ?_, by rw [if_pos c, mP_O hx]; exact hcs, sfr_rf m⟩
      rw [e13, if_pos (by rw [sp_le0 (by omega)]; omega)]
    · obtain ⟨M, e3, c3, f3⟩ := k73 (v := sp + N.2.2.1 a g) hx (by omega) hcs
      refine ⟨M, nI (N.2.2.1 a g), fun d => ?_, by rw [if_neg c]; exact c3 p, f3⟩
      rw [e13, if_neg (by rw [sp_le0 (by omega)]; omega), nI_add, e3 (d + 1), lt_cV_s]
  intro r
  induction r with
  | zero =>
    intro a p sp x m hr ha hp hsp hx hcs hn hg1 hsn
    obtain ⟨M, v, e1, c1, f1⟩ := first 0 a p sp x m hr ha hp hsp hx hcs hn hg1 hsn
    refine ⟨M, fun d => ?_, c1, f1⟩
    rw [show d + 0 + 3 = d + 3 by omega, e1 d, E72_38 _ _ _ _ _ _ _ _ hA, if_neg (by decide)]
  | succ r ih =>
    intro a p sp x m hr ha hp hsp hx hcs hn hg1 hsn
    obtain ⟨M1, v, e1, c1, f1⟩ := first (r + 1) a p sp x m hr ha hp hsp hx hcs hn hg1 hsn
    have hn1 := nR_s hA2 f1 hn
    obtain ⟨x1, hx1⟩ : ∃ x1, x1 = mP x (CB N.2.2.1 g a p sp) := ⟨_, rfl⟩
    have gx1 : gdM x1 := by rw [hx1]; exact gd_P hx (gd_CB hg hH ha hp (by omega))
    rw [← hx1] at c1
    obtain ⟨f, hf⟩ : ∃ f : Nat → MW, f = fun o => if p.testBit o = true ∨ N.2.2.1 a o = 0 then mO else CC N.2.2.1 N.1 g r o (p ||| 2 ^ o) (sp + N.2.2.1 a o) := ⟨_, rfl⟩
    have gf : ∀ i, i < N.1 → gdM (f i) := fun i hi => by
      rw [hf]
      simp only
      split
      · exact gd_O
      · have := hH a i ha hi
        exact gd_CC hn2 hg hH r i _ _ hi (or_4096 hp (by omega)) (by omega)
    obtain ⟨op, hop⟩ : ∃ op, op = dfN (bitsN (fun b => decide (0 < N.2.2.1 a b)) N.1) p := ⟨_, rfl⟩
    have hbl : bitsN (fun b => decide (0 < N.2.2.1 a b)) N.1 < 2 ^ 12 := Nat.lt_of_lt_of_le (bitsN_lt _ _) (Nat.pow_le_pow_right (by omega) hn2)
    have hopl : op < 2 ^ 12 := by rw [hop]; exact df_lt hbl
    have loop : ∀ j i m, i + j = N.1 → csM (mP x1 (smM f i)) m → sfr M1 m → ∃ M, (∀ d, L72_62 (d + r + 3) 12 (nI a) (nI p) (nI (7 - (r + 1))) (nI sp) A v (nI op) (nI i) m = some (none, M)) ∧ csM (mP x1 (smM f N.1)) M ∧ sfr M1 M := by
      intro j
      induction j with
      | zero =>
        intro i m hi hc hs
        have hi : i = N.1 := hi
        subst hi
        refine ⟨m, fun d => ?_, hc, hs⟩
        rw [E72_62 _ _ _ _ _ _ _ _ _ _ hA, (nR_s hA2 hs hn1).1, if_pos (by rw [sp_len (by omega) (by omega)]; exact Nat.le_refl _)]
      | succ j ih2 =>
        intro i m hi hc hs
        have hi2 : i < N.1 := by omega
        have hnm := nR_s hA2 hs hn1
        have hh := hH a i ha hi2
        have etb : op.testBit i = (decide (0 < N.2.2.1 a i) && !p.testBit i) := by
          rw [hop, df_tb (by omega), bitsN_tb, decide_eq_true hi2, Bool.true_and]
        have head : ∀ d, L72_62 (d + r + 3) 12 (nI a) (nI p) (nI (7 - (r + 1))) (nI sp) A v (nI op) (nI i) m = if nI (if op.testBit i then 1 else 0) = 0 then (L72_62 (d + r + 3) 12 (nI a) (nI p) (nI (7 - (r + 1))) (nI sp) A v (nI op) (nI (i + 1)) m) else (lt_cV (lt_ev (d + r + 3) 72 [.inr (.inr (some 12)), .inl (nI i), .inl (nI (p ||| 2 ^ i)), .inl (nI (7 - r)), .inl (nI (sp + N.2.2.1 a i))] m) (fun m2 => (L72_62 (d + r + 3) 12 (nI a) (nI p) (nI (7 - (r + 1))) (nI sp) A v (nI op) (nI (i + 1)) m2))) := fun d => by
          rw [E72_62 _ _ _ _ _ _ _ _ _ _ hA, hnm.1, if_neg (by rw [sp_len (by omega) (by omega)]; omega), sp_tb (by omega) (by omega), p13 (d + r + 1) A _ _ hA m, lt_cI_s, c13 hnm hN ha hi2, sp_bit (by omega), sp_orN, nI_add, nI_1, nI_1, show 7 - (r + 1) + 1 = 7 - r by omega]
        by_cases c : p.testBit i = true ∨ N.2.2.1 a i = 0
        · have ef : f i = mO := by rw [hf]; simp only; rw [if_pos c]
          have et : op.testBit i = false := by
            rw [etb]
            rcases c with c | c
            · rw [c]; simp
            · rw [c]; simp
          obtain ⟨M, e2, c2, f2⟩ := ih2 (i + 1) m (by omega) (by
            show csM (mP x1 (mP (smM f i) (f i))) m
            rw [ef, mP_O (gd_S fun k hk => gf k (by omega))]
            exact hc) hs
          refine ⟨M, fun d => ?_, c2, f2⟩
          rw [head, et, if_pos (by decide), e2 d]
        · have ef : f i = CC N.2.2.1 N.1 g r i (p ||| 2 ^ i) (sp + N.2.2.1 a i) := by rw [hf]; simp only; rw [if_neg c]
          have et : op.testBit i = true := by
            have c1 : p.testBit i = false := by
              cases q : p.testBit i with
              | false => rfl
              | true => exact absurd (Or.inl q) c
            have c2 : 0 < N.2.2.1 a i := by
              rcases Nat.eq_zero_or_pos (N.2.2.1 a i) with q | q
              · exact absurd (Or.inr q) c
              · exact q
            rw [etb, c1, decide_eq_true c2]; rfl
          obtain ⟨M3, e3, c3, f3⟩ := ih i (p ||| 2 ^ i) (sp + N.2.2.1 a i) (mP x1 (smM f i)) m (by omega) hi2 (or_4096 hp (by omega)) (by omega) (gd_P gx1 (gd_S fun k hk => gf k (by omega))) hc hnm (by rw [hs.2.1, f1.2.1]; exact hg1) (by rw [hs.2.2, f1.2.2]; exact hsn)
          obtain ⟨M, e2, c2, f2⟩ := ih2 (i + 1) M3 (by omega) (by
            show csM (mP x1 (mP (smM f i) (f i))) M3
            rw [ef, ← mP_as]
            exact c3) (sfr_tr hs f3)
          refine ⟨M, fun d => ?_, c2, f2⟩
          rw [head, et, if_neg (by decide), e3 d, lt_cV_s, e2 d]
    obtain ⟨M, e2, c2, f2⟩ := loop N.1 0 M1 (by omega) (by rw [show smM f 0 = mO from rfl, mP_O gx1]; exact c1) (sfr_rf M1)
    refine ⟨M, fun d => ?_, ?_, sfr_tr f1 f2⟩
    · have h1 := e1 (d + r + 1)
      rw [show d + (r + 1) + 3 = d + r + 1 + 3 by omega, h1, E72_38 _ _ _ _ _ _ _ _ hA, if_pos (by rw [q_2, nI_add, q_8, sp_len (by omega) (by omega)]; omega), p49 (d + r + 1) A _ hA M1, lt_cI_s, c49 hn1 hN ha, sp_df, ← hop]
      have := e2 d
      rw [nI_0] at this
      exact this
    · show csM (mP x (mP (CB N.2.2.1 g a p sp) (smM _ N.1))) M
      rw [← mP_as, ← hx1, ← hf]
      exact c2
/-- the reference's numbers of ROUTES -/
def rsM (n : Nat) (x : MW) (m : lt_m) : Prop := m.1 711 29 = nI x.1 ∧ (x.1 ≠ 0 → m.1 711 30 = nI x.2.1) ∧ m.1 711 31 = nI x.2.2.1 ∧ m.1 711 32 = nI ((2 ^ n - 1) &&& x.2.2.2)
def wfr (m M : lt_m) : Prop := (∀ b k, ¬ (b = 711 ∧ (k = 29 ∨ k = 30 ∨ k = 31 ∨ k = 32)) → M.1 b k = m.1 b k) ∧ M.2 = m.2
theorem wfr_rf (m : lt_m) : wfr m m := ⟨fun _ _ _ => rfl, rfl⟩
theorem wfr_tr {a b c : lt_m} (h1 : wfr a b) (h2 : wfr b c) : wfr a c := ⟨fun x k h => (h2.1 x k h).trans (h1.1 x k h), h2.2.trans h1.2⟩
theorem ml_w {M : lt_m} (h : wfr m M) (hm : ml N w 711 m) : ml N w 711 M := by
  obtain ⟨h0, h1, h2, h3, h4, h5⟩ := hm
  have c : ∀ b, b ≠ 711 → M.1 b = m.1 b := fun b g1 => funext fun k => h.1 b k (by omega)
  exact ⟨by rw [c (711 + 1) (by omega)]; exact h0, by rw [h.1 711 8 (by omega)]; exact h1, by rw [h.1 711 10 (by omega)]; exact h2, by rw [c (711 + 4) (by omega)]; exact h3, by rw [c (711 + 6) (by omega)]; exact h4, by rw [c (711 + 5) (by omega)]; exact h5⟩
theorem pcN_or {v o : Nat} (ho : o < 24) (h : v.testBit o = false) : pcN (v ||| 2 ^ o) 24 = pcN v 24 + 1 := by
  rw [pcN_tb, pcN_tb]
  refine sumN_up (j := o) 24 ho (fun i hi hne => ?_) ?_
  · rw [Nat.testBit_or, Nat.testBit_two_pow_of_ne (Ne.symm hne), Bool.or_false]
  · rw [Nat.testBit_or, Nat.testBit_two_pow_self, Bool.or_true, h]
    rfl
theorem m205 (hN : wfN N) (hg : g < N.1) : ∀ r a set sp x m, r ≤ 7 → a < N.1 → set < 4096 → pcN set 24 = 8 - r → sp + 100 * r ≤ 1000 → gdM x → nzM x → x.1 + bdM r ≤ 2 ^ 28 → rsM N.1 x m → ml N w 711 m → ∃ M, (∀ d, lt_ev (d + r + 2) 205 [.inr (.inr (some 711)), .inl (nI a), .inl (nI g), .inl (nI set), .inl (nI sp)] m = some (none, M)) ∧ rsM N.1 (mP x (CR N.2.2.1 N.1 g r a set sp)) M ∧ wfr m M := by
  have hn2 := hN.2.1
  have hH := hN.2.2.2.1
  -- at the goal
  have goal : ∀ set sp x m, set < 4096 → sp ≤ 1000 → gdM x → nzM x → x.1 + 1 ≤ 2 ^ 28 → rsM N.1 x m → ∃ M, (∀ d, lt_ev (d + 1) 205 [.inr (.inr (some 711)), .inl (nI g), .inl (nI g), .inl (nI set), .inl (nI sp)] m = some (none, M)) ∧ rsM N.1 (mP x (1, sp, sp, set)) M ∧ wfr m M := by
    intro set sp x m hs hsp hx hz hb hr
    obtain ⟨g1, g2, g3⟩ := hx
    obtain ⟨r1, r2, r3, r4⟩ := hr
    obtain ⟨M, hM⟩ : ∃ M, M = lm_i (lm_i (lm_i (lm_i m 711 30 (nI (min x.2.1 sp))) 711 31 (nI (max x.2.2.1 sp))) 711 32 (nI ((2 ^ N.1 - 1) &&& x.2.2.2 &&& set))) 711 29 (nI (x.1 + 1)) := ⟨_, rfl⟩
    refine ⟨M, fun d => ?_, ⟨?_, fun _ => ?_, ?_, ?_⟩, fun b k hb => ?_, by rw [hM]; rfl⟩
    · have h27 : L205_27 d 711 (nI g) (nI g) (nI set) (nI sp) (nI (min x.2.1 sp)) m = some (none, M) := by
        rw [E205_27 _ _ _ _ _ _ _ sy]
        have e31 : (lm_i m 711 30 (nI (min x.2.1 sp))).1 711 31 = nI x.2.2.1 := by rw [lm_i_ns (by omega)]; exact r3
        have e32 : (lm_i (lm_i m 711 30 (nI (min x.2.1 sp))) 711 31 (nI (max x.2.2.1 sp))).1 711 32 = nI ((2 ^ N.1 - 1) &&& x.2.2.2) := by rw [lm_i_ns (by omega), lm_i_ns (by omega)]; exact r4
        have e29 : (lm_i (lm_i (lm_i m 711 30 (nI (min x.2.1 sp))) 711 31 (nI (max x.2.2.1 sp))) 711 32 (nI ((2 ^ N.1 - 1) &&& x.2.2.2 &&& set))).1 711 29 = nI x.1 := by rw [lm_i_ns (by omega), lm_i_ns (by omega), lm_i_ns (by omega)]; exact r1
        rw [e31, sp_max (by omega) (by omega), e32, sp_andN]
        simp only [lt_let]
        rw [e29, nI_1, ← hM]
      refine (E205 d 711 _ _ _ _ sy m).trans ?_
      rw [if_neg (fun q => q rfl), r1]
      by_cases c : x.1 = 0
      · have hmn := hz c
        rw [if_neg (by rw [c]; exact fun q => q rfl)]
        rw [hmn, Nat.min_eq_right (by omega)] at h27
        exact h27
      · rw [if_pos (by rw [sp_eq0 (by omega)]; exact c), r2 c, sp_min (by omega) (by omega)]
        exact h27
    · rw [hM, lm_i_eq]; rfl
    · rw [hM, lm_i_ns (by omega), lm_i_ns (by omega), lm_i_ns (by omega), lm_i_eq]; rfl
    · rw [hM, lm_i_ns (by omega), lm_i_ns (by omega), lm_i_eq]; rfl
    · rw [hM, lm_i_ns (by omega), lm_i_eq, Nat.and_assoc]; rfl
    · rw [hM, lm_i_ns (by omega), lm_i_ns (by omega), lm_i_ns (by omega), lm_i_ns (by omega)]
  intro r
  induction r with
  | zero =>
    intro a set sp x m hr ha hs hpc hsp hx hz hb hrs hml
    by_cases e : a = g
    · subst e
      obtain ⟨M, e1, c1, f1⟩ := goal set sp x m hs (by omega) hx hz (by have := bd_pos 0; omega) hrs
      refine ⟨M, fun d => e1 (d + 1), ?_, f1⟩
      simp only [CR]
      rw [if_pos trivial]
      exact c1
    · refine ⟨m, fun d => ?_, ?_, wfr_rf m⟩
      · refine (E205 (d + 1) 711 _ _ _ _ sy m).trans ?_
        rw [if_pos (by rw [sp_eqn (by omega) (by omega)]; exact e), m206 d (by omega), lt_cI_s, hpc, if_neg (by decide)]
      · simp only [CR]
        rw [if_neg e, mP_O hx]
        exact hrs
  | succ r ih =>
    intro a set sp x m hr ha hs hpc hsp hx hz hb hrs hml
    have hbp := bd_pos r
    have hbe : bdM (r + 1) = 12 * bdM r := rfl
    by_cases e : a = g
    · subst e
      obtain ⟨M, e1, c1, f1⟩ := goal set sp x m hs (by omega) hx hz (by omega) hrs
      refine ⟨M, fun d => e1 (d + r + 2), ?_, f1⟩
      simp only [CR]
      rw [if_pos trivial]
      exact c1
    · obtain ⟨f, hf⟩ : ∃ f : Nat → MW, f = fun o => if set.testBit o = true ∨ N.2.2.1 a o = 0 then mO else CR N.2.2.1 N.1 g r o (set ||| 2 ^ o) (sp + N.2.2.1 a o) := ⟨_, rfl⟩
      have gf : ∀ i, i < N.1 → gdM (f i) := fun i hi => by
        rw [hf]
        simp only
        split
        · exact gd_O
        · have := hH a i ha hi
          exact gd_CR hn2 hH r i _ _ hi (or_4096 hs (by omega)) (by omega)
      have nf : ∀ i, nzM (f i) := fun i => by
        rw [hf]
        simp only
        split
        · intro _; rfl
        · exact nz_CR _ _ _ _
      have cf : ∀ i, (f i).1 ≤ bdM r := fun i => by
        rw [hf]
        simp only
        split
        · exact Nat.zero_le _
        · exact CR_c hn2 _ _ _ _
      have loop : ∀ j i m', i + j = N.1 → rsM N.1 (mP x (smM f i)) m' → wfr m m' → ∃ M, (∀ d, L205_77 (d + r + 2) 711 (nI a) (nI g) (nI set) (nI sp) (nI i) m' = some (none, M)) ∧ rsM N.1 (mP x (smM f N.1)) M ∧ wfr m M := by
        intro j
        induction j with
        | zero =>
          intro i m' hi hc hw
          have hi : i = N.1 := hi
          subst hi
          refine ⟨m', fun d => ?_, hc, hw⟩
          rw [E205_77 _ _ _ _ _ _ _ sy, (ml_w hw hml).2.1, if_pos (by rw [sp_len (by omega) (by omega)]; exact Nat.le_refl _)]
        | succ j ih2 =>
          intro i m' hi hc hw
          have hi2 : i < N.1 := by omega
          have hml' := ml_w hw hml
          have hh := hH a i ha hi2
          have head : ∀ d, L205_77 (d + r + 2) 711 (nI a) (nI g) (nI set) (nI sp) (nI i) m' = if set.testBit i = true ∨ N.2.2.1 a i = 0 then (L205_77 (d + r + 2) 711 (nI a) (nI g) (nI set) (nI sp) (nI (i + 1)) m') else (lt_cV (lt_ev (d + r + 2) 205 [.inr (.inr (some 711)), .inl (nI i), .inl (nI g), .inl (nI (set ||| 2 ^ i)), .inl (nI (sp + N.2.2.1 a i))] m') (fun m4 => (L205_77 (d + r + 2) 711 (nI a) (nI g) (nI set) (nI sp) (nI (i + 1)) m4))) := fun d => by
            rw [E205_77 _ _ _ _ _ _ _ sy, hml'.2.1, if_neg (by rw [sp_len (by omega) (by omega)]; omega), m207 (d + r + 1) (by omega) (by omega), lt_cI_s, nI_1]
            by_cases ct : set.testBit i = true
            · rw [if_pos ct, if_pos (by decide), if_pos (Or.inl ct)]
            · rw [if_neg ct, if_neg (by decide), m194 (d + r + 1) sy hml' hN ha hi2, lt_cI_s]
              by_cases ch : N.2.2.1 a i = 0
              · rw [if_neg (by rw [ch]; exact fun q => q rfl), if_pos (Or.inr ch)]
              · rw [if_pos (by rw [sp_eq0 (by omega)]; exact ch), m194 (d + r + 1) sy hml' hN ha hi2, lt_cI_s, if_neg (show ¬ (set.testBit i = true ∨ N.2.2.1 a i = 0) from fun q => q.elim ct ch), sp_bit (by omega), sp_orN, nI_add]
          by_cases c : set.testBit i = true ∨ N.2.2.1 a i = 0
          · have ef : f i = mO := by rw [hf]; simp only; rw [if_pos c]
            obtain ⟨M, e2, c2, f2⟩ := ih2 (i + 1) m' (by omega) (by
              show rsM N.1 (mP x (mP (smM f i) (f i))) m'
              rw [ef, mP_O (gd_S fun k hk => gf k (by omega))]
              exact hc) hw
            refine ⟨M, fun d => ?_, c2, f2⟩
            rw [head, if_pos c, e2 d]
          · have ef : f i = CR N.2.2.1 N.1 g r i (set ||| 2 ^ i) (sp + N.2.2.1 a i) := by rw [hf]; simp only; rw [if_neg c]
            have ct : set.testBit i = false := by
              cases q : set.testBit i with
              | false => rfl
              | true => exact absurd (Or.inl q) c
            have hcnt := smM_c (f := f) (c := bdM r) i fun k _ => cf k
            have hmul : (i + 1) * bdM r ≤ 12 * bdM r := Nat.mul_le_mul_right _ (by omega)
            rw [Nat.succ_mul] at hmul
            obtain ⟨M3, e3, c3, f3⟩ := ih i (set ||| 2 ^ i) (sp + N.2.2.1 a i) (mP x (smM f i)) m' (by omega) hi2 (or_4096 hs (by omega)) (by rw [pcN_or (by omega) ct, hpc]; omega) (by omega) (gd_P hx (gd_S fun k hk => gf k (by omega))) (nz_P hz (nz_S fun k _ => nf k)) (by
              show x.1 + (smM f i).1 + bdM r ≤ _
              omega) hc hml'
            obtain ⟨M, e2, c2, f2⟩ := ih2 (i + 1) M3 (by omega) (by
              show rsM N.1 (mP x (mP (smM f i) (f i))) M3
              rw [ef, ← mP_as]
              exact c3) (wfr_tr hw f3)
            refine ⟨M, fun d => ?_, c2, f2⟩
            rw [head, if_neg c, e3 d, lt_cV_s, e2 d]
      obtain ⟨M, e2, c2, f2⟩ := loop N.1 0 m (by omega) (by rw [show smM f 0 = mO from rfl, mP_O hx]; exact hrs) (wfr_rf m)
      refine ⟨M, fun d => ?_, ?_, f2⟩
      · refine (E205 (d + (r + 1) + 1) 711 _ _ _ _ sy m).trans ?_
        rw [if_pos (by rw [sp_eqn (by omega) (by omega)]; exact e), m206 (d + (r + 1)) (by omega), lt_cI_s, hpc, if_pos (by rw [q_8, sp_eqn (by omega) (by omega)]; omega)]
        have := e2 d
        rw [nI_0] at this
        rw [show d + (r + 1) + 1 = d + r + 2 by omega]
        exact this
      · have hCR : CR N.2.2.1 N.1 g (r + 1) a set sp = smM f N.1 := by
          rw [hf, CR, if_neg e]
        rw [hCR]
        exact c2
end FO

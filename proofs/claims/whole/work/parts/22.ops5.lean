/-! ===== tightest, book, count ===== -/
def tgN (w : Nat → Nat) (t : Nat) : Nat := if w (4 + 2 * t) = 0 then 0 else 1000 * w_used w t / w (4 + 2 * t)
def tgt (w : Nat → Nat) : Nat → Option (Nat × Nat)
  | 0 => none
  | n + 1 => match tgt w n with
    | none => some (n, tgN w n)
    | some p => if tgN w n ≤ p.2 then some p else some (n, tgN w n)
def tgI (z : Int32) : Option (Nat × Nat) → Int32
  | none => z
  | some p => nI p.1
def tgJ (z : Int32) : Option (Nat × Nat) → Int32
  | none => z
  | some p => nI p.2
def tgL : Option (Nat × Nat) → Int64
  | none => 0
  | some p => lN p.2
theorem tgt_b {w : Nat → Nat} {N : NT} (hw : wfL N w) : ∀ n, n ≤ w 1 → (∀ t, t < n → tgN w t ≤ 1000) ∧ ∀ p, tgt w n = some p → p.1 < n ∧ p.2 ≤ 1000 := by
  intro n
  have hb : ∀ t, t < w 1 → tgN w t ≤ 1000 := by
    intro t ht
    unfold tgN
    split
    · omega
    · have := (hw.2.2.2.2.1 t ht).2.2
      have := Nat.div_le_div_right (c := w (4 + 2 * t)) (Nat.mul_le_mul_left 1000 this)
      rw [Nat.mul_div_cancel _ (by omega)] at this
      exact this
  induction n with
  | zero => intro _; exact ⟨fun t h => by omega, fun p h => by cases h⟩
  | succ n ih =>
    intro hn
    obtain ⟨i1, i2⟩ := ih (by omega)
    refine ⟨fun t ht => hb t (by omega), fun p hp => ?_⟩
    simp only [tgt] at hp
    cases hq : tgt w n with
    | none => rw [hq] at hp; cases hp; exact ⟨Nat.lt_succ_self n, hb n (by omega)⟩
    | some q =>
      rw [hq] at hp
      simp only at hp
      obtain ⟨j1, j2⟩ := i2 q hq
      split at hp
      · cases hp; exact ⟨by omega, j2⟩
      · cases hp; exact ⟨Nat.lt_succ_self n, hb n (by omega)⟩
section OPS
variable {dist wl : NT → Nat → Nat → Nat} {N : NT} {w : Nat → Nat} {T : Nat} {m : lt_m} {vs us : List Int32}
theorem op_tightest (d : Nat) (hr : RR dist wl T m) : OP dist wl d T T 162 265 [] m := by
  have hr0 := hr
  obtain ⟨N, w, vs, hs, hl, hc, hm⟩ := hr
  have hN := hs.wfN
  have hw := hs.wfL
  have h6 := hw.2.1
  obtain ⟨M2, R1, e2, hs2, hz, f1, hz1, hR⟩ := tell1 hs (tgJ (-1) (tgt w (w 1)))
  have cls : ∀ K, (if ¬ tgI (-1) (tgt w (w 1)) = (-1 : Int32) then (lt_cV (lt_ev (d + 29) 75 [.inr (.inr (some 0)), .inl (tgJ (-1) (tgt w (w 1)))] m) (fun m1 => (some (some (.inl (tgI (-1) (tgt w (w 1)))), m1)))) else (some (some (.inl (-2 : Int32)), m))) = K → lt_ev (d + 30) 162 [.inr (.inr (some 0))] m = K := by
    intro K hK
    refine (E162 (d + 29) 0 sx m).trans ?_
    refine lp_it (F := fun n (o : Option ts_V × Option ts_V) => L162_6 (d + 29) 0 (tgI (-1) (tgt w n)) (tgJ (-1) (tgt w n)) (nI n) o.1 o.2 m) (w 1) ?_ ?_ (none, none)
    · intro n o hn
      obtain ⟨i1, i2⟩ := tgt_b hw (n + 1) hn
      have b1 := i1 n (Nat.lt_succ_self n)
      obtain ⟨-, k2⟩ := tgt_b hw n (by omega)
      refine ⟨(some (.inl (nI (w (4 + 2 * n)))), some (.inl (nI (tgN w n)))), ?_⟩
      have hx : ∀ (x4 : Int32) (o5 : Option ts_V), L162_51 (d + 29) 0 (tgI (-1) (tgt w n)) (tgJ (-1) (tgt w n)) (nI n) x4 o5 (nI (tgN w n)) m = L162_6 (d + 29) 0 (tgI (-1) (tgt w (n + 1))) (tgJ (-1) (tgt w (n + 1))) (nI (n + 1)) (some (.inl x4)) (some (.inl (nI (tgN w n)))) m := by
        intro x4 o5
        rw [E162_51, nI_1]
        simp only [tgt]
        cases hq : tgt w n with
        | none =>
          rw [if_neg]
          · rfl
          · show ¬ nI (tgN w n) ≤ -1
            rw [Int32.le_iff_toInt_le, nI_toInt (by omega), show (-1 : Int32).toInt = -1 by decide]; omega
        | some q =>
          have hq2 := k2 q hq
          show (if nI (tgN w n) ≤ nI q.2 then _ else _) = _
          simp (disch := omega) only [sp_len]
          by_cases c : tgN w n ≤ q.2
          · rw [if_pos c, if_pos c]
          · rw [if_neg c, if_neg c]; rfl
      rw [E162_6 _ _ _ _ _ _ _ sx, hs.cl.2.1]
      have hsm := (hw.2.2.2.2.1 n hn)
      simp (disch := omega) only [sp_len]
      rw [if_neg (by omega), p94 (d + 27) _ _ sL m, lt_cI_s, c94 hs.cl hw hn]
      by_cases c : w (4 + 2 * n) = 0
      · rw [if_neg (by rw [c]; decide)]
        have := hx (nI (w (4 + 2 * n))) o.2
        rw [show nI (tgN w n) = 0 by unfold tgN; rw [if_pos c]; rfl] at this
        rw [this, show nI (tgN w n) = 0 by unfold tgN; rw [if_pos c]; rfl]
      · have hne : ¬ nI (w (4 + 2 * n)) = (0 : Int32) := by rw [sp_eq0 (by omega)]; exact c
        rw [if_pos hne, k91 (d + 27) sL hs.cl hw (by omega), lt_cI_s, lt_gd_t hne, show (1000 : Int32) = nI 1000 from rfl, pk_mul, pk_div (by omega) (by omega) (by omega)]
        have := hx (nI (w (4 + 2 * n))) o.2
        rw [show tgN w n = 1000 * w_used w n / w (4 + 2 * n) by unfold tgN; rw [if_neg c]] at this ⊢
        exact this
    · intro o
      rw [E162_6 _ _ _ _ _ _ _ sx, hs.cl.2.1, if_pos (by rw [sp_len (by omega) (by omega)]; exact Nat.le_refl _)]
      exact hK
  have ref : ∀ (M : lt_m) (hM : RS dist wl N w T M) (K : Option lt_r), (if ¬ tgI (-2) (tgt w (w 1)) = (-2 : Int32) then (lt_cV (lt_ev (d + 29) 202 [.inr (.inr (some 711)), .inr (.inl (tgL (tgt w (w 1))))] (lm_i (lm_i M 711 15 0) 711 14 0)) (fun m1 => (some (some (.inl (tgI (-2) (tgt w (w 1)))), m1)))) else (some (some (.inl (-2 : Int32)), lm_i M 711 15 0))) = K → lt_ev (d + 30) 265 [.inr (.inr (some 711))] M = K := by
    intro M hM K hK
    have h := hM.t0.ml
    refine (E265 (d + 29) 711 sy M).trans ?_
    have g1 : (0 : Int32) ≤ 1 ∧ (1 : Int32).toNatClampNeg < 626 := by decide
    have w1 : (lm_i M 711 15 0).1 (711 + 1) (1 : Int32).toNatClampNeg = nI (w 1) := by rw [show (1 : Int32).toNatClampNeg = 1 by decide]; exact h.1 1 (by omega)
    refine lp_it (F := fun n (o : Option ts_V) => L265_13 (d + 29) 711 (tgI (-2) (tgt w n)) (tgL (tgt w n)) (nI n) o (lm_i M 711 15 0)) (w 1) ?_ ?_ none
    · intro n o hn
      obtain ⟨i1, i2⟩ := tgt_b hw (n + 1) hn
      have b1 := i1 n (Nat.lt_succ_self n)
      obtain ⟨-, k2⟩ := tgt_b hw n (by omega)
      refine ⟨some (.inr (.inl (lN (tgN w n)))), ?_⟩
      have hx : ∀ (o5 : Option ts_V), L265_56 (d + 29) 711 (tgI (-2) (tgt w n)) (tgL (tgt w n)) (nI n) o5 (lN (tgN w n)) (lm_i M 711 15 0) = L265_13 (d + 29) 711 (tgI (-2) (tgt w (n + 1))) (tgL (tgt w (n + 1))) (nI (n + 1)) (some (.inr (.inl (lN (tgN w n))))) (lm_i M 711 15 0) := by
        intro o5
        rw [E265_56, nI_1]
        simp only [tgt]
        cases hq : tgt w n with
        | none => rw [if_pos (show tgI (-2) none = (-2 : Int32) from rfl)]; rfl
        | some q =>
          have hq2 := k2 q hq
          rw [if_neg (by show ¬ nI q.1 = -2; rw [sp_m2 (by omega)]; exact id)]
          simp only
          have hcmp : (0 < lg_cmp (lN (tgN w n)) (tgL (some q))) ↔ q.2 < tgN w n := by
            rw [sp_cmp_gt]
            show (lN q.2).toInt < _ ↔ _
            rw [lN_toInt (by omega), lN_toInt (by omega)]; omega
          by_cases c : tgN w n ≤ q.2
          · rw [if_neg (by rw [hcmp]; omega), if_pos c]
          · rw [if_pos (by rw [hcmp]; omega), if_neg c]; rfl
      have hsm := (hw.2.2.2.2.1 n hn)
      rw [E265_13 _ _ _ _ _ _ sy, lt_gd_t g1, w1]
      simp (disch := omega) only [sp_len]
      rw [if_neg (by omega), m217 (d + 28) sy h (by omega), lt_cI_s]
      by_cases c : w (4 + 2 * n) = 0
      · rw [if_neg (by rw [c]; decide)]
        have := hx o
        rw [show lN (tgN w n) = 0 by unfold tgN; rw [if_pos c]; rfl] at this
        rw [this, show lN (tgN w n) = 0 by unfold tgN; rw [if_pos c]; rfl]
      · have hne : ¬ nI (w (4 + 2 * n)) = (0 : Int32) := by rw [sp_eq0 (by omega)]; exact c
        have hne2 : ¬ (nI (w (4 + 2 * n))).toInt64 = 0 := by
          rw [nI_l (by omega)]
          intro q
          have := (pk_lEQ (a := w (4 + 2 * n)) (b := 0) (by omega) (by omega)).mp q
          exact c this
        rw [if_pos hne, m214 (d + 25) sy h hw (by omega), lt_cI_s, m217 (d + 28) sy h (by omega), lt_cI_s, lt_gd_t hne2, nI_l (by omega), nI_l (by omega), show (1000 : Int64) = lN 1000 from rfl, lN_mul, pk_lDiv (by omega) (by omega) (by omega)]
        have := hx o
        rw [show tgN w n = 1000 * w_used w n / w (4 + 2 * n) by unfold tgN; rw [if_neg c]] at this ⊢
        exact this
    · intro o
      rw [E265_13 _ _ _ _ _ _ sy, lt_gd_t g1, w1, if_pos (by rw [sp_len (by omega) (by omega)]; exact Nat.le_refl _)]
      exact hK
  cases hb : tgt w (w 1) with
  | none =>
    refine OP_q (.inl (-2)) hr0 (cls _ ?_) (ref m hs _ ?_)
    · rw [hb, if_neg (by simp [tgI])]
    · rw [hb, if_neg (by simp [tgI])]
  | some p =>
    obtain ⟨b1, b2⟩ := (tgt_b hw (w 1) (Nat.le_refl _)).2 p hb
    refine ⟨.inl (nI p.1), M2, R1, cls _ ?_, ref M2 hs2 _ ?_, hR⟩
    · rw [hb] at e2
      rw [hb, if_pos (by show ¬ nI p.1 = -1; rw [sp_m1 (by omega)]; exact id), e2, lt_cV_s]; rfl
    · rw [hb] at f1
      have e : (tgJ (-1) (some p)).toInt64 = tgL (some p) := nI_l (by omega)
      rw [e] at f1
      rw [hb, if_pos (by show ¬ nI p.1 = -2; rw [sp_m2 (by omega)]; exact id), f1, lt_cV_s]; rfl
/-- book -/
theorem op_book (d : Nat) (hT : T < 2 ^ 30) (hr : RR dist wl T m) (x y : Int32) : OP dist wl d T T 163 266 [.inl x, .inl y] m := by
  have hr0 := hr
  obtain ⟨N, w, vs, hs, hl, hc, hm⟩ := hr
  have hw := hs.wfL
  have h30 := hw.2.2.2.1
  obtain ⟨tot, t1, t2, t3, t4⟩ := hs.2.2.1.2.1
  have h := hs.t0.ml
  have s0 : ts_sh (0 + 13 + 4) = (0, 0) := sf_of sL 3 (by decide) (by decide)
  have g3 : (0 : Int32) ≤ 3 ∧ (3 : Int32).toNatClampNeg < 626 := by decide
  have w3 : (lm_i m 711 15 0).1 (711 + 1) (3 : Int32).toNatClampNeg = nI (w 3) := by rw [show (3 : Int32).toNatClampNeg = 3 by decide]; exact h.1 3 (by omega)
  have t2' : m.1 (0 + 13 + 4) 3 = nI tot := t2
  have hv : v165 m (0 + 13 + 4) = nI (w 3) := by unfold v165; rw [t2', q_30, sp_min (by omega) (by omega), t3]
  have hsub : (nI (w 3) - 1).toInt64.toInt = (w 3 : Int) - 1 := by
    rw [sp_tt, q_1, pk_sub_toInt (by omega) (by omega)]; rfl
  have hcl : lt_ev (d + 30) 163 [.inr (.inr (some 0)), .inl x, .inl y] m = _ := E163 (d + 29) 0 x y sx m
  rw [E164 (d + 28) _ _ _ s0] at hcl
  have hml : lt_ev (d + 30) 266 [.inr (.inr (some 711)), .inl x, .inl y] m = _ := E266 (d + 29) 711 x y sy m
  rw [lt_gd_t g3, w3, k181 (d + 28), lt_cI_s, sp_tt, hsub, show (0 : Int64).toInt = 0 by decide] at hml
  have big : (x < 0 ∨ nI (w 3) ≤ x) → OP dist wl d T T 163 266 [.inl x, .inl y] m := by
    intro hx
    refine OP_q (.inl (-1)) hr0 (hcl.trans ?_) (hml.trans ?_)
    · by_cases c : x < 0
      · rw [if_pos c, lt_cI_s]
      · have hx2 := hx.resolve_left c
        rw [if_neg c, p165 (d + 27) _ s0, lt_cI_s, hv, if_neg (by rw [Int32.lt_iff_toInt_lt]; rw [Int32.le_iff_toInt_le] at hx2; omega), lt_cI_s]
    · rw [if_pos]
      rw [if_neg]
      rcases hx with h | h
      · rw [Int32.lt_iff_toInt_lt, Int32.toInt_zero] at h; omega
      · rw [Int32.le_iff_toInt_le, nI_toInt (by omega)] at h; omega
  rcases pk_ix x (n := w 3) (by omega) with c | c | ⟨j, hj, rfl⟩
  · exact big (Or.inl c)
  · exact big (Or.inr c)
  · have b1 := t4 j hj
    have e1 : nI (w 3) - (1 : Int32) - nI j = nI (w 3 - 1 - j) := by rw [q_1, pk_sub (by omega), pk_sub (by omega)]
    have e3 : nI tot - (1 : Int32) - nI j = nI (tot - 1 - j) := by rw [q_1, pk_sub (by omega), pk_sub (by omega)]
    have e4 : (nI (tot - 1 - j) - nI (tot - 1 - j) / (30 : Int32) * (30 : Int32)) = nI ((tot - 1 - j) % 30) := by rw [q_30, pk_rem (by omega) (by decide) (by decide)]
    have hmod : (tot - 1 - j) % 30 < 30 := Nat.mod_lt _ (by decide)
    rw [if_neg (nI_pos (by omega)), p165 (d + 27) _ s0, lt_cI_s, hv, if_pos (by rw [sp_ltn (by omega) (by omega)]; exact hj)] at hcl
    rw [t2', e3, e4] at hcl
    rw [if_pos (show 0 ≤ (nI j).toInt ∧ (nI j).toInt ≤ (w 3 : Int) - 1 by rw [nI_toInt (by omega)]; omega), if_neg (by decide)] at hml
    rcases pk_ix y (n := 3) (by decide) with c | c | ⟨k, hk, rfl⟩
    · rw [lt_sw_o (n := 3) rfl (by decide) (Or.inl c), lt_cI_s] at hcl
      rw [m181_f (d + 28) (n := 2) (by decide) (Or.inl c) (by decide), lt_cI_s, if_pos rfl] at hml
      exact OP_q _ hr0 hcl hml
    · rw [lt_sw_o (n := 3) rfl (by decide) (Or.inr c), lt_cI_s] at hcl
      rw [m181_f (d + 28) (n := 2) (by decide) (Or.inr c) (by decide), lt_cI_s, if_pos rfl] at hml
      exact OP_q _ hr0 hcl hml
    · rw [m181_t (d + 28) (n := 2) (by omega) (by decide) (by decide), lt_cI_s, if_neg (by decide), lt_gd_t g3, w3, e1, q_3, pk_mul, show (536 : Int32) = nI 536 from rfl, nI_add, nI_add, lt_gd_t (sp_gd (by omega) (by omega)), nI_clamp (by omega), h.1 _ (by omega)] at hml
      rw [lt_sw_n (by simp) (by simp; omega)] at hcl
      have hk3 : k = 0 ∨ k = 1 ∨ k = 2 := by omega
      rcases hk3 with rfl | rfl | rfl
      · refine OP_q _ hr0 (hcl.trans ?_) hml
        show lt_cI (lt_cI (lt_ev (d + 28) 16 _ m) _) _ = _
        rw [p16 (d + 27) (0 + 13 + 4 + 1) 30 _ (sf_of s0 0 (by decide) (by decide)) m, lt_cI_s, lt_cI_s, c16 hmod (by decide)]
        rw [show m.1 (0 + 13 + 4 + 1) ((tot - 1 - j) % 30) = nI (w (536 + 3 * (w 3 - 1 - j))) from b1.1]
        rfl
      · refine OP_q _ hr0 (hcl.trans ?_) hml
        show lt_cI (lt_cI (lt_ev (d + 28) 16 _ m) _) _ = _
        rw [p16 (d + 27) (0 + 13 + 4 + 2) 30 _ (sf_of s0 1 (by decide) (by decide)) m, lt_cI_s, lt_cI_s, c16 hmod (by decide)]
        rw [show m.1 (0 + 13 + 4 + 2) ((tot - 1 - j) % 30) = nI (w (537 + 3 * (w 3 - 1 - j))) from b1.2.1, show 537 + 3 * (w 3 - 1 - j) = 536 + 3 * (w 3 - 1 - j) + 1 by omega]
      · refine OP_q _ hr0 (hcl.trans ?_) hml
        show lt_cI (lt_cI (lt_ev (d + 28) 16 _ m) _) _ = _
        rw [p16 (d + 27) (0 + 13 + 4 + 3) 30 _ (sf_of s0 2 (by decide) (by decide)) m, lt_cI_s, lt_cI_s, c16 hmod (by decide)]
        rw [show m.1 (0 + 13 + 4 + 3) ((tot - 1 - j) % 30) = nI (w (538 + 3 * (w 3 - 1 - j))) from b1.2.2, show 538 + 3 * (w 3 - 1 - j) = 536 + 3 * (w 3 - 1 - j) + 2 by omega]
theorem ss_ {a b : Int32} {m : lt_m} (h : a = b) : (some (some (.inl a), m) : Option lt_r) = some (some (.inl b), m) := by rw [h]
/-- count -/
theorem op_count (d : Nat) (hT : T < 2 ^ 30) (hr : RR dist wl T m) (x : Int32) : OP dist wl d T T 173 273 [.inl x] m := by
  have hr0 := hr
  obtain ⟨N, w, vs, hs, hl, hc, hm⟩ := hr
  have hw := hs.wfL
  have h30 := hw.2.2.2.1
  have h := hs.t0.ml
  have hR := hs.nR
  have hsA := hs.sA
  have hcc := hs.cl
  have hs0 := hs
  obtain ⟨⟨A, B, hnet⟩, ⟨tx, tk, ht⟩, ⟨-, ⟨tot, t1, t2, t3, t4⟩, -⟩, -, ⟨D, ll, pw, kb, kw, hh⟩⟩ := hs0
  have hcl : lt_ev (d + 30) 173 [.inr (.inr (some 0)), .inl x] m = _ := E173 (d + 29) 0 x sx m
  have hml : lt_ev (d + 30) 273 [.inr (.inr (some 711)), .inl x] m = _ := E273 (d + 29) 711 x sy m
  rcases pk_ix x (n := 11) (by decide) with c | c | ⟨k, hk, rfl⟩
  · rw [lt_sw_o (n := 11) rfl (by decide) (Or.inl c)] at hcl hml
    exact OP_q _ hr0 hcl hml
  · rw [lt_sw_o (n := 11) rfl (by decide) (Or.inr c)] at hcl hml
    exact OP_q _ hr0 hcl hml
  · rw [lt_sw_n (by simp) (by simp; omega)] at hcl hml
    have w0 : (lm_i m 711 15 0).1 (711 + 1) (0 : Int32).toNatClampNeg = nI (w 0) := h.1 0 (by omega)
    have w1 : (lm_i m 711 15 0).1 (711 + 1) (1 : Int32).toNatClampNeg = nI (w 1) := by rw [show (1 : Int32).toNatClampNeg = 1 by decide]; exact h.1 1 (by omega)
    have w3 : (lm_i m 711 15 0).1 (711 + 1) (3 : Int32).toNatClampNeg = nI (w 3) := by rw [show (3 : Int32).toNatClampNeg = 3 by decide]; exact h.1 3 (by omega)
    have w711 : ∀ j, j ≠ 15 → (lm_i m 711 15 0).1 711 j = m.1 711 j := fun j hj => lm_i_ns (by omega)
    have hk3 : k = 0 ∨ k = 1 ∨ k = 2 ∨ k = 3 ∨ k = 4 ∨ k = 5 ∨ k = 6 ∨ k = 7 ∨ k = 8 ∨ k = 9 ∨ k = 10 := by omega
    rcases hk3 with rfl | rfl | rfl | rfl | rfl | rfl | rfl | rfl | rfl | rfl | rfl
    · exact OP_q (.inl (nI (w 0))) hr0 (hcl.trans (ss_ (show (m.1 (0 + 13) 4) = _ by rw [hcc.1]))) (hml.trans ((lt_gd_t (by decide)).trans (by rw [w0])))
    · exact OP_q (.inl (nI N.1)) hr0 (hcl.trans ((lt_gd_t hsA).trans (by rw [hR.1]))) (hml.trans (ss_ (show ((lm_i m 711 15 0).1 711 8) = _ by rw [h.2.1])))
    · exact OP_q (.inl (m.1 m.2.2.1 7)) hr0 (hcl.trans (lt_gd_t hsA)) (hml.trans (ss_ (show ((lm_i m 711 15 0).1 711 9) = _ by rw [w711 9 (by decide), ← hnet.2.2.2.2.2.1, hnet.1])))
    · exact OP_q (.inl (nI N.2.1)) hr0 (hcl.trans ((lt_gd_t hsA).trans (by rw [hR.2.1]))) (hml.trans (ss_ (show ((lm_i m 711 15 0).1 711 10) = _ by rw [h.2.2.1])))
    · exact OP_q (.inl (nI (w 1))) hr0 (hcl.trans (ss_ (show (m.1 (0 + 13) 5) = _ by rw [hcc.2.1]))) (hml.trans ((lt_gd_t (by decide)).trans (by rw [w1])))
    · exact OP_q (.inl (nI (w 2))) hr0 (hcl.trans (ss_ (show (m.1 (0 + 13) 6) = _ by rw [hcc.2.2.1]))) (hml.trans ((lt_gd_t (by decide)).trans (by rw [w2_at h])))
    · exact OP_q (.inl (nI D)) hr0 (hcl.trans (ss_ (show (m.1 81 4) = _ by rw [hh.2.2.1]))) (hml.trans (ss_ (show ((lm_i m 711 15 0).1 711 4) = _ by rw [w711 4 (by decide), hh.2.2.2.1])))
    · refine OP_q (.inl (nI (w 3))) hr0 (hcl.trans ?_) (hml.trans ((lt_gd_t (by decide)).trans (by rw [w3])))
      show lt_cI (lt_ev (d + 29) 165 [.inr (.inr (some (0 + 13 + 4)))] m) _ = _
      rw [p165 (d + 28) (0 + 13 + 4) (sf_of sL 3 (by decide) (by decide)) m, lt_cI_s]
      unfold v165
      rw [show m.1 (0 + 13 + 4) 3 = nI tot from t2, q_30, sp_min (by omega) (by omega), t3]
    · refine OP_q (.inl (nI vs.length)) hr0 (hcl.trans ?_) (hml.trans (ss_ (show ((lm_i m 711 15 0).1 711 14) = _ by rw [w711 14 (by decide), hm.1])))
      show lt_cI (lt_ev (d + 29) 174 [.inr (.inr (some (0 + 4)))] m) _ = _
      rw [p174 (d + 28) (0 + 4) (sf_of sx 1 (by decide) (by decide)) m, lt_cI_s]
      unfold v174
      rw [show m.1 (0 + 4) 1 = nI vs.length from hc.1]
    · refine OP_q (.inl (nI tk)) hr0 (hcl.trans ?_) (hml.trans (ss_ (show ((lm_i m 711 15 0).1 711 12) = _ by rw [w711 12 (by decide), ht.2.2.1])))
      show lt_cI (lt_ev (d + 29) 27 [.inr (.inr (some (0 + 1 + 1)))] m) _ = _
      rw [p27 (d + 28) (0 + 1 + 1) (sf_of (sf_of sx 0 (by decide) (by decide)) 0 (by decide) (by decide)) m, lt_cI_s]
      unfold v27
      rw [show m.1 (0 + 1 + 1) 1 = nI tk from ht.2.1]
    · refine OP_q (.inl (nI (w_broken w))) hr0 (hcl.trans ?_) (hml.trans ?_)
      · show lt_cI (lt_ev (d + 29) 118 [.inr (.inr (some (0 + 13)))] m) _ = _
        rw [k118 (d + 28) sL hcc hw, lt_cI_s]
      · show lt_cI (lt_ev (d + 29) 233 [.inr (.inr (some 711))] (lm_i m 711 15 0)) _ = _
        rw [m233 (d + 27) sy h hw, lt_cI_s]
end OPS

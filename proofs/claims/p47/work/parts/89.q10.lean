/-! ===== holds: states and traders ===== -/
theorem sumN_one {c v : Nat} : ∀ k, sumN (fun t => if c = t then v else 0) k = if c < k then v else 0 := by
  intro k
  induction k with
  | zero => rfl
  | succ k ih =>
    simp only [sumN, ih]
    by_cases h1 : c < k
    · rw [if_pos h1, if_neg (by omega), if_pos (by omega), Nat.add_zero]
    · by_cases h2 : c = k
      · rw [if_neg h1, if_pos h2, if_pos (by omega), Nat.zero_add]
      · rw [if_neg h1, if_neg h2, if_neg (by omega)]
theorem sumN_part {c f : Nat → Nat} {k : Nat} : ∀ n, (∀ i, i < n → c i < k) → sumN (fun t => sumN (fun i => if c i = t then f i else 0) n) k = sumN f n := by
  intro n
  induction n with
  | zero => intro _; exact sumN_zero fun _ _ => rfl
  | succ n ih =>
    intro h
    simp only [sumN]
    rw [sumN_add, ih (fun i hi => h i (by omega)), sumN_one, if_pos (h n (by omega))]
section HOLDS
variable {T : Nat} {S : ST}
theorem used_all {N : NT} {w : Nat → Nat} (hw : wfL N w) : sumN (fun t => w_used w t) (w 1) = sumN (fun i => if w_st w i < 6 ∧ w_open w i = true then w_sh w i else 0) (w 2) := by
  have e : sumN (fun t => w_used w t) (w 1) = sumN (fun t => sumN (fun i => if w_of w i = t then (if w_open w i = true then w_sh w i else 0) else 0) (w 2)) (w 1) := sumN_congr fun t ht => sumN_congr fun i hi => by
    by_cases c : w_of w i = t <;> simp [c]
  rw [e, sumN_part (c := fun i => w_of w i) (w 2) (fun i hi => (hw.2.2.2.2.2 i hi).1)]
  exact sumN_congr fun i hi => by
    have := wf_st hw hi
    simp [show w_st w i < 6 by omega]
theorem debts_all {N : NT} {w : Nat → Nat} (hw : wfL N w) : sumN (fun t => w_debts w t 4) (w 1) = sumN (fun i => if w_st w i = 4 then w_db w i else 0) (w 2) := by
  have e : sumN (fun t => w_debts w t 4) (w 1) = sumN (fun t => sumN (fun i => if w_of w i = t then (if w_st w i = 4 then w_db w i else 0) else 0) (w 2)) (w 1) := sumN_congr fun t ht => sumN_congr fun i hi => by
    by_cases c : w_of w i = t <;> simp [c]
  rw [e, sumN_part (c := fun i => w_of w i) (w 2) (fun i hi => (hw.2.2.2.2.2 i hi).1)]
theorem owed_all {N : NT} {w : Nat → Nat} (hN : wfN N) (hw : wfL N w) : sumN (fun t => owN N w t 4) 6 = sumN (fun i => if w_st w i = 4 then w_db w i else 0) (w 2) := by
  have e : sumN (fun t => owN N w t 4) 6 = sumN (fun t => sumN (fun i => if N.2.2.2.1 (w_seen w i) = t then (if w_st w i = 4 then w_db w i else 0) else 0) (w 2)) 6 := sumN_congr fun t ht => sumN_congr fun i hi => by
    by_cases c : N.2.2.2.1 (w_seen w i) = t
    · by_cases c4 : w_st w i = 4
      · simp [c, c4]
      · simp [c4]
    · simp [c]
  rw [e, sumN_part (c := fun i => N.2.2.2.1 (w_seen w i)) (w 2) (fun i hi => by
    obtain ⟨g1, g2, g3, g4⟩ := wf_sp hw hi
    have hse : w_seen w i < N.1 := wf_rt hw hi (by omega)
    have hco : N.2.2.2.1 (w_seen w i) ≤ 5 := hN.2.2.2.2.2.2.1 _ hse
    show N.2.2.2.1 (w_seen w i) < 6
    omega)]
theorem debts_le {N : NT} {w : Nat → Nat} (hw : wfL N w) {t st : Nat} : w_debts w t st ≤ 40000000 := by
  have h20 := hw.2.2.1
  have := sumN_bound (n := w 2) (c := 2000000) (f := fun i => if w_of w i = t ∧ w_st w i = st then w_db w i else 0) (fun i hi => by
    have := (hw.2.2.2.2.2 i hi).2.2.2.2.2.2.2.2.2.2.2.2.1.1
    split <;> omega)
  have h2 : w 2 * 2000000 ≤ 20 * 2000000 := Nat.mul_le_mul_right _ h20
  exact Nat.le_trans this h2
theorem owN_le {N : NT} {w : Nat → Nat} (hw : wfL N w) {t st : Nat} : owN N w t st ≤ 40000000 := by
  have h20 := hw.2.2.1
  have := sumN_bound (n := w 2) (c := 2000000) (f := fun i => if 4 ≤ w_st w i ∧ N.2.2.2.1 (w_seen w i) = t then (if w_st w i = st then w_db w i else 0) else 0) (fun i hi => by
    have := (hw.2.2.2.2.2 i hi).2.2.2.2.2.2.2.2.2.2.2.2.1.1
    split
    · split <;> omega
    · omega)
  have h2 : w 2 * 2000000 ≤ 20 * 2000000 := Nat.mul_le_mul_right _ h20
  exact Nat.le_trans this h2
theorem h_trd (d : Nat) (hw : wfL S.N S.w) (hN : wfN S.N) (hg : 0 < S.N.2.1) (hJ : lwJ S.w) {x4 : Int32} : ∀ n t vs m o11 o12 o14, t + n = S.w 1 → cP T S vs m → hR T S (L177_156 (d + 12) 0 (nI (S.w 1)) (nI (S.w 2)) (nI (S.w 0)) x4 (nI (sumN (fun t => w_used S.w t) (S.w 1))) (nI (sumN (fun t => w_used S.w t) t)) (nI (sumN (fun t => w_debts S.w t 4) (S.w 1))) (nI (sumN (fun t => w_debts S.w t 4) t)) (nI (bitsN (w_late S.N S.w) (S.w 2))) (nI t) o11 o12 o14 m) := by
  have h6 := hw.2.1
  intro n
  induction n with
  | zero =>
    intro t vs m o11 o12 o14 ht h
    have ht : t = S.w 1 := ht
    rw [E177_156 _ _ _ _ _ _ _ _ _ _ _ _ _ _ _ sx, if_pos (by rw [sp_len (by omega) (by omega)]; omega), ht, if_neg (fun q => q rfl), if_pos rfl]
    exact h_moves d hw hN hJ (S.w 2) 0 vs m _ _ _ _ _ _ _ _ (Nat.zero_add _) h
  | succ n ih =>
    intro t vs m o11 o12 o14 htn h
    have ht : t < S.w 1 := by omega
    have bt := hw.2.2.2.2.1 t ht
    have bdb := debts_le hw (t := t) (st := 4)
    rw [E177_156 _ _ _ _ _ _ _ _ _ _ _ _ _ _ _ sx, if_neg (by rw [sp_len (by omega) (by omega)]; omega)]
    obtain ⟨m1, e1, h1⟩ := q_inUse d h ht
    have r0 : lt_ev (d + 12) 175 [.inr (.inr (some 0)), .inl (0 : Int32)] m1 = some (some (.inr (.inl (nI (S.w (4 + 2 * t))).toInt64)), m1) := q_row d h1 (j := 0) rfl
    have r2 : lt_ev (d + 12) 175 [.inr (.inr (some 0)), .inl (2 : Int32)] m1 = some (some (.inr (.inl (nI (S.w (4 + 2 * t) - w_used S.w t)).toInt64)), m1) := q_row d h1 (j := 2) rfl
    obtain ⟨F, hF⟩ : ∃ F, F = S.w (4 + 2 * t) - w_used S.w t := ⟨_, rfl⟩
    obtain ⟨m2, e2, h2⟩ := q_owes d h1 ht
    obtain ⟨m3, e3, h3⟩ := q_can d h2 ht hg
    have e3' : lt_ev (d + 12) 147 [.inr (.inr (some 0)), .inl (nI t), .inl (0 : Int32)] m2 = some (some (.inl (nI (canN S.N S.w t 0))), m3) := e3
    have hcan := (can_in hN hw ht hg (canN_le (t := t) (g := 0))).mpr (Nat.le_refl _)
    have bcan : canN S.N S.w t 0 ≤ 999 := canN_le
    have r3 : lt_ev (d + 12) 175 [.inr (.inr (some 0)), .inl (0 : Int32)] m3 = some (some (.inr (.inl (nI (shN (canN S.N S.w t 0 * S.N.2.2.2.2 0) (S.w (5 + 2 * t)))).toInt64)), m3) := q_row d h3 (j := 0) rfl
    obtain ⟨m4, e4, h4⟩ := q_frees d h3 ht
    have r4 : lt_ev (d + 12) 175 [.inr (.inr (some 0)), .inl (0 : Int32)] m4 = some (some (.inr (.inl (nI 0).toInt64)), m4) := q_row d h4 (j := 0) rfl
    have e5 := q_when d h4 ht
    rw [← hF] at r2 e4 e5 hcan
    rw [e1, lt_cI_s, r0, lt_cL_s, if_neg (by rw [cl_gtn (by omega) (by omega)]; omega), r2, lt_cL_s, r0, lt_cL_s, sub64 bt.2.2 (by omega), ← hF, if_pos ((cl_eq0 _ _).mpr rfl), r2, lt_cL_s, e2, lt_cI_s, e3', lt_cI_s, r3, lt_cL_s, if_pos (by rw [cl_len (by omega) (by omega)]; exact hcan), if_neg (nI_pos (by omega)), to32, e4, lt_cI_s, if_neg (fun q => q rfl), r4, lt_cL_s, if_neg (fun q => q (by decide)), e5, lt_cI_s, if_pos rfl, nI_add, nI_add, nI_1]
    exact ih (t + 1) _ _ _ _ _ (by omega) h4
theorem h_sts (d : Nat) (hw : wfL S.N S.w) (hN : wfN S.N) (hg : 0 < S.N.2.1) (hJ : lwJ S.w) : ∀ n s vs m o, s + n = 6 → cP T S vs m → hR T S (L177_36 (d + 12) 0 (nI (S.w 1)) (nI (S.w 2)) (nI (S.w 0)) (nI (bitsN (fun i => decide (w_st S.w i < s)) (S.w 2))) (nI (sumN (fun i => if w_st S.w i < s ∧ w_open S.w i = true then w_sh S.w i else 0) (S.w 2))) (nI (sumN (fun c => owN S.N S.w c 4) s)) (nI (bitsN (w_late S.N S.w) (S.w 2))) (nI s) o m) := by
  have h6 := hw.2.1
  have h20 := hw.2.2.1
  intro n
  induction n with
  | zero =>
    intro s vs m o hs h
    have hs : s = 6 := hs
    subst hs
    have hall : bitsN (fun i => decide (w_st S.w i < 6)) (S.w 2) = 2 ^ S.w 2 - 1 := bitsN_full _ (fun i hi => by have := wf_st hw hi; simp; omega)
    have hp : 1 ≤ 2 ^ S.w 2 := Nat.two_pow_pos _
    have hbig : (1 : Int32) <<< (nI (S.w 2) &&& 31) - (1 : Int32) = nI (2 ^ S.w 2 - 1) := by
      rw [sp_bit (by omega), q_1, pk_sub hp]
    rw [E177_36 _ _ _ _ _ _ _ _ _ _ _ sx, if_pos (by decide), hall, hbig, if_pos rfl, ← used_all hw, show sumN (fun c => owN S.N S.w c 4) 6 = sumN (fun t => w_debts S.w t 4) (S.w 1) from (owed_all hN hw).trans (debts_all hw).symm]
    exact h_trd d hw hN hg hJ (S.w 1) 0 vs m _ _ _ (Nat.zero_add _) h
  | succ n ih =>
    intro s vs m o hsn h
    have hs : s < 6 := by omega
    obtain ⟨m1, e1, h1⟩ := q_states d h hs
    obtain ⟨st, hst⟩ : ∃ st, st = bitsN (fun i => decide (w_st S.w i = s)) (S.w 2) := ⟨_, rfl⟩
    have hst24 : st < 2 ^ 24 := by rw [hst]; exact bitsN_24 _ (by omega)
    rw [← hst] at e1 h1
    have r0 : lt_ev (d + 12) 175 [.inr (.inr (some 0)), .inl (0 : Int32)] m1 = some (some (.inr (.inl (nI (pcN st 24)).toInt64)), m1) := q_row d h1 (j := 0) rfl
    have r1 : lt_ev (d + 12) 175 [.inr (.inr (some 0)), .inl (1 : Int32)] m1 = some (some (.inr (.inl (nI (sumN (fun i => if w_st S.w i = s then w_sh S.w i else 0) (S.w 2))).toInt64)), m1) := q_row d h1 (j := 1) rfl
    have hand : nI (bitsN (fun i => decide (w_st S.w i < s)) (S.w 2)) &&& nI st = 0 := by
      rw [sp_andN, hst, bitsN_and0 (fun i hi q => by simp at q; omega)]
      rfl
    have hor : nI (bitsN (fun i => decide (w_st S.w i < s)) (S.w 2)) ||| nI st = nI (bitsN (fun i => decide (w_st S.w i < s + 1)) (S.w 2)) := by
      rw [sp_orN, hst, bitsN_or]
      congr 1
      exact bitsN_congr fun i hi => by
        by_cases c1 : w_st S.w i < s
        · simp [c1]; omega
        · by_cases c2 : w_st S.w i = s
          · simp [c2]
          · simp [c1, c2]; omega
    have hshb : ∀ i, i < S.w 2 → w_sh S.w i ≤ 999999 := fun i hi => (hw.2.2.2.2.2 i hi).2.2.2.2.2.1
    have s1b : sumN (fun i => if w_st S.w i < s ∧ w_open S.w i = true then w_sh S.w i else 0) (S.w 2) ≤ 20 * 999999 := by
      have := sumN_bound (n := S.w 2) (c := 999999) (f := fun i => if w_st S.w i < s ∧ w_open S.w i = true then w_sh S.w i else 0) (fun i hi => by have := hshb i hi; split <;> omega)
      have h2 : S.w 2 * 999999 ≤ 20 * 999999 := Nat.mul_le_mul_right _ h20
      exact Nat.le_trans this h2
    have s2b : sumN (fun i => if w_st S.w i = s then w_sh S.w i else 0) (S.w 2) ≤ 20 * 999999 := by
      have := sumN_bound (n := S.w 2) (c := 999999) (f := fun i => if w_st S.w i = s then w_sh S.w i else 0) (fun i hi => by have := hshb i hi; split <;> omega)
      have h2 : S.w 2 * 999999 ≤ 20 * 999999 := Nat.mul_le_mul_right _ h20
      exact Nat.le_trans this h2
    have hsum1 : (s = 2 ∨ s = 5) → sumN (fun i => if w_st S.w i < s ∧ w_open S.w i = true then w_sh S.w i else 0) (S.w 2) = sumN (fun i => if w_st S.w i < s + 1 ∧ w_open S.w i = true then w_sh S.w i else 0) (S.w 2) := fun q => sumN_congr fun i hi => by
      by_cases c : w_st S.w i = s
      · have : w_open S.w i = false := by unfold w_open; rw [c]; simp; omega
        simp [this]
      · have : (w_st S.w i < s) = (w_st S.w i < s + 1) := propext (by omega)
        simp only [this]
    have hsum2 : s ≠ 2 → s ≠ 5 → sumN (fun i => if w_st S.w i < s ∧ w_open S.w i = true then w_sh S.w i else 0) (S.w 2) + sumN (fun i => if w_st S.w i = s then w_sh S.w i else 0) (S.w 2) = sumN (fun i => if w_st S.w i < s + 1 ∧ w_open S.w i = true then w_sh S.w i else 0) (S.w 2) := fun q1 q2 => by
      rw [← sumN_add]
      exact sumN_congr fun i hi => by
        by_cases c : w_st S.w i = s
        · have : w_open S.w i = true := by unfold w_open; rw [c]; simp; omega
          simp [this, c]
        · have : (w_st S.w i < s) = (w_st S.w i < s + 1) := propext (by omega)
          simp only [this, if_neg c, Nat.add_zero]
    obtain ⟨m2, e2, h2⟩ := q_owed d h1 hs
    have h107 : hR T S (L177_107 (d + 12) 0 (nI (S.w 1)) (nI (S.w 2)) (nI (S.w 0)) (nI (bitsN (fun i => decide (w_st S.w i < s + 1)) (S.w 2))) (nI (sumN (fun i => if w_st S.w i < s + 1 ∧ w_open S.w i = true then w_sh S.w i else 0) (S.w 2))) (nI (sumN (fun c => owN S.N S.w c 4) s)) (nI (bitsN (w_late S.N S.w) (S.w 2))) (nI s) (nI st) m1) := by
      have nx := ih (s + 1) _ m2 (some (.inl (nI st))) (by omega) h2
      rw [E177_107 _ _ _ _ _ _ _ _ _ _ _ sx]
      by_cases c : s = 0
      · subst c
        have hla : bitsN (w_late S.N S.w) (S.w 2) &&& st = bitsN (w_late S.N S.w) (S.w 2) := by
          refine Nat.eq_of_testBit_eq fun i => ?_
          rw [Nat.testBit_and, hst, bitsN_tb, bitsN_tb]
          by_cases c : i < S.w 2
          · simp only [c, decide_true, Bool.true_and]
            cases hl : w_late S.N S.w i with
            | false => rfl
            | true =>
              unfold w_late at hl
              simp only [decide_eq_true_eq] at hl
              simp [hl.1]
          · simp [c]
        have e2' : lt_ev (d + 12) 138 [.inr (.inr (some 0)), .inl (nI 0)] m1 = some (some (.inl (nI (owN S.N S.w 0 4))), m2) := e2
        rw [if_neg (fun q => q rfl), nI_andn hla, if_pos rfl, e2', lt_cI_s, nI_add, nI_1]
        exact nx
      · rw [if_pos (by rw [sp_eq0 (by omega)]; exact c), e2, lt_cI_s, nI_add, nI_1]
        exact nx
    rw [E177_36 _ _ _ _ _ _ _ _ _ _ _ sx, if_neg (by rw [q_6, sp_len (by omega) (by omega)]; omega), e1, lt_cI_s, hand, if_neg (fun q => q rfl), r0, lt_cL_s, k60 (d + 11) hst24, lt_cI_s, if_pos ((cl_eq0 _ _).mpr rfl), hor]
    simp (disch := omega) only [q_2, q_5, sp_eqn]
    by_cases c2 : s = 2
    · rw [if_pos c2, hsum1 (Or.inl c2)]
      exact h107
    · by_cases c5 : s = 5
      · rw [if_neg c2, if_pos c5, hsum1 (Or.inr c5)]
        exact h107
      · rw [if_neg c2, if_neg c5, r1, lt_cL_s, add32 (by omega), hsum2 c2 c5]
        exact h107
/-- behind every act: it all holds together -/
theorem holds_ok (d : Nat) {vs : List Int32} {m : lt_m} (h : cP T S vs m) (hg : 0 < S.N.2.1) (hJ : lwJ S.w) : hR T S (lt_ev (d + 13) 177 [.inr (.inr (some 0)), .inl (nI (S.w 1))] m) := by
  have hw := h.wfL
  have hN := h.wfN
  obtain ⟨c0, -, -, c5, -, -⟩ := q_count d h
  have c0' : lt_ev (d + 12) 173 [.inr (.inr (some 0)), .inl (0 : Int32)] m = some (some (.inl (nI (S.w 0))), m) := c0
  have c5' : lt_ev (d + 12) 173 [.inr (.inr (some 0)), .inl (5 : Int32)] m = some (some (.inl (nI (S.w 2))), m) := c5
  obtain ⟨m1, e1, h1⟩ := q_late d h
  rw [E177 (d + 12) 0 _ sx m, c5', lt_cI_s, c0', lt_cI_s, e1, lt_cI_s]
  have z1 : bitsN (fun i => decide (w_st S.w i < 0)) (S.w 2) = 0 := by
    unfold bitsN
    exact sumN_zero fun i hi => by simp
  have z2 : sumN (fun i => if w_st S.w i < 0 ∧ w_open S.w i = true then w_sh S.w i else 0) (S.w 2) = 0 := sumN_zero fun i hi => by simp
  have := h_sts d hw hN hg hJ 6 0 _ m1 none rfl h1
  rw [z1, z2] at this
  exact this
end HOLDS

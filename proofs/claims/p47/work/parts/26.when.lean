/-! ===== when ===== -/
theorem bitsN_tb (p : Nat → Bool) : ∀ n i, (bitsN p n).testBit i = (decide (i < n) && p i) := by
  intro n
  induction n with
  | zero => intro i; show Nat.testBit 0 i = _; rw [Nat.zero_testBit]; simp
  | succ n ih =>
    intro i
    rw [bitsN_succ]
    by_cases c : p n = true
    · rw [if_pos c, ← sp_or (bitsN_lt p n), Nat.testBit_or, ih, Nat.testBit_two_pow]
      by_cases e : n = i
      · subst e; simp [c]
      · rw [decide_eq_false e, Bool.or_false, show decide (i < n + 1) = decide (i < n) from decide_eq_decide.mpr (by omega)]
    · rw [if_neg c, Nat.add_zero, ih]
      by_cases e : i = n
      · subst e; simp [c]
      · rw [show decide (i < n + 1) = decide (i < n) from decide_eq_decide.mpr (by omega)]
theorem bitsN_eq {p q : Nat → Bool} {n : Nat} {v : Nat} (h : ∀ i, v.testBit i = (decide (i < n) && p i)) : v = bitsN p n := Nat.eq_of_testBit_eq fun i => by rw [h, bitsN_tb]
theorem sumN_add (f g : Nat → Nat) (n : Nat) : sumN (fun i => f i + g i) n = sumN f n + sumN g n := by
  induction n with
  | zero => rfl
  | succ n ih => simp only [sumN, ih]; omega
theorem sumN_pos {f : Nat → Nat} {n : Nat} (h : 0 < sumN f n) : ∃ i, i < n ∧ 0 < f i := by
  refine Classical.byContradiction fun q => ?_
  rw [sumN_zero (fun i hi => Nat.eq_zero_of_not_pos fun z => q ⟨i, hi, z⟩)] at h
  omega
/-- those of a trader that may close, and the shares that are free by an hour -/
def w_may (N : NT) (w : Nat → Nat) (t i : Nat) : Bool := decide (w_of w i = t) && (decide (w_st w i = 0) && !w_late N w i)
def w_fr (N : NT) (w : Nat → Nat) (t u : Nat) : Nat := sumN (fun i => if w_of w i = t ∧ w_open w i = true ∧ w_close N w i ≤ u then w_sh w i else 0) (w 2)
def w_cl1 (w : Nat → Nat) (t : Nat) : Nat := sumN (fun i => if w_of w i = t ∧ w_st w i = 1 then w_sh w i else 0) (w 2)
def we (N : NT) (w : Nat → Nat) (t : Nat) (Z : Int) : Nat → Nat
  | 0 => 1000000
  | i + 1 => if (i < w 2 ∧ w_of w i = t ∧ w_open w i = true) ∧ w_close N w i < we N w t Z i ∧ Z ≤ (w_fr N w t (w_close N w i) : Nat) then w_close N w i else we N w t Z i
theorem we_p (N : NT) (w : Nat → Nat) (t : Nat) (Z : Int) : ∀ n, we N w t Z n ≤ 1000000 ∧ (we N w t Z n = 1000000 ∨ ∃ i, i < n ∧ (i < w 2 ∧ w_of w i = t ∧ w_open w i = true) ∧ w_close N w i = we N w t Z n ∧ Z ≤ (w_fr N w t (w_close N w i) : Nat)) ∧ ∀ i, i < n → (i < w 2 ∧ w_of w i = t ∧ w_open w i = true) → w_close N w i < 1000000 → Z ≤ (w_fr N w t (w_close N w i) : Nat) → we N w t Z n ≤ w_close N w i := by
  intro n
  induction n with
  | zero => exact ⟨Nat.le_refl _, Or.inl rfl, fun i hi => by omega⟩
  | succ n ih =>
    obtain ⟨i1, i2, i3⟩ := ih
    simp only [we]
    by_cases c : (n < w 2 ∧ w_of w n = t ∧ w_open w n = true) ∧ w_close N w n < we N w t Z n ∧ Z ≤ (w_fr N w t (w_close N w n) : Nat)
    · rw [if_pos c]
      refine ⟨by omega, Or.inr ⟨n, Nat.lt_succ_self n, c.1, rfl, c.2.2⟩, fun i hi h1 h2 h3 => ?_⟩
      by_cases e : i = n
      · subst e; exact Nat.le_refl _
      · have := i3 i (by omega) h1 h2 h3; omega
    · rw [if_neg c]
      refine ⟨i1, ?_, fun i hi h1 h2 h3 => ?_⟩
      · rcases i2 with h | ⟨i, h1, h2⟩
        · exact Or.inl h
        · exact Or.inr ⟨i, by omega, h2⟩
      · by_cases e : i = n
        · subst e
          refine Classical.byContradiction fun q => c ⟨h1, by omega, h3⟩
        · exact i3 i (by omega) h1 h2 h3
section WHEN
variable {dist wl : NT → Nat → Nat → Nat} {N : NT} {w : Nat → Nat} {T L : Nat} {m : lt_m} {vs us : List Int32}
theorem w_close_b (hN : wfN N) (hw : wfL N w) {i : Nat} (hi : i < w 2) : w 0 ≤ w_close N w i ∧ w_close N w i ≤ 1000000 := by
  have h0 := hw.1
  have ha := w_arr_le hN hw hi
  unfold w_close
  split
  · omega
  · split
    · exact ⟨Nat.le_max_left _ _, Nat.max_le.mpr ⟨by omega, by omega⟩⟩
    · omega
/-- an open one that closes before 1000000 -/
theorem w_close_c {i t u : Nat} (hu : u < 1000000) (h0 : w 0 ≤ u) (ho : w_of w i = t) (hp : w_open w i = true) : w_close N w i ≤ u ↔ (w_st w i = 1 ∨ (w_may N w t i = true ∧ w_arr N w i ≤ u)) := by
  unfold w_close
  by_cases c1 : w_st w i = 1
  · rw [if_pos c1]; exact ⟨fun _ => Or.inl c1, fun _ => h0⟩
  · rw [if_neg c1]
    by_cases c2 : w_st w i = 0 ∧ w_arr N w i ≤ w_tm w i
    · have hm : w_may N w t i = true := by
        unfold w_may w_late
        simp only [ho, c2.1, decide_true, Bool.true_and, Bool.not_eq_true', decide_eq_false_iff_not, true_and]
        omega
      rw [if_pos c2, Nat.max_le]
      exact ⟨fun q => Or.inr ⟨hm, q.2⟩, fun q => ⟨h0, (q.resolve_left c1).2⟩⟩
    · rw [if_neg c2]
      refine ⟨fun q => by omega, fun q => ?_⟩
      obtain ⟨q1, q2⟩ := q.resolve_left c1
      unfold w_may w_late at q1
      simp only [Bool.and_eq_true, decide_eq_true_eq, Bool.not_eq_true', decide_eq_false_iff_not] at q1
      exfalso
      apply c2
      exact ⟨q1.2.1, by have := q1.2.2; omega⟩
theorem w_may_o {i t : Nat} (h : w_may N w t i = true) : w_of w i = t ∧ w_st w i = 0 ∧ w_open w i = true ∧ w_close N w i = max (w 0) (w_arr N w i) := by
  unfold w_may w_late at h
  simp only [Bool.and_eq_true, decide_eq_true_eq, Bool.not_eq_true', decide_eq_false_iff_not] at h
  obtain ⟨h1, h2, h3⟩ := h
  refine ⟨h1, h2, by unfold w_open; rw [h2]; rfl, ?_⟩
  unfold w_close
  rw [if_neg (by omega), if_pos ⟨h2, by omega⟩]
theorem w_fr_eq {t u : Nat} (hu : u < 1000000) (h0 : w 0 ≤ u) : w_fr N w t u = w_cl1 w t + sumN (fun i => if w_may N w t i = true ∧ w_arr N w i < u + 1 then w_sh w i else 0) (w 2) := by
  unfold w_fr w_cl1
  rw [← sumN_add]
  refine sumN_congr fun i hi => ?_
  by_cases ho : w_of w i = t
  · by_cases hp : w_open w i = true
    · have hc := w_close_c (N := N) hu h0 ho hp
      by_cases c1 : w_st w i = 1
      · rw [if_pos ⟨ho, hp, hc.mpr (Or.inl c1)⟩, if_pos ⟨ho, c1⟩, if_neg (fun q => by have := (w_may_o q.1).2.1; omega)]
        rfl
      · rw [show (if w_of w i = t ∧ w_st w i = 1 then w_sh w i else 0) = 0 from if_neg (fun q => c1 q.2)]
        by_cases c2 : w_may N w t i = true ∧ w_arr N w i ≤ u
        · rw [if_pos ⟨ho, hp, hc.mpr (Or.inr c2)⟩, if_pos ⟨c2.1, by omega⟩, Nat.zero_add]
        · rw [if_neg (fun q => (hc.mp q.2.2).elim c1 c2), if_neg (fun q => c2 ⟨q.1, by omega⟩)]
    · have c1 : ¬ w_st w i = 1 := fun q => hp (by unfold w_open; rw [q]; rfl)
      rw [if_neg (fun q => hp q.2.1), if_neg (fun q => c1 q.2), if_neg (fun q => hp (w_may_o q.1).2.2.1)]
  · rw [if_neg (fun q => ho q.1), if_neg (fun q => ho q.1), if_neg (fun q => ho (w_may_o q.1).1)]
theorem w_fr_le (hw : wfL N w) (t u : Nat) : w_fr N w t u ≤ 19999980 := by
  have h20 := hw.2.2.1
  unfold w_fr
  have := sumN_bound (n := w 2) (c := 999999) (f := fun i => if w_of w i = t ∧ w_open w i = true ∧ w_close N w i ≤ u then w_sh w i else 0) (fun i hi => by
    have := w_sh_le hw hi
    split <;> omega)
  have h2 : w 2 * 999999 ≤ 20 * 999999 := Nat.mul_le_mul_right _ h20
  exact Nat.le_trans this (by omega)
def w_set (N : NT) (w : Nat → Nat) (t lo : Nat) : Nat := bitsN (fun i => w_may N w t i && decide (lo ≤ w_arr N w i)) (w 2)
def w_sum (N : NT) (w : Nat → Nat) (t lo : Nat) : Nat := sumN (fun i => if w_may N w t i = true ∧ w_arr N w i < lo then w_sh w i else 0) (w 2)
theorem w_sum_le (hw : wfL N w) (t u : Nat) : w_sum N w t u ≤ 19999980 := by
  have h20 := hw.2.2.1
  unfold w_sum
  have := sumN_bound (n := w 2) (c := 999999) (f := fun i => if w_may N w t i = true ∧ w_arr N w i < u then w_sh w i else 0) (fun i hi => by
    have := w_sh_le hw hi
    split <;> omega)
  have h2 : w 2 * 999999 ≤ 20 * 999999 := Nat.mul_le_mul_right _ h20
  exact Nat.le_trans this (by omega)
theorem w_cl1_le (hw : wfL N w) (t : Nat) : w_cl1 w t ≤ 19999980 := by
  have h20 := hw.2.2.1
  unfold w_cl1
  have := sumN_bound (n := w 2) (c := 999999) (f := fun i => if w_of w i = t ∧ w_st w i = 1 then w_sh w i else 0) (fun i hi => by
    have := w_sh_le hw hi
    split <;> omega)
  have h2 : w 2 * 999999 ≤ 20 * 999999 := Nat.mul_le_mul_right _ h20
  exact Nat.le_trans this (by omega)
/-- the next hour -/
def w_mn (N : NT) (w : Nat → Nat) (t lo : Nat) : Nat → Nat
  | 0 => 1000000000
  | i + 1 => if w_may N w t i = true ∧ lo ≤ w_arr N w i then min (w_mn N w t lo i) (w_arr N w i) else w_mn N w t lo i
theorem w_mn_p (t lo : Nat) : ∀ n, w_mn N w t lo n ≤ 1000000000 ∧ (∀ i, i < n → w_may N w t i = true → lo ≤ w_arr N w i → w_mn N w t lo n ≤ w_arr N w i) ∧ ((∃ i, i < n ∧ w_may N w t i = true ∧ lo ≤ w_arr N w i ∧ w_arr N w i ≤ 1000000000) → ∃ i, i < n ∧ w_may N w t i = true ∧ lo ≤ w_arr N w i ∧ w_arr N w i = w_mn N w t lo n) := by
  intro n
  induction n with
  | zero => exact ⟨Nat.le_refl _, fun i hi => by omega, fun ⟨i, hi, _⟩ => by omega⟩
  | succ n ih =>
    obtain ⟨i1, i2, i3⟩ := ih
    simp only [w_mn]
    by_cases c : w_may N w t n = true ∧ lo ≤ w_arr N w n
    · rw [if_pos c]
      refine ⟨by omega, fun i hi h1 h2 => ?_, fun _ => ?_⟩
      · by_cases e : i = n
        · subst e; exact Nat.min_le_right _ _
        · have := i2 i (by omega) h1 h2; omega
      · by_cases q : w_arr N w n ≤ w_mn N w t lo n
        · exact ⟨n, Nat.lt_succ_self n, c.1, c.2, by omega⟩
        · by_cases hx : ∃ i, i < n ∧ w_may N w t i = true ∧ lo ≤ w_arr N w i ∧ w_arr N w i ≤ 1000000000
          · obtain ⟨i, j1, j2, j3, j4⟩ := i3 hx
            exact ⟨i, by omega, j2, j3, by omega⟩
          · have : w_mn N w t lo n = 1000000000 := by
              have : ∀ k, k ≤ n → w_mn N w t lo k = 1000000000 ∨ ∃ i, i < k ∧ w_may N w t i = true ∧ lo ≤ w_arr N w i ∧ w_arr N w i ≤ 1000000000 := by
                intro k
                induction k with
                | zero => intro _; exact Or.inl rfl
                | succ k ihk =>
                  intro hk
                  rcases ihk (by omega) with e | ⟨i, e1, e2⟩
                  · simp only [w_mn]
                    by_cases ck : w_may N w t k = true ∧ lo ≤ w_arr N w k
                    · by_cases cc : w_arr N w k ≤ 1000000000
                      · exact Or.inr ⟨k, Nat.lt_succ_self k, ck.1, ck.2, cc⟩
                      · rw [if_pos ck, e]; exact Or.inl (by omega)
                    · rw [if_neg ck]; exact Or.inl e
                  · exact Or.inr ⟨i, by omega, e2⟩
              rcases this n (Nat.le_refl _) with e | e
              · exact e
              · exact absurd e hx
            rename_i hcon
            obtain ⟨i, j1, j2, j3, j4⟩ := hcon
            by_cases e : i = n
            · subst e; omega
            · exact absurd ⟨i, by omega, j2, j3, j4⟩ hx
    · rw [if_neg c]
      refine ⟨i1, fun i hi h1 h2 => ?_, fun hx => ?_⟩
      · by_cases e : i = n
        · subst e; exact absurd ⟨h1, h2⟩ c
        · exact i2 i (by omega) h1 h2
      · obtain ⟨i, j1, j2, j3, j4⟩ := hx
        by_cases e : i = n
        · subst e; exact absurd ⟨j2, j3⟩ c
        · obtain ⟨k, k1, k2⟩ := i3 ⟨i, by omega, j2, j3, j4⟩
          exact ⟨k, by omega, k2⟩
end WHEN

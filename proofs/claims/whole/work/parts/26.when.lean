/-! ===== when ===== -/
theorem bitsN_tb (p : Nat → Bool) : ∀ n i, (bitsN p n).testBit i = (decide (i < n) && p i) := by
  intro n
  induction n with
  | zero => intro i; show Nat.testBit 0 i = _; rw [Nat.zero_testBit]; simp
  | succ n ih =>
    intro i
    rw [bitsN_succ]
    by_cases c : p n = true
    · rw [if_pos c, ← sp_or (bitsN_lt p n), Nat.testBit_or, ih, Nat.testBit_two_pow]
      by_cases e : n = i
      · subst e; simp [c]
      · rw [decide_eq_false e, Bool.or_false, show decide (i < n + 1) = decide (i < n) from decide_eq_decide.mpr (by omega)]
    · rw [if_neg c, Nat.add_zero, ih]
      by_cases e : i = n
      · subst e; simp [c]
      · rw [show decide (i < n + 1) = decide (i < n) from decide_eq_decide.mpr (by omega)]
theorem bitsN_eq {p q : Nat → Bool} {n : Nat} {v : Nat} (h : ∀ i, v.testBit i = (decide (i < n) && p i)) : v = bitsN p n := Nat.eq_of_testBit_eq fun i => by rw [h, bitsN_tb]
theorem sumN_add (f g : Nat → Nat) (n : Nat) : sumN (fun i => f i + g i) n = sumN f n + sumN g n := by
  induction n with
  | zero => rfl
  | succ n ih => simp only [sumN, ih]; omega
theorem sumN_pos {f : Nat → Nat} {n : Nat} (h : 0 < sumN f n) : ∃ i, i < n ∧ 0 < f i := by
  refine Classical.byContradiction fun q => ?_
  rw [sumN_zero (fun i hi => Nat.eq_zero_of_not_pos fun z => q ⟨i, hi, z⟩)] at h
  omega
/-- those of a trader that may close, and the shares that are free by an hour -/
def w_may (N : NT) (w : Nat → Nat) (t i : Nat) : Bool := decide (w_of w i = t) && (decide (w_st w i = 0) && !w_late N w i)
def w_fr (N : NT) (w : Nat → Nat) (t u : Nat) : Nat := sumN (fun i => if w_of w i = t ∧ w_open w i = true ∧ w_close N w i ≤ u then w_sh w i else 0) (w 2)
def w_cl1 (w : Nat → Nat) (t : Nat) : Nat := sumN (fun i => if w_of w i = t ∧ w_st w i = 1 then w_sh w i else 0) (w 2)
def we (N : NT) (w : Nat → Nat) (t : Nat) (Z : Int) : Nat → Nat
  | 0 => 1000000
  | i + 1 => if (i < w 2 ∧ w_of w i = t ∧ w_open w i = true) ∧ w_close N w i < we N w t Z i ∧ Z ≤ (w_fr N w t (w_close N w i) : Nat) then w_close N w i else we N w t Z i
theorem we_p (N : NT) (w : Nat → Nat) (t : Nat) (Z : Int) : ∀ n, we N w t Z n ≤ 1000000 ∧ (we N w t Z n = 1000000 ∨ ∃ i, i < n ∧ (i < w 2 ∧ w_of w i = t ∧ w_open w i = true) ∧ w_close N w i = we N w t Z n ∧ Z ≤ (w_fr N w t (w_close N w i) : Nat)) ∧ ∀ i, i < n → (i < w 2 ∧ w_of w i = t ∧ w_open w i = true) → w_close N w i < 1000000 → Z ≤ (w_fr N w t (w_close N w i) : Nat) → we N w t Z n ≤ w_close N w i := by
  intro n
  induction n with
  | zero => exact ⟨Nat.le_refl _, Or.inl rfl, fun i hi => by omega⟩
  | succ n ih =>
    obtain ⟨i1, i2, i3⟩ := ih
    simp only [we]
    by_cases c : (n < w 2 ∧ w_of w n = t ∧ w_open w n = true) ∧ w_close N w n < we N w t Z n ∧ Z ≤ (w_fr N w t (w_close N w n) : Nat)
    · rw [if_pos c]
      refine ⟨by omega, Or.inr ⟨n, Nat.lt_succ_self n, c.1, rfl, c.2.2⟩, fun i hi h1 h2 h3 => ?_⟩
      by_cases e : i = n
      · subst e; exact Nat.le_refl _
      · have := i3 i (by omega) h1 h2 h3; omega
    · rw [if_neg c]
      refine ⟨i1, ?_, fun i hi h1 h2 h3 => ?_⟩
      · rcases i2 with h | ⟨i, h1, h2⟩
        · exact Or.inl h
        · exact Or.inr ⟨i, by omega, h2⟩
      · by_cases e : i = n
        · subst e
          refine Classical.byContradiction fun q => c ⟨h1, by omega, h3⟩
        · exact i3 i (by omega) h1 h2 h3
section WHEN
variable {dist wl : NT → Nat → Nat → Nat} {N : NT} {w : Nat → Nat} {T L : Nat} {m : lt_m} {vs us : List Int32}
theorem w_close_b (hN : wfN N) (hw : wfL N w) {i : Nat} (hi : i < w 2) : w 0 ≤ w_close N w i ∧ w_close N w i ≤ 1000000 := by
  have h0 := hw.1
  have ha := w_arr_le hN hw hi
  unfold w_close
  split
  · omega
  · split
    · exact ⟨Nat.le_max_left _ _, Nat.max_le.mpr ⟨by omega, by omega⟩⟩
    · omega
/-- an open one that closes before 1000000 -/
theorem w_close_c {i t u : Nat} (hu : u < 1000000) (h0 : w 0 ≤ u) (ho : w_of w i = t) (hp : w_open w i = true) : w_close N w i ≤ u ↔ (w_st w i = 1 ∨ (w_may N w t i = true ∧ w_arr N w i ≤ u)) := by
  unfold w_close
  by_cases c1 : w_st w i = 1
  · rw [if_pos c1]; exact ⟨fun _ => Or.inl c1, fun _ => h0⟩
  · rw [if_neg c1]
    by_cases c2 : w_st w i = 0 ∧ w_arr N w i ≤ w_tm w i
    · have hm : w_may N w t i = true := by
        unfold w_may w_late
        simp only [ho, c2.1, decide_true, Bool.true_and, Bool.not_eq_true', decide_eq_false_iff_not, true_and]
        omega
      rw [if_pos c2, Nat.max_le]
      exact ⟨fun q => Or.inr ⟨hm, q.2⟩, fun q => ⟨h0, (q.resolve_left c1).2⟩⟩
    · rw [if_neg c2]
      refine ⟨fun q => by omega, fun q => ?_⟩
      obtain ⟨q1, q2⟩ := q.resolve_left c1
      unfold w_may w_late at q1
      simp only [Bool.and_eq_true, decide_eq_true_eq, Bool.not_eq_true', decide_eq_false_iff_not] at q1
      exfalso
      apply c2
      exact ⟨q1.2.1, by have := q1.2.2; omega⟩
theorem w_may_o {i t : Nat} (h : w_may N w t i = true) : w_of w i = t ∧ w_st w i = 0 ∧ w_open w i = true ∧ w_close N w i = max (w 0) (w_arr N w i) := by
  unfold w_may w_late at h
  simp only [Bool.and_eq_true, decide_eq_true_eq, Bool.not_eq_true', decide_eq_false_iff_not] at h
  obtain ⟨h1, h2, h3⟩ := h
  refine ⟨h1, h2, by unfold w_open; rw [h2]; rfl, ?_⟩
  unfold w_close
  rw [if_neg (by omega), if_pos ⟨h2, by omega⟩]
theorem w_fr_eq {t u : Nat} (hu : u < 1000000) (h0 : w 0 ≤ u) : w_fr N w t u = w_cl1 w t + sumN (fun i => if w_may N w t i = true ∧ w_arr N w i < u + 1 then w_sh w i else 0) (w 2) := by
  unfold w_fr w_cl1
  rw [← sumN_add]
  refine sumN_congr fun i hi => ?_
  by_cases ho : w_of w i = t
  · by_cases hp : w_open w i = true
    · have hc := w_close_c (N := N) hu h0 ho hp
      by_cases c1 : w_st w i = 1
      · rw [if_pos ⟨ho, hp, hc.mpr (Or.inl c1)⟩, if_pos ⟨ho, c1⟩, if_neg (fun q => by have := (w_may_o q.1).2.1; omega)]
        rfl
      · rw [show (if w_of w i = t ∧ w_st w i = 1 then w_sh w i else 0) = 0 from if_neg (fun q => c1 q.2)]
        by_cases c2 : w_may N w t i = true ∧ w_arr N w i ≤ u
        · rw [if_pos ⟨ho, hp, hc.mpr (Or.inr c2)⟩, if_pos ⟨c2.1, by omega⟩, Nat.zero_add]
        · rw [if_neg (fun q => (hc.mp q.2.2).elim c1 c2), if_neg (fun q => c2 ⟨q.1, by omega⟩)]
    · have c1 : ¬ w_st w i = 1 := fun q => hp (by unfold w_open; rw [q]; rfl)
      rw [if_neg (fun q => hp q.2.1), if_neg (fun q => c1 q.2), if_neg (fun q => hp (w_may_o q.1).2.2.1)]
  · rw [if_neg (fun q => ho q.1), if_neg (fun q => ho q.1), if_neg (fun q => ho (w_may_o q.1).1)]
theorem w_fr_le (hw : wfL N w) (t u : Nat) : w_fr N w t u ≤ 19999980 := by
  have h20 := hw.2.2.1
  unfold w_fr
  have := sumN_bound (n := w 2) (c := 999999) (f := fun i => if w_of w i = t ∧ w_open w i = true ∧ w_close N w i ≤ u then w_sh w i else 0) (fun i hi => by
    have := w_sh_le hw hi
    split <;> omega)
  have h2 : w 2 * 999999 ≤ 20 * 999999 := Nat.mul_le_mul_right _ h20
  exact Nat.le_trans this (by omega)
/-- the class's loop -/
theorem k152_l (d : Nat) (hs : RS dist wl N w T m) {t : Nat} (ht : t < w 1) (x2 : Int32) {Z : Int} (z1 : -999999 ≤ Z) (z2 : Z ≤ 999999) : L152_64 (d + 7) 0 (nI t) x2 (iZ Z) 1000000 0 none none m = if we N w t Z 20 = 1000000 then some (some (.inl (-2)), m) else some (some (.inl (nI (we N w t Z 20))), m) := by
  have hN := hs.wfN
  have hw := hs.wfL
  have h20 := hw.2.2.1
  have h6 := hw.2.1
  refine lp_it (F := fun i (o : Option ts_V × Option ts_V) => L152_64 (d + 7) 0 (nI t) x2 (iZ Z) (nI (we N w t Z i)) (nI i) o.1 o.2 m) 20 ?_ ?_ (none, none)
  · intro i o hi
    obtain ⟨b1, -⟩ := we_p N w t Z i
    rw [E152_64 _ _ _ _ _ _ _ _ _ sx]
    simp (disch := omega) only [q_20, sp_len, nI_clamp]
    rw [if_neg (by omega), lt_gd_t ⟨nI_pos' (by omega), hi⟩, p92 (d + 6) _ _ (sh_mv sL hi) m, lt_cI_s, c92 hs.cl hw hi (by omega), nI_1]
    simp only [we]
    by_cases c : i < w 2 ∧ w_of w i = t ∧ w_open w i = true
    · obtain ⟨c1, c2⟩ := w_close_b hN hw c.1
      have hf := w_fr_le hw t (w_close N w i)
      refine ⟨(some (.inr (.inr (some (0 + 13 + 3 + 5 + 3 * i)))), some (.inl (nI (w_close N w i)))), ?_⟩
      rw [if_pos c, if_neg (by decide), k153 (d + 2) sx hs.sA hs.nR hs.cl hN hw c.1, lt_cI_s]
      simp (disch := omega) only [sp_len]
      by_cases c3 : we N w t Z i ≤ w_close N w i
      · rw [if_pos c3, if_neg (fun q => by omega)]
      · have hk := k154 (d + 1) sx hs.sA hs.nR hs.cl hN hw (t := t) (u := w_close N w i) (by omega) (by omega)
        have hk : lt_ev (d + 1 + 6) 154 [.inr (.inr (some 0)), .inl (nI t), .inl (nI (w_close N w i))] m = some (some (.inl (nI (w_fr N w t (w_close N w i)))), m) := hk
        rw [if_neg c3, hk, lt_cI_s]
        simp (disch := omega) only [iZ_lt]
        by_cases c4 : Z ≤ (w_fr N w t (w_close N w i) : Nat)
        · rw [if_neg (by omega), if_pos ⟨c, by omega, c4⟩]
        · rw [if_pos (by omega), if_neg (fun q => c4 q.2.2)]
    · refine ⟨(some (.inr (.inr (some (0 + 13 + 3 + 5 + 3 * i)))), o.2), ?_⟩
      rw [if_neg c, if_pos rfl, if_neg (fun q => c q.1)]
  · intro o
    obtain ⟨b1, -⟩ := we_p N w t Z 20
    rw [E152_64 _ _ _ _ _ _ _ _ _ sx, if_pos (by decide)]
    simp (disch := omega) only [show (1000000 : Int32) = nI 1000000 from rfl, sp_eqn]
    by_cases c : we N w t Z 20 = 1000000
    · rw [if_neg (by simp [c]), if_pos c]
    · rw [if_pos c, if_neg c]
def w_set (N : NT) (w : Nat → Nat) (t lo : Nat) : Nat := bitsN (fun i => w_may N w t i && decide (lo ≤ w_arr N w i)) (w 2)
def w_sum (N : NT) (w : Nat → Nat) (t lo : Nat) : Nat := sumN (fun i => if w_may N w t i = true ∧ w_arr N w i < lo then w_sh w i else 0) (w 2)
theorem w_sum_le (hw : wfL N w) (t u : Nat) : w_sum N w t u ≤ 19999980 := by
  have h20 := hw.2.2.1
  unfold w_sum
  have := sumN_bound (n := w 2) (c := 999999) (f := fun i => if w_may N w t i = true ∧ w_arr N w i < u then w_sh w i else 0) (fun i hi => by
    have := w_sh_le hw hi
    split <;> omega)
  have h2 : w 2 * 999999 ≤ 20 * 999999 := Nat.mul_le_mul_right _ h20
  exact Nat.le_trans this (by omega)
theorem w_cl1_le (hw : wfL N w) (t : Nat) : w_cl1 w t ≤ 19999980 := by
  have h20 := hw.2.2.1
  unfold w_cl1
  have := sumN_bound (n := w 2) (c := 999999) (f := fun i => if w_of w i = t ∧ w_st w i = 1 then w_sh w i else 0) (fun i hi => by
    have := w_sh_le hw hi
    split <;> omega)
  have h2 : w 2 * 999999 ≤ 20 * 999999 := Nat.mul_le_mul_right _ h20
  exact Nat.le_trans this (by omega)
/-- the reference: those whose hour has come leave the set -/
theorem m260_123 (d : Nat) {a : Nat} (h0 : ts_sh a = (0, 12)) (h : ml N w a m) (hN : wfN N) (hw : wfL N w) {t lo u C : Nat} (hlo : lo ≤ u + 1) (hu : u < 1000000) (x1 x2 : Int32) (o : Option ts_V) : L260_123 (d + 3) a x1 x2 (nI (w_set N w t lo)) (nI (C + w_sum N w t lo)) (nI u) 0 o m = L260_123 (d + 3) a x1 x2 (nI (w_set N w t (u + 1))) (nI (C + w_sum N w t (u + 1))) (nI u) (nI (w 2)) o m := by
  have h20 := hw.2.2.1
  have h220 : 2 ^ w 2 ≤ 2 ^ 20 := Nat.pow_le_pow_right (by decide) h20
  obtain ⟨S, hS⟩ : ∃ S : Nat → Nat, S = fun i => bitsN (fun j => w_may N w t j && decide ((if j < i then u + 1 else lo) ≤ w_arr N w j)) (w 2) := ⟨_, rfl⟩
  obtain ⟨X, hX⟩ : ∃ X : Nat → Nat, X = fun i => sumN (fun j => if w_may N w t j = true ∧ w_arr N w j < (if j < i then u + 1 else lo) then w_sh w j else 0) (w 2) := ⟨_, rfl⟩
  have eS0 : w_set N w t lo = S 0 := by rw [hS]; rfl
  have eX0 : w_sum N w t lo = X 0 := by rw [hX]; rfl
  have eS1 : w_set N w t (u + 1) = S (w 2) := by rw [hS]; exact bitsN_congr fun j hj => by rw [if_pos hj]
  have eX1 : w_sum N w t (u + 1) = X (w 2) := by rw [hX]; exact sumN_congr fun j hj => by simp only [if_pos hj]
  rw [eS0, eX0, eS1, eX1]
  refine lp_it (F := fun i (_ : Unit) => L260_123 (d + 3) a x1 x2 (nI (S i)) (nI (C + X i)) (nI u) (nI i) o m) (w 2) ?_ (fun _ => rfl) ()
  intro i _ hi
  refine ⟨(), ?_⟩
  have hSl : S i < 2 ^ w 2 := by rw [hS]; exact bitsN_lt _ _
  have htb : (S i).testBit i = (w_may N w t i && decide (lo ≤ w_arr N w i)) := by
    rw [hS]
    show (bitsN _ (w 2)).testBit i = _
    rw [bitsN_tb, decide_eq_true hi, Bool.true_and, if_neg (Nat.lt_irrefl i)]
  have ha := w_arr_le hN hw hi
  rw [E260_123 _ _ _ _ _ _ _ _ _ h0, lt_gd_t g2_ok, w2_at h]
  simp (disch := omega) only [sp_len]
  rw [if_neg (by omega), m207 (d + 2) (by omega) (by omega), lt_cI_s, nI_1]
  have same : (w_may N w t i = true → lo ≤ w_arr N w i → ¬ w_arr N w i ≤ u) → S (i + 1) = S i ∧ X (i + 1) = X i := by
    intro q
    constructor
    · rw [hS]
      refine bitsN_congr fun j hj => ?_
      by_cases e : j = i
      · subst e
        rw [if_pos (Nat.lt_succ_self j), if_neg (Nat.lt_irrefl j)]
        by_cases hm : w_may N w t j = true
        · rw [show decide (u + 1 ≤ w_arr N w j) = decide (lo ≤ w_arr N w j) from decide_eq_decide.mpr (by have := q hm; omega)]
        · simp [hm]
      · by_cases c : j < i
        · rw [if_pos c, if_pos (by omega)]
        · rw [if_neg c, if_neg (by omega)]
    · rw [hX]
      refine sumN_congr fun j hj => ?_
      by_cases e : j = i
      · subst e
        simp only [if_pos (Nat.lt_succ_self j), if_neg (Nat.lt_irrefl j)]
        by_cases hm : w_may N w t j = true
        · have := q hm
          by_cases c : w_arr N w j < lo
          · rw [if_pos ⟨hm, by omega⟩, if_pos ⟨hm, c⟩]
          · rw [if_neg (fun z => by omega), if_neg (fun z => c z.2)]
        · rw [if_neg (fun z => hm z.1), if_neg (fun z => hm z.1)]
      · by_cases c : j < i
        · simp only [if_pos c, if_pos (show j < i + 1 by omega)]
        · simp only [if_neg c, if_neg (show ¬ j < i + 1 by omega)]
  by_cases c : (S i).testBit i = true
  · have c' := c
    rw [htb] at c'
    simp only [Bool.and_eq_true, decide_eq_true_eq] at c'
    rw [show (if (S i).testBit i = true then (1 : Int32) else 0) = 1 from if_pos c, if_neg (by decide), m252 d h0 h hN hw hi, lt_cI_s]
    simp (disch := omega) only [sp_len]
    by_cases c2 : w_arr N w i ≤ u
    · have eS : S i ^^^ 2 ^ i = S (i + 1) := by
        rw [hS]
        refine bitsN_eq (q := fun _ => true) fun j => ?_
        show (bitsN _ (w 2) ^^^ 2 ^ i).testBit j = _
        rw [xor_tb, bitsN_tb]
        by_cases e : i = j
        · subst e
          rw [if_neg (Nat.lt_irrefl i), if_pos (Nat.lt_succ_self i), c'.1, decide_eq_true hi, decide_eq_true c'.2, decide_eq_false (by omega : ¬ u + 1 ≤ w_arr N w i)]
          simp
        · rw [decide_eq_false e]
          by_cases cj : j < i
          · rw [if_pos cj, if_pos (by omega)]; simp
          · rw [if_neg cj, if_neg (by omega)]; simp
      have eX : X (i + 1) = w_sh w i + X i := by
        rw [hX]
        refine sumN_pt hi ?_ fun j hj hne => ?_
        · simp only [if_pos (Nat.lt_succ_self i), if_neg (Nat.lt_irrefl i)]
          rw [if_pos ⟨c'.1, by omega⟩, if_neg (fun z => by omega)]
          rfl
        · by_cases cj : j < i
          · simp only [if_pos cj, if_pos (show j < i + 1 by omega)]
          · simp only [if_neg cj, if_neg (show ¬ j < i + 1 by omega)]
      rw [if_pos c2, m198_sh (d + 2) h0 h (by omega), lt_cI_s, sp_bit (by omega), sp_xorN, eS, nI_add, eX, show C + X i + w_sh w i = C + (w_sh w i + X i) by omega]
    · obtain ⟨e1, e2⟩ := same (fun _ _ => c2)
      rw [if_neg c2, e1, e2]
  · obtain ⟨e1, e2⟩ := same (fun q1 q2 => by
      rw [htb] at c
      simp only [Bool.and_eq_true, decide_eq_true_eq] at c
      exact absurd ⟨q1, q2⟩ c)
    rw [show (if (S i).testBit i = true then (1 : Int32) else 0) = 0 from if_neg c, if_pos rfl, e1, e2]
/-- the next hour -/
def w_mn (N : NT) (w : Nat → Nat) (t lo : Nat) : Nat → Nat
  | 0 => 1000000000
  | i + 1 => if w_may N w t i = true ∧ lo ≤ w_arr N w i then min (w_mn N w t lo i) (w_arr N w i) else w_mn N w t lo i
theorem w_mn_p (t lo : Nat) : ∀ n, w_mn N w t lo n ≤ 1000000000 ∧ (∀ i, i < n → w_may N w t i = true → lo ≤ w_arr N w i → w_mn N w t lo n ≤ w_arr N w i) ∧ ((∃ i, i < n ∧ w_may N w t i = true ∧ lo ≤ w_arr N w i ∧ w_arr N w i ≤ 1000000000) → ∃ i, i < n ∧ w_may N w t i = true ∧ lo ≤ w_arr N w i ∧ w_arr N w i = w_mn N w t lo n) := by
  intro n
  induction n with
  | zero => exact ⟨Nat.le_refl _, fun i hi => by omega, fun ⟨i, hi, _⟩ => by omega⟩
  | succ n ih =>
    obtain ⟨i1, i2, i3⟩ := ih
    simp only [w_mn]
    by_cases c : w_may N w t n = true ∧ lo ≤ w_arr N w n
    · rw [if_pos c]
      refine ⟨by omega, fun i hi h1 h2 => ?_, fun _ => ?_⟩
      · by_cases e : i = n
        · subst e; exact Nat.min_le_right _ _
        · have := i2 i (by omega) h1 h2; omega
      · by_cases q : w_arr N w n ≤ w_mn N w t lo n
        · exact ⟨n, Nat.lt_succ_self n, c.1, c.2, by omega⟩
        · by_cases hx : ∃ i, i < n ∧ w_may N w t i = true ∧ lo ≤ w_arr N w i ∧ w_arr N w i ≤ 1000000000
          · obtain ⟨i, j1, j2, j3, j4⟩ := i3 hx
            exact ⟨i, by omega, j2, j3, by omega⟩
          · have : w_mn N w t lo n = 1000000000 := by
              have : ∀ k, k ≤ n → w_mn N w t lo k = 1000000000 ∨ ∃ i, i < k ∧ w_may N w t i = true ∧ lo ≤ w_arr N w i ∧ w_arr N w i ≤ 1000000000 := by
                intro k
                induction k with
                | zero => intro _; exact Or.inl rfl
                | succ k ihk =>
                  intro hk
                  rcases ihk (by omega) with e | ⟨i, e1, e2⟩
                  · simp only [w_mn]
                    by_cases ck : w_may N w t k = true ∧ lo ≤ w_arr N w k
                    · by_cases cc : w_arr N w k ≤ 1000000000
                      · exact Or.inr ⟨k, Nat.lt_succ_self k, ck.1, ck.2, cc⟩
                      · rw [if_pos ck, e]; exact Or.inl (by omega)
                    · rw [if_neg ck]; exact Or.inl e
                  · exact Or.inr ⟨i, by omega, e2⟩
              rcases this n (Nat.le_refl _) with e | e
              · exact e
              · exact absurd e hx
            rename_i hcon
            obtain ⟨i, j1, j2, j3, j4⟩ := hcon
            by_cases e : i = n
            · subst e; omega
            · exact absurd ⟨i, by omega, j2, j3, j4⟩ hx
    · rw [if_neg c]
      refine ⟨i1, fun i hi h1 h2 => ?_, fun hx => ?_⟩
      · by_cases e : i = n
        · subst e; exact absurd ⟨h1, h2⟩ c
        · exact i2 i (by omega) h1 h2
      · obtain ⟨i, j1, j2, j3, j4⟩ := hx
        by_cases e : i = n
        · subst e; exact absurd ⟨j2, j3⟩ c
        · obtain ⟨k, k1, k2⟩ := i3 ⟨i, by omega, j2, j3, j4⟩
          exact ⟨k, by omega, k2⟩
theorem m260_205 (d : Nat) {a : Nat} (h0 : ts_sh a = (0, 12)) (h : ml N w a m) (hN : wfN N) (hw : wfL N w) {t lo : Nat} (x1 x2 x4 x5 : Int32) : L260_205 (d + 3) a x1 x2 (nI (w_set N w t lo)) x4 x5 1000000000 0 m = L260_120 (d + 3) a x1 x2 (nI (w_set N w t lo)) x4 (nI (w_mn N w t lo (w 2))) (some (.inl (nI (w_mn N w t lo (w 2))))) (some (.inl (nI (w 2)))) m := by
  have h20 := hw.2.2.1
  have h220 : 2 ^ w 2 ≤ 2 ^ 20 := Nat.pow_le_pow_right (by decide) h20
  have hSl : w_set N w t lo < 2 ^ w 2 := bitsN_lt _ _
  refine lp_it (F := fun i (_ : Unit) => L260_205 (d + 3) a x1 x2 (nI (w_set N w t lo)) x4 x5 (nI (w_mn N w t lo i)) (nI i) m) (w 2) ?_ ?_ ()
  · intro i _ hi
    refine ⟨(), ?_⟩
    have htb : (w_set N w t lo).testBit i = (w_may N w t i && decide (lo ≤ w_arr N w i)) := by
      unfold w_set
      rw [bitsN_tb, decide_eq_true hi, Bool.true_and]
    have ha := w_arr_le hN hw hi
    have hmn := (w_mn_p (N := N) (w := w) t lo i).1
    rw [E260_205 _ _ _ _ _ _ _ _ _ h0, lt_gd_t g2_ok, w2_at h]
    simp (disch := omega) only [sp_len]
    rw [if_neg (by omega), m207 (d + 2) (by omega) (by omega), lt_cI_s, nI_1]
    simp only [w_mn]
    by_cases c : w_may N w t i = true ∧ lo ≤ w_arr N w i
    · rw [show (if (w_set N w t lo).testBit i = true then (1 : Int32) else 0) = 1 from if_pos (by rw [htb]; simp [c]), if_neg (by decide), m252 d h0 h hN hw hi, lt_cI_s, sp_min (by omega) (by omega), if_pos c]
    · rw [show (if (w_set N w t lo).testBit i = true then (1 : Int32) else 0) = 0 from if_neg (by rw [htb]; simp only [Bool.and_eq_true, decide_eq_true_eq]; exact c), if_pos rfl, if_neg c]
  · intro _
    rw [E260_205 _ _ _ _ _ _ _ _ _ h0, lt_gd_t g2_ok, w2_at h, if_pos (by rw [sp_len (by omega) (by omega)]; exact Nat.le_refl _)]
/-- one hour of the reference's search -/
theorem m260_s (d : Nat) {a : Nat} (h0 : ts_sh a = (0, 12)) (h : ml N w a m) (hN : wfN N) (hw : wfL N w) {t lo u C s : Nat} (hlo : lo ≤ u + 1) (hu : u < 1000000) (hC : C ≤ 30000000) (hs : s ≤ 999999) (x1 : Int32) (o6 o7 : Option ts_V) : L260_120 (d + 3) a x1 (nI s) (nI (w_set N w t lo)) (nI (C + w_sum N w t lo)) (nI u) o6 o7 m = if C + w_sum N w t (u + 1) < s then (if w_set N w t (u + 1) = 0 then some (some (.inl (-2)), m) else L260_120 (d + 3) a x1 (nI s) (nI (w_set N w t (u + 1))) (nI (C + w_sum N w t (u + 1))) (nI (w_mn N w t (u + 1) (w 2))) (some (.inl (nI (w_mn N w t (u + 1) (w 2))))) (some (.inl (nI (w 2)))) m) else some (some (.inl (nI u)), m) := by
  have h20 := hw.2.2.1
  have h220 : 2 ^ w 2 ≤ 2 ^ 20 := Nat.pow_le_pow_right (by decide) h20
  have hSl : w_set N w t (u + 1) < 2 ^ w 2 := bitsN_lt _ _
  have hsm := w_sum_le (N := N) hw t (u + 1)
  rw [E260_120, m260_123 d h0 h hN hw hlo hu, E260_123 _ _ _ _ _ _ _ _ _ h0, lt_gd_t g2_ok, w2_at h, if_pos (by rw [sp_len (by omega) (by omega)]; exact Nat.le_refl _), m260_205 d h0 h hN hw]
  simp (disch := omega) only [sp_ltn, sp_eq0]
  by_cases c : C + w_sum N w t (u + 1) < s
  · rw [if_pos c, if_pos c]
    by_cases c2 : w_set N w t (u + 1) = 0
    · rw [if_neg (by simp [c2]), if_pos c2]
    · rw [if_pos c2, if_neg c2]
  · rw [if_neg c, if_neg c]
theorem m260_x (hN : wfN N) (hw : wfL N w) {t F s u : Nat} {Z : Int} (hZ : Z = (s : Int) - F) (hF : F ≤ 999999) (hs : s ≤ 999999) (hp : 0 < Z) (hu : u < 1000000) (h0u : w 0 ≤ u) (hb : u = w 0 ∨ ∃ i, i < w 2 ∧ w_may N w t i = true ∧ w_arr N w i = u) (hc : ∀ i, i < w 2 → w_of w i = t → w_open w i = true → w_close N w i < u → ((w_fr N w t (w_close N w i) : Nat) : Int) < Z) {A B : Option lt_r} (hA : A = if F + w_cl1 w t + w_sum N w t (u + 1) < s then (if w_set N w t (u + 1) = 0 then some (some (.inl (-2)), m) else B) else some (some (.inl (nI u)), m)) (hB : ∀ i, i < w 2 → w_may N w t i = true → u + 1 ≤ w_arr N w i → (∀ i, i < w 2 → w_of w i = t → w_open w i = true → w_close N w i ≤ u → ((w_fr N w t (w_close N w i) : Nat) : Int) < Z) → B = if we N w t Z 20 = 1000000 then some (some (.inl (-2)), m) else some (some (.inl (nI (we N w t Z 20))), m)) : A = if we N w t Z 20 = 1000000 then some (some (.inl (-2)), m) else some (some (.inl (nI (we N w t Z 20))), m) := by
  have h20 := hw.2.2.1
  obtain ⟨p1, p2, p3⟩ := we_p N w t Z 20
  have hfr : w_fr N w t u = w_cl1 w t + w_sum N w t (u + 1) := w_fr_eq (N := N) (t := t) hu h0u
  rw [hA]
  by_cases c : F + w_cl1 w t + w_sum N w t (u + 1) < s
  · have hf : ∀ i, i < w 2 → w_of w i = t → w_open w i = true → w_close N w i ≤ u → ((w_fr N w t (w_close N w i) : Nat) : Int) < Z := by
      intro i h1 h2 h3 h4
      by_cases c3 : w_close N w i < u
      · exact hc i h1 h2 h3 c3
      · have : w_close N w i = u := by omega
        rw [this]; omega
    rw [if_pos c]
    by_cases c2 : ∃ i, i < w 2 ∧ w_may N w t i = true ∧ u + 1 ≤ w_arr N w i
    · obtain ⟨i, i1, i2, i3⟩ := c2
      rw [if_neg]
      · exact hB i i1 i2 i3 hf
      · intro q
        have : (w_set N w t (u + 1)).testBit i = false := by rw [q]; exact Nat.zero_testBit i
        unfold w_set at this
        rw [bitsN_tb, i2, decide_eq_true i1, decide_eq_true i3] at this
        cases this
    · have hz : w_set N w t (u + 1) = 0 := by
        refine Nat.eq_of_testBit_eq fun i => ?_
        unfold w_set
        rw [bitsN_tb, Nat.zero_testBit]
        cases q : (decide (i < w 2) && (w_may N w t i && decide (u + 1 ≤ w_arr N w i))) with
        | false => rfl
        | true =>
          simp only [Bool.and_eq_true, decide_eq_true_eq] at q
          exact absurd ⟨i, q.1, q.2.1, q.2.2⟩ c2
      rw [if_pos hz]
      by_cases e : we N w t Z 20 = 1000000
      · rw [if_pos e]
      · exfalso
        obtain ⟨i, i1, ⟨i2, i3, i4⟩, i5, i6⟩ := p2.resolve_left e
        have hl : w_close N w i < 1000000 := by omega
        have hh := (w_close_c (N := N) (t := t) hl (w_close_b hN hw i2).1 i3 i4).mp (Nat.le_refl _)
        have : w_close N w i ≤ u := by
          refine (w_close_c (N := N) (t := t) hu h0u i3 i4).mpr ?_
          rcases hh with q | q
          · exact Or.inl q
          · exact Or.inr ⟨q.1, Classical.byContradiction fun z => c2 ⟨i, i2, q.1, by omega⟩⟩
        have := hf i i2 i3 i4 this
        omega
  · rw [if_neg c]
    have hge : Z ≤ (w_fr N w t u : Nat) := by omega
    obtain ⟨i, i1, i2, i3, i4⟩ : ∃ i, i < w 2 ∧ w_of w i = t ∧ w_open w i = true ∧ w_close N w i = u := by
      rcases hb with e | ⟨i, i1, i2, i3⟩
      · have : 0 < w_fr N w t u := by omega
        obtain ⟨i, j1, j2⟩ := sumN_pos this
        by_cases q : w_of w i = t ∧ w_open w i = true ∧ w_close N w i ≤ u
        · have := (w_close_b hN hw j1).1
          exact ⟨i, j1, q.1, q.2.1, by have := q.2.2; omega⟩
        · simp only [if_neg q] at j2
          omega
      · obtain ⟨a1, a2, a3, a4⟩ := w_may_o i2
        exact ⟨i, i1, a1, a3, by rw [a4, i3]; exact Nat.max_eq_right h0u⟩
    have hle := p3 i (by omega) ⟨i1, i2, i3⟩ (by omega) (by rw [i4]; exact hge)
    have e : ¬ we N w t Z 20 = 1000000 := by omega
    obtain ⟨j, j1, ⟨j2, j3, j4⟩, j5, j6⟩ := p2.resolve_left e
    have : ¬ w_close N w j < u := fun q => by have := hc j j2 j3 j4 q; omega
    rw [if_neg e, show we N w t Z 20 = u by omega]
theorem m260_r (d : Nat) {a : Nat} (h0 : ts_sh a = (0, 12)) (h : ml N w a m) (hN : wfN N) (hw : wfL N w) {t F s : Nat} {Z : Int} (hZ : Z = (s : Int) - F) (hF : F ≤ 999999) (hs : s ≤ 999999) (hp : 0 < Z) (x1 : Int32) : ∀ (n lo u : Nat) (o6 o7 : Option ts_V), 100692 ≤ u + n → u < 1000000 → w 0 ≤ u → lo ≤ u + 1 → (u = w 0 ∨ ∃ i, i < w 2 ∧ w_may N w t i = true ∧ w_arr N w i = u) → (∀ i, i < w 2 → w_of w i = t → w_open w i = true → w_close N w i < u → ((w_fr N w t (w_close N w i) : Nat) : Int) < Z) → L260_120 (d + 3) a x1 (nI s) (nI (w_set N w t lo)) (nI (F + w_cl1 w t + w_sum N w t lo)) (nI u) o6 o7 m = if we N w t Z 20 = 1000000 then some (some (.inl (-2)), m) else some (some (.inl (nI (we N w t Z 20))), m) := by
  have h20 := hw.2.2.1
  have hc1 := w_cl1_le (N := N) hw t
  obtain ⟨p1, p2, p3⟩ := we_p N w t Z 20
  intro n
  induction n with
  | zero =>
    intro lo u o6 o7 hn hu h0u hlo hb hc
    exact m260_x hN hw hZ hF hs hp hu h0u hb hc (m260_s d h0 h hN hw hlo hu (by omega) hs x1 o6 o7) fun i hi hm ha => by have := w_arr_le hN hw hi; omega
  | succ n ih =>
    intro lo u o6 o7 hn hu h0u hlo hb hc
    refine m260_x hN hw hZ hF hs hp hu h0u hb hc (m260_s d h0 h hN hw hlo hu (by omega) hs x1 o6 o7) fun i hi hm ha hf => ?_
    have hai := w_arr_le hN hw hi
    obtain ⟨q1, q2, q3⟩ := w_mn_p (N := N) (w := w) t (u + 1) (w 2)
    obtain ⟨k, k1, k2, k3, k4⟩ := q3 ⟨i, hi, hm, ha, by omega⟩
    have hak := w_arr_le hN hw k1
    refine ih (u + 1) _ _ _ (by omega) (by omega) (by omega) (by omega) (Or.inr ⟨k, k1, k2, k4⟩) fun j j1 j2 j3 j4 => hf j j1 j2 j3 ?_
    have hh := (w_close_c (N := N) (t := t) (u := w_mn N w t (u + 1) (w 2) - 1) (by omega) (by omega) j2 j3).mp (by omega)
    refine (w_close_c (N := N) (t := t) hu h0u j2 j3).mpr ?_
    rcases hh with z | z
    · exact Or.inl z
    · refine Or.inr ⟨z.1, Classical.byContradiction fun y => ?_⟩
      have := q2 j j1 z.1 (by omega)
      omega
/-- when -/
theorem op_when (d : Nat) (hr : RR dist wl T m) (x y : Int32) : OP dist wl d T T 152 260 [.inl x, .inl y] m := by
  have hr0 := hr
  obtain ⟨N, w, vs, hs, hl, hc, hm⟩ := hr
  have hN := hs.wfN
  have hw := hs.wfL
  have h20 := hw.2.2.1
  have h6 := hw.2.1
  have hh0 := hw.1
  rcases c90 hs.cl hw x with ⟨t, ht, rfl, e⟩ | ⟨hx, e⟩
  · rcases k79 (d + 28) y m with ⟨s, hsb, rfl, ey⟩ | ⟨hy, ey⟩
    · obtain ⟨F, hF⟩ : ∃ F, F = w (4 + 2 * t) - w_used w t := ⟨_, rfl⟩
      have bF : F ≤ 999999 := by have := (hw.2.2.2.2.1 t ht).1; omega
      obtain ⟨Z, hZ⟩ : ∃ Z : Int, Z = (s : Int) - F := ⟨_, rfl⟩
      have hsub : nI s - nI F = iZ Z := by rw [iZ_n, iZ_n, iZ_sub, hZ]
      have hcl : lt_ev (d + 30) 152 [.inr (.inr (some 0)), .inl (nI t), .inl (nI s)] m = _ := E152 (d + 29) 0 _ _ sx m
      rw [p90 (d + 28) _ _ sL m, lt_cI_s, e, if_neg (by decide), ey, lt_cI_s, if_pos (by decide), k96 (d + 26) sL hs.cl hw ht, lt_cI_s, ← hF, hsub] at hcl
      have hgt : (0 : Int32) < iZ Z ↔ 0 < Z := Iff.of_eq (iZ_gt0 (by omega) (by omega))
      have h := hs.t0.ml
      have w0 : (lm_i m 711 15 0).1 (711 + 1) (0 : Int32).toNatClampNeg = nI (w 0) := h.1 0 (by omega)
      have hsc := w_cl1_le (N := N) hw t
      have hml : lt_ev (d + 30) 260 [.inr (.inr (some 711)), .inl (nI t), .inl (nI s)] m = L260_120 (d + 26 + 3) 711 (nI t) (nI s) (nI (w_set N w t 0)) (nI (F + w_cl1 w t + w_sum N w t 0)) (nI (w 0)) none none (lm_i m 711 15 0) := by
        refine (E260 (d + 29) 711 _ _ sy m).trans ?_
        rw [m213 (d + 27) sy h hw, lt_cI_s, sp_i1 ht (by omega), if_neg (by decide), m258_t (d + 27) hsb, lt_cI_s, if_pos (by decide), m219 (d + 24) sy h hw ht, lt_cI_s, ← hF]
        have e1 : w_set N w t 0 = bitsN (w_may N w t) (w 2) := bitsN_congr fun i _ => by simp
        have e2 : w_sum N w t 0 = 0 := sumN_zero fun i _ => if_neg (fun q => by omega)
        rw [e1, e2, Nat.add_zero]
        refine lp_it (F := fun i (_ : Unit) => L260_34 (d + 29) 711 (nI t) (nI s) (nI (bitsN (w_may N w t) i)) (nI (F + sumN (fun i => if w_of w i = t ∧ w_st w i = 1 then w_sh w i else 0) i)) (nI i) (lm_i m 711 15 0)) (w 2) ?_ ?_ ()
        · intro i _ hi
          refine ⟨(), ?_⟩
          have b6 := wf_tr hw hi
          have b7 := wf_st hw hi
          rw [E260_34 _ _ _ _ _ _ _ sy, lt_gd_t g2_ok, w2_at h]
          simp (disch := omega) only [sp_len, sumN, bitsN_succ]
          rw [if_neg (by omega), m198_of (d + 28) sy h (by omega), lt_cI_s]
          simp (disch := omega) only [sp_eqn]
          by_cases c1 : w_of w i = t
          · rw [if_pos c1, m197 (d + 27) sy h (by omega), lt_cI_s]
            simp (disch := omega) only [q_1, sp_eqn]
            by_cases c2 : w_st w i = 1
            · have hm : ¬ w_may N w t i = true := fun q => by have := (w_may_o q).2.1; omega
              have := m198_sh (d + 28) sy h (i := i) (by omega)
              rw [if_neg (by simp [c2]), this, lt_cI_s, E260_81 _ _ _ _ _ _ _ sy, m197 (d + 27) sy h (by omega), lt_cI_s, if_pos (by rw [sp_eq0 (by omega)]; omega), if_neg hm, if_pos ⟨c1, c2⟩, nI_add, nI_1, Nat.add_assoc]; rfl
            · rw [if_pos c2, E260_81 _ _ _ _ _ _ _ sy, m197 (d + 27) sy h (by omega), lt_cI_s, if_neg (show ¬ (w_of w i = t ∧ w_st w i = 1) from fun q => c2 q.2)]
              simp (disch := omega) only [sp_eq0]
              by_cases c3 : w_st w i = 0
              · rw [if_neg (by simp [c3]), m251 (d + 25) sy h hN hw hi, lt_cI_s]
                by_cases c4 : w_late N w i = true
                · have hm : ¬ w_may N w t i = true := by unfold w_may; simp [c4]
                  rw [show (if w_late N w i = true then (1 : Int32) else 0) = 1 from if_pos c4, if_pos (by decide), nI_1, if_neg hm]; rfl
                · have hm : w_may N w t i = true := by unfold w_may; simp [c1, c3, c4]
                  rw [show (if w_late N w i = true then (1 : Int32) else 0) = 0 from if_neg c4, if_neg (by decide), nI_1, if_pos hm, sp_bit (by omega), sp_orI (bitsN_lt _ i)]; rfl
              · have hm : ¬ w_may N w t i = true := fun q => c3 (w_may_o q).2.1
                rw [if_pos c3, nI_1, if_neg hm]; rfl
          · have hm : ¬ w_may N w t i = true := fun q => c1 (w_may_o q).1
            rw [if_neg c1, nI_1, if_neg hm, if_neg (fun q => c1 q.1)]; rfl
        · intro _
          rw [E260_34 _ _ _ _ _ _ _ sy, lt_gd_t g2_ok, w2_at h, if_pos (by rw [sp_len (by omega) (by omega)]; exact Nat.le_refl _), lt_gd_t (by decide), w0]
          rfl
      by_cases cz : 0 < Z
      · have hres := m260_r (d + 26) sy h hN hw (t := t) hZ bF hsb cz (nI t) 100692 0 (w 0) none none (by omega) (by omega) (Nat.le_refl _) (by omega) (Or.inl rfl) (fun i hi _ _ h4 => by have := (w_close_b hN hw hi).1; omega)
        rw [if_pos (hgt.mpr cz)] at hcl
        have hcl2 := hcl.trans (k152_l (d + 22) hs ht (nI s) (Z := Z) (by omega) (by omega))
        have hml2 := hml.trans hres
        by_cases c : we N w t Z 20 = 1000000
        · rw [if_pos c] at hcl2 hml2
          exact OP_q _ hr0 hcl2 hml2
        · rw [if_neg c] at hcl2 hml2
          exact OP_q _ hr0 hcl2 hml2
      · rw [if_neg (fun q => cz (hgt.mp q)), hs.cl.1] at hcl
        refine OP_q (.inl (nI (w 0))) hr0 hcl (hml.trans ?_)
        rw [m260_s (d + 26) sy h hN hw (by omega) (by omega) (by omega) hsb, if_neg (by omega)]
    · refine OP_q (.inl (-1)) hr0 ?_ ?_
      · refine (E152 (d + 29) 0 _ _ sx m).trans ?_
        rw [p90 (d + 28) _ _ sL m, lt_cI_s, e, if_neg (by decide), ey, lt_cI_s, if_neg (by decide)]
      · refine (E260 (d + 29) 711 _ _ sy m).trans ?_
        rw [m213 (d + 27) sy hs.t0.ml hw, lt_cI_s, sp_i1 ht (by omega), if_neg (by decide), m258_f (d + 27) hy, lt_cI_s, if_neg (by decide)]
  · refine OP_q (.inl (-1)) hr0 ?_ ?_
    · refine (E152 (d + 29) 0 _ _ sx m).trans ?_
      rw [p90 (d + 28) _ _ sL m, lt_cI_s, e, if_pos (by decide)]
    · refine (E260 (d + 29) 711 _ _ sy m).trans ?_
      rw [m213 (d + 27) sy hs.t0.ml hw, lt_cI_s, sp_i0 (by omega) hx, if_pos (by decide)]
end WHEN

/-! ===== the class's NET; roads to go, late, closing hours ===== -/
def orN (f : Nat → Nat) : Nat → Nat
  | 0 => 0
  | n + 1 => orN f n ||| 2 ^ f n
theorem orN_lt {f : Nat → Nat} {n c : Nat} (h : ∀ i, i < n → f i < c) : orN f n < 2 ^ c := by
  induction n with
  | zero => exact Nat.pow_pos (by decide)
  | succ n ih => exact Nat.or_lt_two_pow (ih fun i hi => h i (by omega)) (Nat.pow_lt_pow_right (by decide) (h n (by omega)))
theorem orN_bit {f : Nat → Nat} {n o : Nat} : (orN f n).testBit o = true ↔ ∃ i, i < n ∧ f i = o := by
  induction n with
  | zero => simp [orN]
  | succ n ih =>
    simp only [orN, Nat.testBit_or, Bool.or_eq_true, ih, Nat.testBit_two_pow, decide_eq_true_eq]
    constructor
    · rintro (⟨i, h1, h2⟩ | h)
      · exact ⟨i, by omega, h2⟩
      · exact ⟨n, by omega, h⟩
    · rintro ⟨i, h1, h2⟩
      by_cases hi : i = n
      · subst hi; exact Or.inr h2
      · exact Or.inl ⟨i, by omega, h2⟩
theorem sp_orN (a b : Nat) : nI a ||| nI b = nI (a ||| b) := by
  unfold nI
  apply Int32.toBitVec_inj.mp
  simp
theorem sp_andN (a b : Nat) : nI a &&& nI b = nI (a &&& b) := by
  unfold nI
  apply Int32.toBitVec_inj.mp
  simp
theorem sp_sl {n : Nat} (h : n < 32) : ((nI n &&& 31).toBitVec.smod 32).toNat = n := by
  have : ∀ n, n < 32 → ((nI n &&& 31).toBitVec.smod 32).toNat = n := by decide +kernel
  exact this n h
theorem sp_tb {v o : Nat} (hv : v < 2 ^ 31) (ho : o < 31) : ((nI v >>> (nI o &&& 31)) &&& (1 : Int32)) = nI (if v.testBit o then 1 else 0) := by
  rw [pk_shrN hv _ o (sp_sl (by omega)), q_1, sp_andN, Nat.and_one_is_mod]
  congr 1
  rw [Nat.testBit_eq_decide_div_mod_eq]
  have : v / 2 ^ o % 2 < 2 := Nat.mod_lt _ (by decide)
  by_cases c : v / 2 ^ o % 2 = 1
  · simp [c]
  · simp [c]; omega
/-- the class's NET at A -/
def nR (N : NT) (A : Nat) (m : lt_m) : Prop := m.1 A 6 = nI N.1 ∧ m.1 A 8 = nI N.2.1 ∧ (∀ o, o < N.1 → m.1 (A + 1) o = nI (N.2.2.2.1 o)) ∧ (∀ g, g < N.2.1 → m.1 (A + 2) g = nI (N.2.2.2.2 g)) ∧ (∀ a b, a < N.1 → b < N.1 → m.1 (A + 3) (12 * a + b) = nI (N.2.2.1 a b)) ∧ ∀ a, a < N.1 → m.1 (A + 5) a = nI (bitsN (fun b => decide (0 < N.2.2.1 a b)) N.1)
section NET
variable {N : NT} {w : Nat → Nat} {L A : Nat} {m : lt_m}
theorem c14 (h : nR N A m) (hN : wfN N) (x : Int32) : (∃ t, t < N.1 ∧ x = nI t ∧ v14 m A x = 1) ∨ ((x < 0 ∨ nI N.1 ≤ x) ∧ v14 m A x = 0) := by
  unfold v14
  rw [h.1]
  have b := hN.2.1
  rcases pk_ix x (n := N.1) (by omega) with c | c | ⟨t, ht, rfl⟩
  · exact Or.inr ⟨Or.inl c, by rw [if_pos c]⟩
  · refine Or.inr ⟨Or.inr c, ?_⟩
    rw [if_pos c]
    split <;> rfl
  · refine Or.inl ⟨t, ht, rfl, ?_⟩
    simp (disch := omega) only [q_0, q_1, sp_ltn, sp_len]
    rw [if_neg (by omega), if_neg (by omega)]
theorem c14n (h : nR N A m) (hN : wfN N) {t : Nat} (ht : t < N.1) : v14 m A (nI t) = 1 := by
  have b := hN.2.1
  unfold v14
  rw [h.1]
  simp (disch := omega) only [q_0, q_1, sp_ltn, sp_len]
  rw [if_neg (by omega), if_neg (by omega)]
theorem c103 (h : nR N A m) (hN : wfN N) (x : Int32) : (∃ t, t < N.2.1 ∧ x = nI t ∧ v103 m A x = 1) ∨ ((x < 0 ∨ nI N.2.1 ≤ x) ∧ v103 m A x = 0) := by
  unfold v103
  rw [h.2.1]
  have b := hN.2.2.1
  rcases pk_ix x (n := N.2.1) (by omega) with c | c | ⟨t, ht, rfl⟩
  · exact Or.inr ⟨Or.inl c, by rw [if_pos c]⟩
  · refine Or.inr ⟨Or.inr c, ?_⟩
    rw [if_pos c]
    split <;> rfl
  · refine Or.inl ⟨t, ht, rfl, ?_⟩
    simp (disch := omega) only [q_0, q_1, sp_ltn, sp_len]
    rw [if_neg (by omega), if_neg (by omega)]
theorem c15 {a b : Nat} : v15 m (nI a) (nI b) = nI (12 * a + b) := by
  unfold v15
  rw [q_12, pk_mul, nI_add, Nat.mul_comm]
theorem c13 (h : nR N A m) (hN : wfN N) {a b : Nat} (ha : a < N.1) (hb : b < N.1) : v13 m A (nI a) (nI b) = nI (N.2.2.1 a b) := by
  have hn := hN.2.1
  unfold v13
  rw [c14n h hN ha, c14n h hN hb, if_neg (by decide), if_neg (by decide), c15, c16 (by omega) (by omega), h.2.2.2.2.1 a b ha hb]
theorem c14m : v14 m A (-1) = 0 := by
  unfold v14
  rw [if_pos (by decide)]
theorem c13m {x : Int32} : v13 m A (-1) x = 0 := by
  unfold v13
  rw [c14m, if_pos rfl]
theorem c21 (h : nR N A m) (hN : wfN N) {o : Nat} (ho : o < N.1) : v21 m A (nI o) = nI (N.2.2.2.1 o) := by
  have hn := hN.2.1
  unfold v21
  rw [c16 (by omega) (by omega), h.2.2.1 o ho]
theorem c25 (h : nR N A m) (hN : wfN N) {g : Nat} (hg : g < N.2.1) : v25 m A (nI g) = nI (N.2.2.2.2 g) := by
  have hn := hN.2.2.1
  unfold v25
  rw [c16 (by omega) (by omega), h.2.2.2.1 g hg]
theorem c49 (h : nR N A m) (hN : wfN N) {a : Nat} (ha : a < N.1) : v49 m A (nI a) = nI (bitsN (fun b => decide (0 < N.2.2.1 a b)) N.1) := by
  have hn := hN.2.1
  unfold v49
  rw [c16 (by omega) (by omega), h.2.2.2.2.2 a ha]
def w_left (N : NT) (w : Nat → Nat) (i : Nat) : Nat := sumN (fun j => N.2.2.1 (w_rt w i (w_sp w i + j - 1)) (w_rt w i (w_sp w i + j))) (w_lg w i - w_sp w i)
def w_arr (N : NT) (w : Nat → Nat) (i : Nat) : Nat := w_at w i (w_sp w i - 1) + w_left N w i
def w_late (N : NT) (w : Nat → Nat) (i : Nat) : Bool := decide (w_st w i = 0 ∧ w_tm w i < w_arr N w i)
theorem w_left_le (hN : wfN N) (hw : wfL N w) {i : Nat} (hi : i < w 2) : w_left N w i ≤ 693 := by
  obtain ⟨a, b, c, d⟩ := wf_sp hw hi
  have := sumN_bound (n := w_lg w i - w_sp w i) (c := 99) (f := fun j => N.2.2.1 (w_rt w i (w_sp w i + j - 1)) (w_rt w i (w_sp w i + j))) (fun j hj => hN.2.2.2.1 _ _ (wf_rt hw hi (by omega)) (wf_rt hw hi (by omega)))
  unfold w_left
  have : (w_lg w i - w_sp w i) * 99 ≤ 7 * 99 := Nat.mul_le_mul_right _ (by omega)
  omega
theorem wf_at (hw : wfL N w) {i k : Nat} (hi : i < w 2) (hk : k < w_sp w i) : w_at w i k ≤ w 0 := by
  obtain ⟨-, -, -, -, -, -, -, -, -, -, -, -, -, -, -, a, -⟩ := hw.2.2.2.2.2 i hi
  exact a k hk
theorem w_arr_le (hN : wfN N) (hw : wfL N w) {i : Nat} (hi : i < w 2) : w_arr N w i ≤ 100692 := by
  obtain ⟨a, b, c, d⟩ := wf_sp hw hi
  have := w_left_le hN hw hi
  have := wf_at hw hi (k := w_sp w i - 1) (by omega)
  have := hw.1
  unfold w_arr
  omega
/-- hoursToGo -/
theorem k133 (d : Nat) {a0 : Nat} (h0 : ts_sh a0 = (0, 11)) (hA : ts_sh m.2.2.1 = (0, 5)) (hL : ts_sh L = (0, 2)) (hn : nR N m.2.2.1 m) (h : cl N w L m) (hN : wfN N) (hw : wfL N w) {i : Nat} (hi : i < w 2) : lt_ev (d + 3) 133 [.inr (.inr (some a0)), .inr (.inr (some (L + 3 + 5 + 3 * i)))] m = some (some (.inl (nI (w_left N w i))), m) := by
  have h20 := hw.2.2.1
  have hq := sh_mv hL (i := i) (by omega)
  refine (E133 (d + 2) a0 _ h0 hq m).trans ?_
  obtain ⟨a, b, c, dd⟩ := wf_sp hw hi
  obtain ⟨-, -, -, -, -, -, -, e8, e9, -⟩ := h.2.2.2.2.1 i hi
  rw [e9]
  refine lp_it (F := fun j (_ : Unit) => L133_7 (d + 2) a0 (L + 3 + 5 + 3 * i) (nI (sumN (fun j => N.2.2.1 (w_rt w i (w_sp w i + j - 1)) (w_rt w i (w_sp w i + j))) j)) (nI (w_sp w i + j)) m) (w_lg w i - w_sp w i) ?_ ?_ ()
  · intro j o hj
    refine ⟨(), ?_⟩
    rw [E133_7 _ _ _ _ _ h0 hq, e8]
    simp (disch := omega) only [sp_len]
    rw [if_neg (by omega), q_1, pk_sub (by omega), p64 d _ _ hq m, lt_cI_s, c64 h hw hi (by omega), p64 d _ _ hq m, lt_cI_s, c64 h hw hi (by omega), lt_gd_t hA, p13 d _ _ _ hA m, lt_cI_s, c13 hn hN (wf_rt hw hi (by omega)) (wf_rt hw hi (by omega)), nI_add, nI_add]
    rfl
  · intro o
    rw [E133_7 _ _ _ _ _ h0 hq, e8]
    simp (disch := omega) only [sp_len]
    rw [if_pos (by omega)]
    rfl
/-- hourOfArrival -/
theorem k142 (d : Nat) {a0 : Nat} (h0 : ts_sh a0 = (0, 11)) (hA : ts_sh m.2.2.1 = (0, 5)) (hL : ts_sh L = (0, 2)) (hn : nR N m.2.2.1 m) (h : cl N w L m) (hN : wfN N) (hw : wfL N w) {i : Nat} (hi : i < w 2) : lt_ev (d + 4) 142 [.inr (.inr (some a0)), .inr (.inr (some (L + 3 + 5 + 3 * i)))] m = some (some (.inl (nI (w_arr N w i))), m) := by
  have h20 := hw.2.2.1
  have hq := sh_mv hL (i := i) (by omega)
  refine (E142 (d + 3) a0 _ h0 hq m).trans ?_
  obtain ⟨a, b, c, dd⟩ := wf_sp hw hi
  obtain ⟨-, -, -, -, -, -, -, e8, e9, -⟩ := h.2.2.2.2.1 i hi
  rw [e9, q_1, pk_sub (by omega), p131 (d + 1) _ _ hq m, lt_cI_s, c131 h hw hi (by omega), k133 d h0 hA hL hn h hN hw hi, lt_cI_s, nI_add]
  rfl
/-- isLate -/
theorem k141 (d : Nat) {a0 : Nat} (h0 : ts_sh a0 = (0, 11)) (hA : ts_sh m.2.2.1 = (0, 5)) (hL : ts_sh L = (0, 2)) (hn : nR N m.2.2.1 m) (h : cl N w L m) (hN : wfN N) (hw : wfL N w) {i : Nat} (hi : i < 20) : lt_ev (d + 5) 141 [.inr (.inr (some a0)), .inr (.inr (some (L + 3 + 5 + 3 * i)))] m = some (some (.inl (if i < w 2 ∧ w_late N w i = true then 1 else 0)), m) := by
  have h20 := hw.2.2.1
  have hq := sh_mv hL hi
  refine (E141 (d + 4) a0 _ h0 hq m).trans ?_
  by_cases h2 : i < w 2
  · obtain ⟨-, -, -, -, -, e6, e7, -⟩ := h.2.2.2.2.1 i h2
    have b7 := wf_st hw h2
    have bt : w_tm w i ≤ 200000 := (hw.2.2.2.2.2 i h2).2.2.2.2.2.2.1
    have ba := w_arr_le hN hw h2
    rw [e7]
    simp (disch := omega) only [q_0, sp_eqn]
    by_cases c : w_st w i = 0
    · rw [if_neg (by simp [c]), k142 d h0 hA hL hn h hN hw h2, lt_cI_s, e6]
      simp (disch := omega) only [sp_len]
      by_cases c2 : w_arr N w i ≤ w_tm w i
      · rw [if_pos c2, if_neg (by simp [w_late]; omega)]
      · rw [if_neg c2, if_pos (by simp [w_late, h2]; omega)]
    · rw [if_pos c, if_neg (by simp [w_late, c])]
  · rw [h.2.2.2.2.2.1 i (by omega) hi, if_pos (by decide), if_neg (by simp [h2])]
def w_close (N : NT) (w : Nat → Nat) (i : Nat) : Nat := if w_st w i = 1 then w 0 else if w_st w i = 0 ∧ w_arr N w i ≤ w_tm w i then max (w 0) (w_arr N w i) else 1000000
theorem sp_max {a b : Nat} (ha : a < 2 ^ 31) (hb : b < 2 ^ 31) : lm_max (nI a) (nI b) = nI (max a b) := by
  unfold lm_max
  simp (disch := omega) only [sp_ltn]
  split
  · rw [Nat.max_eq_right (by omega)]
  · rw [Nat.max_eq_left (by omega)]
theorem sp_min {a b : Nat} (ha : a < 2 ^ 31) (hb : b < 2 ^ 31) : lm_min (nI a) (nI b) = nI (min a b) := by
  unfold lm_min
  simp (disch := omega) only [sp_ltn]
  split
  · rw [Nat.min_eq_right (by omega)]
  · rw [Nat.min_eq_left (by omega)]
/-- closingHour -/
theorem k153 (d : Nat) {a0 : Nat} (h0 : ts_sh a0 = (0, 11)) (hA : ts_sh m.2.2.1 = (0, 5)) (hn : nR N m.2.2.1 m) (h : cl N w (a0 + 13) m) (hN : wfN N) (hw : wfL N w) {i : Nat} (hi : i < w 2) : lt_ev (d + 5) 153 [.inr (.inr (some a0)), .inr (.inr (some ((a0 + 13) + 3 + 5 + 3 * i)))] m = some (some (.inl (nI (w_close N w i))), m) := by
  have h20 := hw.2.2.1
  have hL : ts_sh (a0 + 13) = (0, 2) := sf_of h0 5 (by decide) (by decide)
  have hq := sh_mv hL (i := i) (by omega)
  refine (E153 (d + 4) a0 _ h0 hq m).trans ?_
  obtain ⟨-, -, -, -, -, e6, e7, -⟩ := h.2.2.2.2.1 i hi
  have b7 := wf_st hw hi
  have bt : w_tm w i ≤ 200000 := (hw.2.2.2.2.2 i hi).2.2.2.2.2.2.1
  have ba := w_arr_le hN hw hi
  have b0 := hw.1
  rw [e7, h.1]
  simp (disch := omega) only [q_1, sp_eqn]
  by_cases c : w_st w i = 1
  · rw [if_neg (by simp [c])]
    simp [w_close, c]
  · rw [if_pos c, k142 d h0 hA hL hn h hN hw hi, lt_cI_s, e7, e6, h.1]
    simp (disch := omega) only [q_0, sp_eqn, sp_len]
    by_cases c0 : w_st w i = 0
    · rw [if_neg (by simp [c0])]
      by_cases c2 : w_arr N w i ≤ w_tm w i
      · rw [if_pos c2, sp_max (by omega) (by omega)]
        simp [w_close, c0, c2]
      · rw [if_neg c2]
        simp only [w_close, c0, c2, and_false, if_false]
        rfl
    · rw [if_pos c0]
      simp only [w_close, c, c0, false_and, if_false]
      rfl
/-- freedUntil -/
theorem k154 (d : Nat) {a0 : Nat} (h0 : ts_sh a0 = (0, 11)) (hA : ts_sh m.2.2.1 = (0, 5)) (hn : nR N m.2.2.1 m) (h : cl N w (a0 + 13) m) (hN : wfN N) (hw : wfL N w) {t u : Nat} (ht : t < 2 ^ 31) (hu : u < 2 ^ 31) : lt_ev (d + 6) 154 [.inr (.inr (some a0)), .inl (nI t), .inl (nI u)] m = some (some (.inl (nI (sumN (fun i => if w_of w i = t ∧ w_open w i = true ∧ w_close N w i ≤ u then w_sh w i else 0) (w 2)))), m) := by
  have h20 := hw.2.2.1
  have hL : ts_sh (a0 + 13) = (0, 2) := sf_of h0 5 (by decide) (by decide)
  refine (E154 (d + 5) a0 _ _ h0 m).trans ?_
  have e : sumN (fun i => if w_of w i = t ∧ w_open w i = true ∧ w_close N w i ≤ u then w_sh w i else 0) (w 2) = sumN (fun i => if i < w 2 ∧ w_of w i = t ∧ w_open w i = true ∧ w_close N w i ≤ u then w_sh w i else 0) 20 := by
    rw [sumN_ext (a := w 2) (b := 20) (by omega) (fun i h1 h2 => by rw [if_neg (by omega)])]
    exact sumN_congr fun i hi => by simp [hi]
  rw [e]
  refine lp_it (F := fun i o => L154_19 (d + 5) a0 (nI t) (nI u) (nI (sumN (fun i => if i < w 2 ∧ w_of w i = t ∧ w_open w i = true ∧ w_close N w i ≤ u then w_sh w i else 0) i)) (nI i) o m) 20 ?_ ?_ none
  · intro i o hi
    refine ⟨some (.inr (.inr (some ((a0 + 13) + 3 + 5 + 3 * i)))), ?_⟩
    rw [E154_19 _ _ _ _ _ _ _ h0]
    simp (disch := omega) only [q_20, sp_len, nI_clamp]
    rw [if_neg (by omega), lt_gd_t ⟨nI_pos' (by omega), hi⟩, p92 (d + 4) _ _ (sh_mv hL hi) m, lt_cI_s, c92 h hw hi ht]
    simp only [sumN]
    by_cases c : i < w 2 ∧ w_of w i = t ∧ w_open w i = true
    · have hc : w_close N w i < 2 ^ 31 := by
        have := w_arr_le hN hw c.1
        have := hw.1
        unfold w_close
        split
        · omega
        · split <;> omega
      rw [if_pos c, if_neg (by decide), k153 d h0 hA hn h hN hw c.1, lt_cI_s]
      simp (disch := omega) only [sp_ltn]
      by_cases c2 : u < w_close N w i
      · rw [if_pos c2, if_neg (by omega), nI_1]; rfl
      · rw [if_neg c2, if_pos ⟨c.1, c.2.1, c.2.2, by omega⟩, (h.2.2.2.2.1 i c.1).2.2.2.2.1, nI_add, nI_1]
    · rw [if_neg c, if_pos rfl, nI_1, if_neg (fun q => c ⟨q.1, q.2.1, q.2.2.1⟩)]; rfl
  · intro o
    rw [E154_19 _ _ _ _ _ _ _ h0, if_pos (by decide)]
def w_comes (w : Nat → Nat) (o : Nat) : Nat := bitsN (fun i => w_goes w i && (orN (fun j => w_rt w i (w_sp w i + j)) (w_lg w i - w_sp w i)).testBit o) (w 2)
end NET

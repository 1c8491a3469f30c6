/-! ===== the reference: its numbers, sums and sets ===== -/
/-- the reference at a holds w and the NET -/
def ml (N : NT) (w : Nat → Nat) (a : Nat) (m : lt_m) : Prop := (∀ k, k < 626 → m.1 (a + 1) k = nI (w k)) ∧ m.1 a 8 = nI N.1 ∧ m.1 a 10 = nI N.2.1 ∧ (∀ o, o < N.1 → m.1 (a + 4) o = nI (N.2.2.2.1 o)) ∧ (∀ g, g < N.2.1 → m.1 (a + 6) g = nI (N.2.2.2.2 g)) ∧ ∀ x y, x < N.1 → y < N.1 → m.1 (a + 5) (12 * x + y) = nI (N.2.2.1 x y)
theorem sp_cmp_lt (x y : Int64) : (lg_cmp x y < 0) ↔ x.toInt < y.toInt := by
  unfold lg_cmp
  simp only [gt_iff_lt, Int64.lt_iff_toInt_lt, ← Int64.toInt_inj]
  have e1 : ((1 : Int32) < 0) = False := by decide
  have e2 : ((0 : Int32) < 0) = False := by decide
  have e3 : ((-1 : Int32) < 0) = True := by decide
  split
  · rw [e1]; simp; omega
  · split
    · rw [e2]; simp; omega
    · rw [e3]; simp; omega
theorem sp_cmp_gt (x y : Int64) : (0 < lg_cmp x y) ↔ y.toInt < x.toInt := by
  unfold lg_cmp
  simp only [gt_iff_lt, Int64.lt_iff_toInt_lt, ← Int64.toInt_inj]
  have e1 : ((0 : Int32) < 1) = True := by decide
  have e2 : ((0 : Int32) < 0) = False := by decide
  have e3 : ((0 : Int32) < -1) = False := by decide
  split
  · rw [e1]; simp; omega
  · split
    · rw [e2]; simp; omega
    · rw [e3]; simp; omega
section REF
variable {N : NT} {w : Nat → Nat} {a : Nat} {m : lt_m}
theorem k181 (d : Nat) (x y z : Int64) : lt_ev (d + 1) 181 [.inr (.inl x), .inr (.inl y), .inr (.inl z)] m = some (some (.inl (if y.toInt ≤ x.toInt ∧ x.toInt ≤ z.toInt then 1 else 0)), m) := by
  refine (E181 d x y z m).trans ?_
  by_cases c1 : x.toInt < y.toInt
  · rw [if_pos ((sp_cmp_lt x y).mpr c1), if_neg (by omega)]
  · rw [if_neg (fun q => c1 ((sp_cmp_lt x y).mp q))]
    by_cases c2 : z.toInt < x.toInt
    · rw [if_pos ((sp_cmp_gt x z).mpr c2), if_neg (by omega)]
    · rw [if_neg (fun q => c2 ((sp_cmp_gt x z).mp q)), if_pos (by omega)]
theorem k181n (d : Nat) (x : Int32) {n : Nat} (hn : n < 2 ^ 30) : lt_ev (d + 1) 181 [.inr (.inl x.toInt64), .inr (.inl (0 : Int64)), .inr (.inl (nI n - 1).toInt64)] m = some (some (.inl (if 0 ≤ x.toInt ∧ x.toInt < n then 1 else 0)), m) := by
  rw [k181]
  have e0 : (0 : Int64).toInt = 0 := by decide
  have e1 : (nI n - 1).toInt = (n : Int) - 1 := by
    have := pk_sub_toInt (a := n) (b := 1) hn (by omega)
    rw [q_1, this]; rfl
  rw [Int32.toInt_toInt64, Int32.toInt_toInt64, e0, e1]
  congr 4
  by_cases c : 0 ≤ x.toInt ∧ x.toInt < (n : Int)
  · rw [if_pos c, if_pos (by omega)]
  · rw [if_neg c, if_neg (by omega)]
theorem sp_gone {P : Prop} [Decidable P] : (if P then (1 : Int32) else 0) = 0 ∨ (if P then (1 : Int32) else 0) = 1 := by
  split
  · exact Or.inr rfl
  · exact Or.inl rfl
theorem sp_i1 {t n : Nat} (ht : t < n) (hn : n < 2 ^ 30) : (if 0 ≤ (nI t).toInt ∧ (nI t).toInt < n then (1 : Int32) else 0) = 1 := by
  rw [nI_toInt (by omega), if_pos (by omega)]
theorem sp_i0 {x : Int32} {n : Nat} (hn : n < 2 ^ 30) (h : x < 0 ∨ nI n ≤ x) : (if 0 ≤ x.toInt ∧ x.toInt < n then (1 : Int32) else 0) = 0 := by
  rw [if_neg]
  rcases h with h | h
  · rw [Int32.lt_iff_toInt_lt, Int32.toInt_zero] at h; omega
  · rw [Int32.le_iff_toInt_le, nI_toInt (by omega)] at h; omega
/-- isOffice, isGoods, isTrader, isMove -/
theorem m193 (d : Nat) (h0 : ts_sh a = (0, 12)) (h : ml N w a m) (hN : wfN N) (x : Int32) : lt_ev (d + 2) 193 [.inr (.inr (some a)), .inl x] m = some (some (.inl (if 0 ≤ x.toInt ∧ x.toInt < N.1 then 1 else 0)), m) := by
  have hn := hN.2.1
  refine (E193 (d + 1) a x h0 m).trans ?_
  rw [h.2.1, k181n d x (by omega), lt_cI_s, lt_gd_t sp_gone]
theorem m226 (d : Nat) (h0 : ts_sh a = (0, 12)) (h : ml N w a m) (hN : wfN N) (x : Int32) : lt_ev (d + 2) 226 [.inr (.inr (some a)), .inl x] m = some (some (.inl (if 0 ≤ x.toInt ∧ x.toInt < N.2.1 then 1 else 0)), m) := by
  have hn := hN.2.2.1
  refine (E226 (d + 1) a x h0 m).trans ?_
  rw [h.2.2.1, k181n d x (by omega), lt_cI_s, lt_gd_t sp_gone]
theorem m213 (d : Nat) (h0 : ts_sh a = (0, 12)) (h : ml N w a m) (hw : wfL N w) (x : Int32) : lt_ev (d + 2) 213 [.inr (.inr (some a)), .inl x] m = some (some (.inl (if 0 ≤ x.toInt ∧ x.toInt < w 1 then 1 else 0)), m) := by
  have hn := hw.2.1
  refine (E213 (d + 1) a x h0 m).trans ?_
  rw [lt_gd_t (by decide), show (1 : Int32).toNatClampNeg = 1 by decide, h.1 1 (by omega), k181n d x (by omega), lt_cI_s, lt_gd_t sp_gone]
theorem m231 (d : Nat) (h0 : ts_sh a = (0, 12)) (h : ml N w a m) (hw : wfL N w) (x : Int32) : lt_ev (d + 2) 231 [.inr (.inr (some a)), .inl x] m = some (some (.inl (if 0 ≤ x.toInt ∧ x.toInt < w 2 then 1 else 0)), m) := by
  have hn := hw.2.2.1
  refine (E231 (d + 1) a x h0 m).trans ?_
  rw [lt_gd_t (by decide), show (2 : Int32).toNatClampNeg = 2 by decide, h.1 2 (by omega), k181n d x (by omega), lt_cI_s, lt_gd_t sp_gone]
/-- of -/
theorem m198 (d : Nat) (h0 : ts_sh a = (0, 12)) (h : ml N w a m) {i k : Nat} (hi : i < 20) (hk : k < 26) : lt_ev (d + 1) 198 [.inr (.inr (some a)), .inl (nI i), .inl (nI k)] m = some (some (.inl (nI (w (16 + 26 * i + k)))), m) := by
  refine (E198 d a _ _ h0 m).trans ?_
  have e : ((16 : Int32) + (26 : Int32) * nI i) + nI k = nI (16 + 26 * i + k) := by
    rw [show (16 : Int32) = nI 16 from rfl, show (26 : Int32) = nI 26 from rfl, pk_mul, nI_add, nI_add]
  rw [e, lt_gd_t (sp_gd (by omega) (by omega)), nI_clamp (by omega), h.1 _ (by omega)]
theorem m197 (d : Nat) (h0 : ts_sh a = (0, 12)) (h : ml N w a m) {i : Nat} (hi : i < 20) : lt_ev (d + 2) 197 [.inr (.inr (some a)), .inl (nI i)] m = some (some (.inl (nI (w_st w i))), m) := by
  refine (E197 (d + 1) a _ h0 m).trans ?_
  rw [q_3, m198 d h0 h hi (by omega), lt_cI_s, show 16 + 26 * i + 3 = 19 + 26 * i by omega]
theorem m198_of (d : Nat) (h0 : ts_sh a = (0, 12)) (h : ml N w a m) {i : Nat} (hi : i < 20) : lt_ev (d + 1) 198 [.inr (.inr (some a)), .inl (nI i), .inl (0 : Int32)] m = some (some (.inl (nI (w_of w i))), m) := by
  rw [q_0, m198 d h0 h hi (by omega), show 16 + 26 * i + 0 = 16 + 26 * i by omega]
theorem m198_kd (d : Nat) (h0 : ts_sh a = (0, 12)) (h : ml N w a m) {i : Nat} (hi : i < 20) : lt_ev (d + 1) 198 [.inr (.inr (some a)), .inl (nI i), .inl (1 : Int32)] m = some (some (.inl (nI (w_kd w i))), m) := by
  rw [q_1, m198 d h0 h hi (by omega), show 16 + 26 * i + 1 = 17 + 26 * i by omega]
theorem m198_un (d : Nat) (h0 : ts_sh a = (0, 12)) (h : ml N w a m) {i : Nat} (hi : i < 20) : lt_ev (d + 1) 198 [.inr (.inr (some a)), .inl (nI i), .inl (2 : Int32)] m = some (some (.inl (nI (w_un w i))), m) := by
  rw [q_2, m198 d h0 h hi (by omega), show 16 + 26 * i + 2 = 18 + 26 * i by omega]
theorem m198_sh (d : Nat) (h0 : ts_sh a = (0, 12)) (h : ml N w a m) {i : Nat} (hi : i < 20) : lt_ev (d + 1) 198 [.inr (.inr (some a)), .inl (nI i), .inl (4 : Int32)] m = some (some (.inl (nI (w_sh w i))), m) := by
  rw [q_4, m198 d h0 h hi (by omega), show 16 + 26 * i + 4 = 20 + 26 * i by omega]
theorem m198_tm (d : Nat) (h0 : ts_sh a = (0, 12)) (h : ml N w a m) {i : Nat} (hi : i < 20) : lt_ev (d + 1) 198 [.inr (.inr (some a)), .inl (nI i), .inl (5 : Int32)] m = some (some (.inl (nI (w_tm w i))), m) := by
  rw [q_5, m198 d h0 h hi (by omega), show 16 + 26 * i + 5 = 21 + 26 * i by omega]
theorem m198_sp (d : Nat) (h0 : ts_sh a = (0, 12)) (h : ml N w a m) {i : Nat} (hi : i < 20) : lt_ev (d + 1) 198 [.inr (.inr (some a)), .inl (nI i), .inl (6 : Int32)] m = some (some (.inl (nI (w_sp w i))), m) := by
  rw [q_6, m198 d h0 h hi (by omega), show 16 + 26 * i + 6 = 22 + 26 * i by omega]
theorem m198_br (d : Nat) (h0 : ts_sh a = (0, 12)) (h : ml N w a m) {i : Nat} (hi : i < 20) : lt_ev (d + 1) 198 [.inr (.inr (some a)), .inl (nI i), .inl (7 : Int32)] m = some (some (.inl (nI (w_br w i))), m) := by
  rw [show (7 : Int32) = nI 7 from rfl, m198 d h0 h hi (by omega), show 16 + 26 * i + 7 = 23 + 26 * i by omega]
theorem m198_db (d : Nat) (h0 : ts_sh a = (0, 12)) (h : ml N w a m) {i : Nat} (hi : i < 20) : lt_ev (d + 1) 198 [.inr (.inr (some a)), .inl (nI i), .inl (8 : Int32)] m = some (some (.inl (nI (w_db w i))), m) := by
  rw [q_8, m198 d h0 h hi (by omega), show 16 + 26 * i + 8 = 24 + 26 * i by omega]
theorem m198_lg (d : Nat) (h0 : ts_sh a = (0, 12)) (h : ml N w a m) {i : Nat} (hi : i < 20) : lt_ev (d + 1) 198 [.inr (.inr (some a)), .inl (nI i), .inl (9 : Int32)] m = some (some (.inl (nI (w_lg w i))), m) := by
  rw [q_9, m198 d h0 h hi (by omega), show 16 + 26 * i + 9 = 25 + 26 * i by omega]
theorem m198_rt (d : Nat) (h0 : ts_sh a = (0, 12)) (h : ml N w a m) {i k : Nat} (hi : i < 20) (hk : k < 8) : lt_ev (d + 1) 198 [.inr (.inr (some a)), .inl (nI i), .inl ((10 : Int32) + nI k)] m = some (some (.inl (nI (w_rt w i k))), m) := by
  rw [q_10, nI_add, m198 d h0 h hi (by omega), show 16 + 26 * i + (10 + k) = 26 + 26 * i + k by omega]
theorem m198_rt1 (d : Nat) (h0 : ts_sh a = (0, 12)) (h : ml N w a m) {i k : Nat} (hi : i < 20) (hk : k ≤ 8) (h1 : 1 ≤ k) : lt_ev (d + 1) 198 [.inr (.inr (some a)), .inl (nI i), .inl (((10 : Int32) + nI k) - (1 : Int32))] m = some (some (.inl (nI (w_rt w i (k - 1)))), m) := by
  rw [q_10, nI_add, q_1, pk_sub (by omega), m198 d h0 h hi (by omega), show 16 + 26 * i + (10 + k - 1) = 26 + 26 * i + (k - 1) by omega]
theorem m198_at (d : Nat) (h0 : ts_sh a = (0, 12)) (h : ml N w a m) {i k : Nat} (hi : i < 20) (hk : k < 8) : lt_ev (d + 1) 198 [.inr (.inr (some a)), .inl (nI i), .inl ((18 : Int32) + nI k)] m = some (some (.inl (nI (w_at w i k))), m) := by
  rw [show (18 : Int32) = nI 18 from rfl, nI_add, m198 d h0 h hi (by omega), show 16 + 26 * i + (18 + k) = 34 + 26 * i + k by omega]
theorem m198_at1 (d : Nat) (h0 : ts_sh a = (0, 12)) (h : ml N w a m) {i k : Nat} (hi : i < 20) (hk : k ≤ 8) (h1 : 1 ≤ k) : lt_ev (d + 1) 198 [.inr (.inr (some a)), .inl (nI i), .inl (((18 : Int32) + nI k) - (1 : Int32))] m = some (some (.inl (nI (w_at w i (k - 1)))), m) := by
  rw [show (18 : Int32) = nI 18 from rfl, nI_add, q_1, pk_sub (by omega), m198 d h0 h hi (by omega), show 16 + 26 * i + (18 + k - 1) = 34 + 26 * i + (k - 1) by omega]
/-- sumOf, levelOf -/
theorem m217 (d : Nat) (h0 : ts_sh a = (0, 12)) (h : ml N w a m) {t : Nat} (ht : t < 6) : lt_ev (d + 1) 217 [.inr (.inr (some a)), .inl (nI t)] m = some (some (.inl (nI (w (4 + 2 * t)))), m) := by
  refine (E217 d a _ h0 m).trans ?_
  rw [q_4, q_2, pk_mul, nI_add, lt_gd_t (sp_gd (by omega) (by omega)), nI_clamp (by omega), h.1 _ (by omega)]
theorem m218 (d : Nat) (h0 : ts_sh a = (0, 12)) (h : ml N w a m) {t : Nat} (ht : t < 6) : lt_ev (d + 1) 218 [.inr (.inr (some a)), .inl (nI t)] m = some (some (.inl (nI (w (5 + 2 * t)))), m) := by
  refine (E218 d a _ h0 m).trans ?_
  rw [q_4, q_2, pk_mul, nI_add, nI_1, lt_gd_t (sp_gd (by omega) (by omega)), nI_clamp (by omega), h.1 _ (by omega), show 4 + 2 * t + 1 = 5 + 2 * t by omega]
/-- goes, isOpen -/
theorem m196 (d : Nat) (h0 : ts_sh a = (0, 12)) (h : ml N w a m) (hw : wfL N w) {i : Nat} (hi : i < w 2) : lt_ev (d + 3) 196 [.inr (.inr (some a)), .inl (nI i)] m = some (some (.inl (if w_goes w i = true then 1 else 0)), m) := by
  have h20 := hw.2.2.1
  have b7 := wf_st hw hi
  refine (E196 (d + 2) a _ h0 m).trans ?_
  rw [m197 d h0 h (by omega), lt_cI_s]
  simp (disch := omega) only [q_0, q_3, sp_eqn]
  by_cases c : w_st w i = 0
  · rw [if_pos c, if_pos (by simp [w_goes, c])]
  · rw [if_neg c, m197 d h0 h (by omega), lt_cI_s]
    simp (disch := omega) only [sp_eqn]
    by_cases c3 : w_st w i = 3
    · rw [if_neg (by simp [c3]), if_pos (by simp [w_goes, c3])]
    · rw [if_pos c3, if_neg (by simp [w_goes, c, c3])]
theorem m215 (d : Nat) (h0 : ts_sh a = (0, 12)) (h : ml N w a m) (hw : wfL N w) {i : Nat} (hi : i < w 2) : lt_ev (d + 3) 215 [.inr (.inr (some a)), .inl (nI i)] m = some (some (.inl (if w_open w i = true then 1 else 0)), m) := by
  have h20 := hw.2.2.1
  have b7 := wf_st hw hi
  refine (E215 (d + 2) a _ h0 m).trans ?_
  rw [m197 d h0 h (by omega), lt_cI_s]
  simp (disch := omega) only [q_2, q_5, sp_eqn]
  by_cases c : w_st w i = 2
  · rw [if_pos c, if_neg (by simp [w_open, c])]
  · rw [if_neg c, m197 d h0 h (by omega), lt_cI_s]
    simp (disch := omega) only [sp_eqn]
    by_cases c3 : w_st w i = 5
    · rw [if_pos c3, if_neg (by simp [w_open, c3])]
    · rw [if_neg c3, if_pos (by simp [w_open, c, c3])]
theorem m199 (d : Nat) (h0 : ts_sh a = (0, 12)) (h : ml N w a m) (hw : wfL N w) {i : Nat} (hi : i < w 2) : lt_ev (d + 2) 199 [.inr (.inr (some a)), .inl (nI i)] m = some (some (.inl (nI (w_seen w i))), m) := by
  have h20 := hw.2.2.1
  obtain ⟨g1, g2, g3, g4⟩ := wf_sp hw hi
  refine (E199 (d + 1) a _ h0 m).trans ?_
  rw [m198_sp d h0 h (by omega), lt_cI_s, m198_rt1 d h0 h (by omega) (by omega) g1, lt_cI_s]
  rfl
theorem g2_ok : (0 : Int32) ≤ 2 ∧ (2 : Int32).toNatClampNeg < 626 := by decide
theorem w2_at (h : ml N w a m) : m.1 (a + 1) (2 : Int32).toNatClampNeg = nI (w 2) := by
  rw [show (2 : Int32).toNatClampNeg = 2 by decide, h.1 2 (by omega)]
/-- used -/
theorem m214 (d : Nat) (h0 : ts_sh a = (0, 12)) (h : ml N w a m) (hw : wfL N w) {t : Nat} (ht : t < 2 ^ 31) : lt_ev (d + 4) 214 [.inr (.inr (some a)), .inl (nI t)] m = some (some (.inl (nI (w_used w t))), m) := by
  have h20 := hw.2.2.1
  refine (E214 (d + 3) a _ h0 m).trans ?_
  refine lp_it (F := fun i (_ : Unit) => L214_4 (d + 3) a (nI t) (nI (sumN (fun i => if w_of w i = t ∧ w_open w i = true then w_sh w i else 0) i)) (nI i) m) (w 2) ?_ ?_ ()
  · intro i o hi
    refine ⟨(), ?_⟩
    have b1 := wf_tr hw hi
    rw [E214_4 _ _ _ _ _ h0, lt_gd_t g2_ok, w2_at h]
    simp (disch := omega) only [sp_len]
    rw [if_neg (by omega), m198_of (d + 2) h0 h (by omega), lt_cI_s]
    simp (disch := omega) only [sp_eqn, sumN]
    by_cases c1 : w_of w i = t
    · rw [if_neg (by simp [c1]), m215 d h0 h hw hi, lt_cI_s]
      by_cases c2 : w_open w i = true
      · rw [if_pos c2, if_neg (by decide), m198_sh (d + 2) h0 h (by omega), lt_cI_s, if_pos ⟨c1, c2⟩, nI_add, nI_1]
      · rw [if_neg c2, if_pos rfl, if_neg (by simp [c2]), sp_add0, nI_1]; rfl
    · rw [if_pos c1, if_neg (by simp [c1]), sp_add0, nI_1]; rfl
  · intro o
    rw [E214_4 _ _ _ _ _ h0, lt_gd_t g2_ok, w2_at h, if_pos (by rw [sp_len (by omega) (by omega)]; exact Nat.le_refl _)]
    rfl
/-- openSet -/
theorem m220 (d : Nat) (h0 : ts_sh a = (0, 12)) (h : ml N w a m) (hw : wfL N w) {t : Nat} (ht : t < 2 ^ 31) : lt_ev (d + 4) 220 [.inr (.inr (some a)), .inl (nI t)] m = some (some (.inl (nI (w_openSet w t))), m) := by
  have h20 := hw.2.2.1
  refine (E220 (d + 3) a _ h0 m).trans ?_
  refine lp_it (F := fun i (_ : Unit) => L220_4 (d + 3) a (nI t) (nI (bitsN (fun i => decide (w_of w i = t) && w_open w i) i)) (nI i) m) (w 2) ?_ ?_ ()
  · intro i o hi
    refine ⟨(), ?_⟩
    have b1 := wf_tr hw hi
    rw [E220_4 _ _ _ _ _ h0, lt_gd_t g2_ok, w2_at h]
    simp (disch := omega) only [sp_len]
    rw [if_neg (by omega), m198_of (d + 2) h0 h (by omega), lt_cI_s]
    simp (disch := omega) only [sp_eqn, bitsN_succ]
    by_cases c1 : w_of w i = t
    · rw [if_neg (by simp [c1]), m215 d h0 h hw hi, lt_cI_s]
      by_cases c2 : w_open w i = true
      · rw [if_pos c2, if_neg (by decide), sp_bit (by omega), sp_orI (bitsN_lt _ i), if_pos (by simp [c1, c2]), nI_1]
      · rw [if_neg c2, if_pos rfl, if_neg (by simp [c2]), sp_or0, nI_1]; rfl
    · rw [if_pos c1, if_neg (by simp [c1]), sp_or0, nI_1]; rfl
  · intro o
    rw [E220_4 _ _ _ _ _ h0, lt_gd_t g2_ok, w2_at h, if_pos (by rw [sp_len (by omega) (by omega)]; exact Nat.le_refl _)]
    rfl
/-- debts -/
theorem m222 (d : Nat) (h0 : ts_sh a = (0, 12)) (h : ml N w a m) (hw : wfL N w) {t st : Nat} (ht : t < 2 ^ 31) (hst : st < 2 ^ 31) : lt_ev (d + 3) 222 [.inr (.inr (some a)), .inl (nI t), .inl (nI st)] m = some (some (.inl (nI (w_debts w t st))), m) := by
  have h20 := hw.2.2.1
  refine (E222 (d + 2) a _ _ h0 m).trans ?_
  refine lp_it (F := fun i (_ : Unit) => L222_5 (d + 2) a (nI t) (nI st) (nI (sumN (fun i => if w_of w i = t ∧ w_st w i = st then w_db w i else 0) i)) (nI i) m) (w 2) ?_ ?_ ()
  · intro i o hi
    refine ⟨(), ?_⟩
    have b1 := wf_tr hw hi
    have b7 := wf_st hw hi
    rw [E222_5 _ _ _ _ _ _ h0, lt_gd_t g2_ok, w2_at h]
    simp (disch := omega) only [sp_len]
    rw [if_neg (by omega), m198_of (d + 1) h0 h (by omega), lt_cI_s]
    simp (disch := omega) only [sp_eqn, sumN]
    by_cases c1 : w_of w i = t
    · rw [if_neg (by simp [c1]), m197 d h0 h (by omega), lt_cI_s]
      simp (disch := omega) only [sp_eqn]
      by_cases c2 : w_st w i = st
      · rw [if_neg (by simp [c2]), m198_db (d + 1) h0 h (by omega), lt_cI_s, if_pos ⟨c1, c2⟩, nI_add, nI_1]
      · rw [if_pos c2, if_neg (by simp [c2]), sp_add0, nI_1]; rfl
    · rw [if_pos c1, if_neg (by simp [c1]), sp_add0, nI_1]; rfl
  · intro o
    rw [E222_5 _ _ _ _ _ _ h0, lt_gd_t g2_ok, w2_at h, if_pos (by rw [sp_len (by omega) (by omega)]; exact Nat.le_refl _)]
    rfl
/-- brokenSeals -/
theorem m233 (d : Nat) (h0 : ts_sh a = (0, 12)) (h : ml N w a m) (hw : wfL N w) : lt_ev (d + 2) 233 [.inr (.inr (some a))] m = some (some (.inl (nI (w_broken w))), m) := by
  have h20 := hw.2.2.1
  refine (E233 (d + 1) a h0 m).trans ?_
  refine lp_it (F := fun i (_ : Unit) => L233_4 (d + 1) a (nI (sumN (fun i => w_br w i) i)) (nI i) m) (w 2) ?_ ?_ ()
  · intro i o hi
    refine ⟨(), ?_⟩
    rw [E233_4 _ _ _ _ h0, lt_gd_t g2_ok, w2_at h]
    simp (disch := omega) only [sp_len]
    rw [if_neg (by omega), m198_br d h0 h (by omega), lt_cI_s, nI_add, nI_1]
    rfl
  · intro o
    rw [E233_4 _ _ _ _ h0, lt_gd_t g2_ok, w2_at h, if_pos (by rw [sp_len (by omega) (by omega)]; exact Nat.le_refl _)]
    rfl
/-- hoursOf -/
theorem m194 (d : Nat) (h0 : ts_sh a = (0, 12)) (h : ml N w a m) (hN : wfN N) {x y : Nat} (hx : x < N.1) (hy : y < N.1) : lt_ev (d + 1) 194 [.inr (.inr (some a)), .inl (nI x), .inl (nI y)] m = some (some (.inl (nI (N.2.2.1 x y))), m) := by
  have hn := hN.2.1
  refine (E194 d a _ _ h0 m).trans ?_
  rw [q_12, pk_mul, nI_add, lt_gd_t (sp_gd (by omega) (by omega)), nI_clamp (by omega), h.2.2.2.2.2 x y hx hy]
/-- leftOf -/
theorem m245 (d : Nat) (h0 : ts_sh a = (0, 12)) (h : ml N w a m) (hN : wfN N) (hw : wfL N w) {i : Nat} (hi : i < w 2) : lt_ev (d + 2) 245 [.inr (.inr (some a)), .inl (nI i)] m = some (some (.inl (nI (w_left N w i))), m) := by
  have h20 := hw.2.2.1
  obtain ⟨g1, g2, g3, g4⟩ := wf_sp hw hi
  refine (E245 (d + 1) a _ h0 m).trans ?_
  rw [m198_sp d h0 h (by omega), lt_cI_s]
  refine lp_it (F := fun j (_ : Unit) => L245_10 (d + 1) a (nI i) (nI (sumN (fun j => N.2.2.1 (w_rt w i (w_sp w i + j - 1)) (w_rt w i (w_sp w i + j))) j)) (nI (w_sp w i + j)) m) (w_lg w i - w_sp w i) ?_ ?_ ()
  · intro j o hj
    refine ⟨(), ?_⟩
    rw [E245_10 _ _ _ _ _ h0, m198_lg d h0 h (by omega), lt_cI_s]
    simp (disch := omega) only [sp_len]
    rw [if_neg (by omega), m198_rt1 d h0 h (by omega) (by omega) (by omega), lt_cI_s, m198_rt d h0 h (by omega) (by omega), lt_cI_s, m194 d h0 h hN (wf_rt hw hi (by omega)) (wf_rt hw hi (by omega)), lt_cI_s, nI_add, nI_1]
    rfl
  · intro o
    rw [E245_10 _ _ _ _ _ h0, m198_lg d h0 h (by omega), lt_cI_s]
    simp (disch := omega) only [sp_len]
    rw [if_pos (by omega)]
    rfl
/-- endOf -/
theorem m252 (d : Nat) (h0 : ts_sh a = (0, 12)) (h : ml N w a m) (hN : wfN N) (hw : wfL N w) {i : Nat} (hi : i < w 2) : lt_ev (d + 3) 252 [.inr (.inr (some a)), .inl (nI i)] m = some (some (.inl (nI (w_arr N w i))), m) := by
  have h20 := hw.2.2.1
  obtain ⟨g1, g2, g3, g4⟩ := wf_sp hw hi
  refine (E252 (d + 2) a _ h0 m).trans ?_
  rw [m198_sp (d + 1) h0 h (by omega), lt_cI_s, m198_at1 (d + 1) h0 h (by omega) (by omega) g1, lt_cI_s, m245 d h0 h hN hw hi, lt_cI_s, nI_add]
  rfl
/-- isLate -/
theorem m251 (d : Nat) (h0 : ts_sh a = (0, 12)) (h : ml N w a m) (hN : wfN N) (hw : wfL N w) {i : Nat} (hi : i < w 2) : lt_ev (d + 4) 251 [.inr (.inr (some a)), .inl (nI i)] m = some (some (.inl (if w_late N w i = true then 1 else 0)), m) := by
  have h20 := hw.2.2.1
  have b7 := wf_st hw hi
  have bt : w_tm w i ≤ 200000 := (hw.2.2.2.2.2 i hi).2.2.2.2.2.2.1
  have ba := w_arr_le hN hw hi
  refine (E251 (d + 3) a _ h0 m).trans ?_
  rw [m197 (d + 1) h0 h (by omega), lt_cI_s]
  simp (disch := omega) only [q_0, sp_eqn]
  by_cases c : w_st w i = 0
  · rw [if_neg (by simp [c]), m252 d h0 h hN hw hi, lt_cI_s, m198_tm (d + 2) h0 h (by omega), lt_cI_s]
    simp (disch := omega) only [sp_len]
    by_cases c2 : w_arr N w i ≤ w_tm w i
    · rw [if_pos c2, if_neg (by simp [w_late]; omega)]
    · rw [if_neg c2, if_pos (by simp [w_late]; omega)]
  · rw [if_pos c, if_neg (by simp [w_late, c])]
/-- free -/
theorem m219 (d : Nat) (h0 : ts_sh a = (0, 12)) (h : ml N w a m) (hw : wfL N w) {t : Nat} (ht : t < w 1) : lt_ev (d + 5) 219 [.inr (.inr (some a)), .inl (nI t)] m = some (some (.inl (nI (w (4 + 2 * t) - w_used w t))), m) := by
  have h6 := hw.2.1
  refine (E219 (d + 4) a _ h0 m).trans ?_
  rw [m217 (d + 3) h0 h (by omega), lt_cI_s, m214 d h0 h hw (by omega), lt_cI_s, pk_sub (hw.2.2.2.2.1 t ht).2.2]
/-- dutyOf -/
theorem m241 (d : Nat) (h0 : ts_sh a = (0, 12)) (h : ml N w a m) (hN : wfN N) (hw : wfL N w) {i : Nat} (hi : i < w 2) : lt_ev (d + 2) 241 [.inr (.inr (some a)), .inl (nI i)] m = some (some (.inl (nI (w_un w i * N.2.2.2.2 (w_kd w i)))), m) := by
  have h20 := hw.2.2.1
  have hg := hN.2.2.1
  have hk : w_kd w i < N.2.1 := (hw.2.2.2.2.2 i hi).2.1
  refine (E241 (d + 1) a _ h0 m).trans ?_
  rw [m198_un d h0 h (by omega), lt_cI_s, m198_kd d h0 h (by omega), lt_cI_s, lt_gd_t (sp_gd (by omega) (by omega)), nI_clamp (by omega), h.2.2.2.2.1 _ hk, pk_mul]
end REF

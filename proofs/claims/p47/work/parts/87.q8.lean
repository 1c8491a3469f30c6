/-! ===== holds: small facts ===== -/
theorem cl_eq0 (x y : Int64) : (lg_cmp x y = 0) ↔ x.toInt = y.toInt := by
  have h1 := sp_cmp_lt x y
  have h2 := sp_cmp_gt x y
  rw [Int32.lt_iff_toInt_lt] at h1 h2
  have e : (lg_cmp x y = 0) ↔ (lg_cmp x y).toInt = 0 := ⟨fun q => by rw [q]; rfl, fun q => Int32.toInt_inj.mp (by rw [q]; rfl)⟩
  have z : (0 : Int32).toInt = 0 := by decide
  rw [e]
  rw [z] at h1 h2
  omega
theorem cl_eqn {a b : Nat} (ha : a < 2 ^ 31) (hb : b < 2 ^ 31) : (lg_cmp (nI a).toInt64 (nI b).toInt64 = 0) = (a = b) := by
  rw [propext (cl_eq0 _ _), sp_tt, sp_tt, nI_toInt ha, nI_toInt hb]
  exact propext (by omega)
theorem cl_ltn {a b : Nat} (ha : a < 2 ^ 31) (hb : b < 2 ^ 31) : (lg_cmp (nI a).toInt64 (nI b).toInt64 < 0) = (a < b) := by
  rw [propext (sp_cmp_lt _ _), sp_tt, sp_tt, nI_toInt ha, nI_toInt hb]
  exact propext (by omega)
theorem cl_gtn {a b : Nat} (ha : a < 2 ^ 31) (hb : b < 2 ^ 31) : (0 < lg_cmp (nI a).toInt64 (nI b).toInt64) = (b < a) := by
  rw [propext (sp_cmp_gt _ _), sp_tt, sp_tt, nI_toInt ha, nI_toInt hb]
  exact propext (by omega)
theorem cl_len {a b : Nat} (ha : a < 2 ^ 31) (hb : b < 2 ^ 31) : (lg_cmp (nI a).toInt64 (nI b).toInt64 ≤ 0) = (a ≤ b) := by
  have h := cl_gtn ha hb
  rw [show (lg_cmp (nI a).toInt64 (nI b).toInt64 ≤ 0) = ¬ (0 < lg_cmp (nI a).toInt64 (nI b).toInt64) from propext (by rw [Int32.lt_iff_toInt_lt, Int32.le_iff_toInt_le]; omega), h]
  exact propext (by omega)
theorem t64_inj {x y : Int64} (h : x.toInt = y.toInt) : x = y := Int64.toInt_inj.mp h
theorem sub64 {a b : Nat} (h : b ≤ a) (ha : a < 2 ^ 31) : (nI a).toInt64 - (nI b).toInt64 = (nI (a - b)).toInt64 := by
  apply t64_inj
  rw [Int64.toInt_sub, sp_tt, sp_tt, sp_tt, nI_toInt ha, nI_toInt (by omega), nI_toInt (by omega), Int.bmod_def]
  split <;> omega
theorem add32 {a b : Nat} (h : a + b < 2 ^ 31) : ((nI a).toInt64 + (nI b).toInt64).toInt32 = nI (a + b) := by
  apply Int32.toInt_inj.mp
  rw [Int64.toInt_toInt32, Int64.toInt_add, sp_tt, sp_tt, nI_toInt (by omega), nI_toInt (by omega), nI_toInt h, Int.bmod_def, Int.bmod_def]
  split <;> split <;> omega
theorem to32 (x : Int32) : x.toInt64.toInt32 = x := by
  apply Int32.toInt_inj.mp
  have h1 := Int32.toInt_lt x
  have h2 := Int32.le_toInt x
  rw [Int64.toInt_toInt32, sp_tt, Int.bmod_def]
  split <;> omega
theorem bitsN_full {p : Nat → Bool} : ∀ n, (∀ i, i < n → p i = true) → bitsN p n = 2 ^ n - 1 := by
  intro n
  induction n with
  | zero => intro _; rfl
  | succ n ih =>
    intro h
    rw [bitsN_succ, ih (fun i hi => h i (by omega)), h n (by omega), if_pos rfl, Nat.pow_succ]
    have := Nat.two_pow_pos n
    omega
theorem bitsN_and0 {p q : Nat → Bool} {n : Nat} (h : ∀ i, i < n → ¬ (p i = true ∧ q i = true)) : bitsN p n &&& bitsN q n = 0 := by
  refine Nat.eq_of_testBit_eq fun i => ?_
  rw [Nat.testBit_and, bitsN_tb, bitsN_tb, Nat.zero_testBit]
  by_cases c : i < n
  · have := h i c
    cases hp : p i <;> cases hq : q i <;> simp_all
  · simp [c]
theorem bitsN_or {p q : Nat → Bool} {n : Nat} : bitsN p n ||| bitsN q n = bitsN (fun i => p i || q i) n := by
  refine bitsN_eq (q := p) fun i => ?_
  rw [Nat.testBit_or, bitsN_tb, bitsN_tb]
  by_cases c : i < n <;> simp [c]
theorem nI_andn {a b : Nat} (h : a &&& b = a) : nI a &&& (nI b ^^^ (-1 : Int32)) = 0 := by
  have e : nI a &&& nI b = nI a := by rw [sp_andN, h]
  have e2 := congrArg Int32.toBitVec e
  apply Int32.toBitVec_inj.mp
  refine BitVec.eq_of_getLsbD_eq fun i hi => ?_
  have e3 := congrArg (fun x => x.getLsbD i) e2
  simp only [Int32.toBitVec_and, BitVec.getLsbD_and] at e3
  have hm : (-1 : Int32).toBitVec.getLsbD i = true := by
    have : (-1 : Int32).toBitVec = BitVec.allOnes 32 := by decide
    rw [this, BitVec.getLsbD_allOnes]
    exact decide_eq_true hi
  simp only [Int32.toBitVec_and, Int32.toBitVec_xor, BitVec.getLsbD_and, BitVec.getLsbD_xor, hm]
  have z : (0 : Int32).toBitVec.getLsbD i = false := by
    have : (0 : Int32).toBitVec = 0#32 := by decide
    rw [this]
    simp
  rw [z]
  revert e3
  cases (nI a).toBitVec.getLsbD i <;> cases (nI b).toBitVec.getLsbD i <;> simp
/-- what the law's ledgers keep beside wfL -/
def lwJ (w : Nat → Nat) : Prop := ∀ i, i < w 2 → (∀ k, k + 1 < w_sp w i → w_at w i k ≤ w_at w i (k + 1)) ∧ (w_st w i = 1 → w_sp w i = w_lg w i) ∧ (4 ≤ w_st w i → 0 < w_db w i)
theorem left_pos {N : NT} {w : Nat → Nat} (hw : wfL N w) {i : Nat} (hi : i < w 2) : 0 < w_left N w i ↔ w_sp w i < w_lg w i := by
  obtain ⟨g1, g2, g3, g4⟩ := wf_sp hw hi
  have hro := (hw.2.2.2.2.2 i hi).2.2.2.2.2.2.2.2.2.2.2.2.2.2.1
  unfold w_left
  constructor
  · intro h
    obtain ⟨j, hj, -⟩ := sumN_pos h
    omega
  · intro h
    have h1 : sumN (fun j => N.2.2.1 (w_rt w i (w_sp w i + j - 1)) (w_rt w i (w_sp w i + j))) 1 ≤ sumN (fun j => N.2.2.1 (w_rt w i (w_sp w i + j - 1)) (w_rt w i (w_sp w i + j))) (w_lg w i - w_sp w i) := sumN_mono (by omega)
    have h2 := hro (w_sp w i - 1) (by omega)
    simp only [sumN, Nat.add_zero, Nat.zero_add] at h1
    rw [show w_sp w i - 1 + 1 = w_sp w i by omega] at h2
    omega

/-! ===== loops; the abstract ledger; sums and sets over movements ===== -/
def sumN (f : Nat → Nat) : Nat → Nat
  | 0 => 0
  | n + 1 => sumN f n + f n
theorem lp_acc {τ ρ : Type} {F : Nat → Nat → τ → ρ} {K : Nat → ρ} {f : Nat → Nat} (N : Nat) (hs : ∀ i o, i < N → ∃ o', F i (sumN f i) o = F (i + 1) (sumN f i + f i) o') (he : ∀ o, F N (sumN f N) o = K (sumN f N)) : ∀ (n i : Nat) (o : τ), i + n = N → F i (sumN f i) o = K (sumN f N) := by
  intro n
  induction n with
  | zero => intro i o h; have : i = N := by omega
            subst this; exact he o
  | succ n ih =>
    intro i o h
    obtain ⟨o', e⟩ := hs i o (by omega)
    rw [e]
    exact ih (i + 1) o' (by omega)
theorem lp_sum {τ ρ : Type} {F : Nat → Nat → τ → ρ} {K : Nat → ρ} {f : Nat → Nat} (N : Nat) (hs : ∀ i o, i < N → ∃ o', F i (sumN f i) o = F (i + 1) (sumN f i + f i) o') (he : ∀ o, F N (sumN f N) o = K (sumN f N)) (o : τ) : F 0 0 o = K (sumN f N) := lp_acc N hs he N 0 o (Nat.zero_add N)
theorem lp_it0 {τ ρ : Type} {F : Nat → τ → ρ} {K : ρ} (N : Nat) (hs : ∀ i o, i < N → ∃ o', F i o = F (i + 1) o') (he : ∀ o, F N o = K) : ∀ (n i : Nat) (o : τ), i + n = N → F i o = K := by
  intro n
  induction n with
  | zero => intro i o h; have : i = N := by omega
            subst this; exact he o
  | succ n ih =>
    intro i o h
    obtain ⟨o', e⟩ := hs i o (by omega)
    rw [e]
    exact ih (i + 1) o' (by omega)
theorem lp_it {τ ρ : Type} {F : Nat → τ → ρ} {K : ρ} (N : Nat) (hs : ∀ i o, i < N → ∃ o', F i o = F (i + 1) o') (he : ∀ o, F N o = K) (o : τ) : F 0 o = K := lp_it0 N hs he N 0 o (Nat.zero_add N)
theorem sumN_congr {f g : Nat → Nat} {n : Nat} (h : ∀ i, i < n → f i = g i) : sumN f n = sumN g n := by
  induction n with
  | zero => rfl
  | succ n ih => simp only [sumN, ih (fun i hi => h i (by omega)), h n (by omega)]
theorem sumN_zero {f : Nat → Nat} {n : Nat} (h : ∀ i, i < n → f i = 0) : sumN f n = 0 := by
  induction n with
  | zero => rfl
  | succ n ih => simp only [sumN, ih (fun i hi => h i (by omega)), h n (by omega)]
theorem sumN_le {f g : Nat → Nat} {n : Nat} (h : ∀ i, i < n → f i ≤ g i) : sumN f n ≤ sumN g n := by
  induction n with
  | zero => exact Nat.le_refl _
  | succ n ih => simp only [sumN]; have := ih (fun i hi => h i (by omega)); have := h n (by omega); omega
theorem sumN_const (c n : Nat) : sumN (fun _ => c) n = n * c := by
  induction n with
  | zero => simp [sumN]
  | succ n ih => simp only [sumN, ih]; rw [Nat.succ_mul]
theorem sumN_bound {f : Nat → Nat} {n c : Nat} (h : ∀ i, i < n → f i ≤ c) : sumN f n ≤ n * c := by
  rw [← sumN_const]
  exact sumN_le h
theorem sumN_mono {f : Nat → Nat} {a b : Nat} (h : a ≤ b) : sumN f a ≤ sumN f b := by
  obtain ⟨k, rfl⟩ := Nat.le.dest h
  induction k with
  | zero => exact Nat.le_refl _
  | succ k ih => rw [← Nat.add_assoc]; simp only [sumN]; have := ih (by omega); omega
theorem sumN_ext {f : Nat → Nat} {a b : Nat} (h : a ≤ b) (h0 : ∀ i, a ≤ i → i < b → f i = 0) : sumN f b = sumN f a := by
  obtain ⟨k, rfl⟩ := Nat.le.dest h
  induction k with
  | zero => rfl
  | succ k ih =>
    rw [← Nat.add_assoc]
    simp only [sumN]
    rw [ih (by omega) (fun i h1 h2 => h0 i h1 (by omega)), h0 (a + k) (by omega) (by omega)]
    rfl
/-- sets of numbers as bits -/
def bitsN (p : Nat → Bool) (n : Nat) : Nat := sumN (fun i => if p i then 2 ^ i else 0) n
theorem bitsN_lt (p : Nat → Bool) (n : Nat) : bitsN p n < 2 ^ n := by
  unfold bitsN
  induction n with
  | zero => simp [sumN]
  | succ n ih =>
    simp only [sumN, Nat.pow_succ]
    split <;> omega
theorem sp_or {a n : Nat} (h : a < 2 ^ n) : a ||| 2 ^ n = a + 2 ^ n := by
  have := Nat.two_pow_add_eq_or_of_lt h 1
  rw [Nat.mul_one] at this
  rw [Nat.or_comm, ← this, Nat.add_comm]
theorem sp_orI {a n : Nat} (h : a < 2 ^ n) : nI a ||| nI (2 ^ n) = nI (a + 2 ^ n) := by
  rw [← sp_or h]
  unfold nI
  apply Int32.toBitVec_inj.mp
  simp
theorem sp_bit {i : Nat} (h : i < 31) : (1 : Int32) <<< (nI i &&& 31) = nI (2 ^ i) := by
  have : ∀ i, i < 31 → (1 : Int32) <<< (nI i &&& 31) = nI (2 ^ i) := by decide +kernel
  exact this i h
theorem sp_or0 (x : Int32) : x ||| (0 : Int32) = x := by simp
theorem sp_add0 (x : Int32) : x + (0 : Int32) = x := by simp
theorem sp_gd {n i : Nat} (h : i < n) (hn : i < 2 ^ 31) : 0 ≤ nI i ∧ (nI i).toNatClampNeg < n := ⟨nI_pos' hn, by rw [nI_clamp hn]; exact h⟩
theorem bitsN_succ (p : Nat → Bool) (n : Nat) : bitsN p (n + 1) = bitsN p n + if p n then 2 ^ n else 0 := rfl
theorem bitsN_congr {p q : Nat → Bool} {n : Nat} (h : ∀ i, i < n → p i = q i) : bitsN p n = bitsN q n := sumN_congr fun i hi => by rw [h i hi]
theorem bitsN_ext {p : Nat → Bool} {a b : Nat} (h : a ≤ b) (h0 : ∀ i, a ≤ i → i < b → p i = false) : bitsN p b = bitsN p a := sumN_ext h fun i h1 h2 => by rw [h0 i h1 h2]; rfl
/-- a loop that gathers bits -/
theorem lp_bits {τ ρ : Type} {F : Nat → Nat → τ → ρ} {K : Nat → ρ} {p : Nat → Bool} (N : Nat) (hs : ∀ i s o, i < N → s < 2 ^ i → s = bitsN p i → ∃ o', F i s o = F (i + 1) (s + if p i then 2 ^ i else 0) o') (he : ∀ o, F N (bitsN p N) o = K (bitsN p N)) (o : τ) : F 0 0 o = K (bitsN p N) :=
  lp_sum N (fun i o hi => hs i _ o hi (bitsN_lt p i) rfl) he o
/-! the abstract ledger: the numbers of the reference's one row, w; movement i's fields -/
abbrev w_of (w : Nat → Nat) (i : Nat) : Nat := w (16 + 26 * i)
abbrev w_kd (w : Nat → Nat) (i : Nat) : Nat := w (17 + 26 * i)
abbrev w_un (w : Nat → Nat) (i : Nat) : Nat := w (18 + 26 * i)
abbrev w_st (w : Nat → Nat) (i : Nat) : Nat := w (19 + 26 * i)
abbrev w_sh (w : Nat → Nat) (i : Nat) : Nat := w (20 + 26 * i)
abbrev w_tm (w : Nat → Nat) (i : Nat) : Nat := w (21 + 26 * i)
abbrev w_sp (w : Nat → Nat) (i : Nat) : Nat := w (22 + 26 * i)
abbrev w_br (w : Nat → Nat) (i : Nat) : Nat := w (23 + 26 * i)
abbrev w_db (w : Nat → Nat) (i : Nat) : Nat := w (24 + 26 * i)
abbrev w_lg (w : Nat → Nat) (i : Nat) : Nat := w (25 + 26 * i)
abbrev w_rt (w : Nat → Nat) (i k : Nat) : Nat := w (26 + 26 * i + k)
abbrev w_at (w : Nat → Nat) (i k : Nat) : Nat := w (34 + 26 * i + k)
def w_open (w : Nat → Nat) (i : Nat) : Bool := decide (¬ w_st w i = 2 ∧ ¬ w_st w i = 5)
def w_goes (w : Nat → Nat) (i : Nat) : Bool := decide (w_st w i = 0 ∨ w_st w i = 3)
def w_seen (w : Nat → Nat) (i : Nat) : Nat := w_rt w i (w_sp w i - 1)
/-- what is IN USE -/
def w_used (w : Nat → Nat) (t : Nat) : Nat := sumN (fun i => if w_of w i = t ∧ w_open w i = true then w_sh w i else 0) (w 2)
def w_openSet (w : Nat → Nat) (t : Nat) : Nat := bitsN (fun i => decide (w_of w i = t) && w_open w i) (w 2)
def w_debts (w : Nat → Nat) (t st : Nat) : Nat := sumN (fun i => if w_of w i = t ∧ w_st w i = st then w_db w i else 0) (w 2)
def w_broken (w : Nat → Nat) : Nat := sumN (fun i => w_br w i) (w 2)
/-- a NET: offices, goods, hours of roads, countries, duties -/
abbrev NT : Type := Nat × Nat × (Nat → Nat → Nat) × (Nat → Nat) × (Nat → Nat)
def wfM (N : NT) (w : Nat → Nat) (i : Nat) : Prop := w_of w i < w 1 ∧ w_kd w i < N.2.1 ∧ 1 ≤ w_un w i ∧ w_un w i ≤ 999 ∧ w_st w i ≤ 5 ∧ w_sh w i ≤ 999999 ∧ w_tm w i ≤ 200000 ∧ 1 ≤ w_sp w i ∧ w_sp w i ≤ w_lg w i ∧ 2 ≤ w_lg w i ∧ w_lg w i ≤ 8 ∧ w_br w i ≤ 1 ∧ (w_db w i ≤ 2000000 ∧ (w_st w i ≤ 3 → w_db w i = 0)) ∧
  (∀ k, k < w_lg w i → w_rt w i k < N.1) ∧ (∀ k, k + 1 < w_lg w i → 0 < N.2.2.1 (w_rt w i k) (w_rt w i (k + 1))) ∧ (∀ k, k < w_sp w i → w_at w i k ≤ w 0) ∧ (w_goes w i = true → w_sp w i < w_lg w i) ∧ (w_st w i = 0 → w 0 ≤ w_tm w i) ∧ (w_st w i = 3 → w_tm w i < w 0 ∧ w 0 < w_tm w i + 72)
def wfL (N : NT) (w : Nat → Nat) : Prop := w 0 ≤ 99999 ∧ w 1 ≤ 6 ∧ w 2 ≤ 20 ∧ w 3 ≤ 30 ∧ (∀ t, t < w 1 → w (4 + 2 * t) ≤ 999999 ∧ w (5 + 2 * t) ≤ 3 ∧ w_used w t ≤ w (4 + 2 * t)) ∧ ∀ i, i < w 2 → wfM N w i
def wfN (N : NT) : Prop := 2 ≤ N.1 ∧ N.1 ≤ 12 ∧ N.2.1 ≤ 6 ∧ (∀ a b, a < N.1 → b < N.1 → N.2.2.1 a b ≤ 99) ∧ (∀ a b, a < N.1 → b < N.1 → N.2.2.1 a b = N.2.2.1 b a) ∧ (∀ a, a < N.1 → N.2.2.1 a a = 0) ∧ (∀ a, a < N.1 → N.2.2.2.1 a ≤ 5) ∧ ∀ g, g < N.2.1 → 1 ≤ N.2.2.2.2 g ∧ N.2.2.2.2 g ≤ 999
/-- the class's movement at q holds movement i -/
def mvR (N : NT) (w : Nat → Nat) (i q : Nat) (m : lt_m) : Prop := m.1 q 1 = nI (w_of w i) ∧ m.1 q 2 = nI (w_kd w i) ∧ m.1 q 3 = nI (w_un w i) ∧ m.1 q 4 = nI (w_un w i * N.2.2.2.2 (w_kd w i)) ∧ m.1 q 5 = nI (w_sh w i) ∧ m.1 q 6 = nI (w_tm w i) ∧ m.1 q 7 = nI (w_st w i) ∧ m.1 q 8 = nI (w_lg w i) ∧ m.1 q 9 = nI (w_sp w i) ∧ m.1 q 10 = nI (w_db w i) ∧ m.1 q 11 = nI (w_br w i) ∧
  (∀ k, k < w_lg w i → m.1 (q + 1) k = nI (w_rt w i k)) ∧ ∀ k, k < w_sp w i → m.1 (q + 2) k = nI (w_at w i k)
/-- the class's ledger at L holds w (its book apart) -/
def cl (N : NT) (w : Nat → Nat) (L : Nat) (m : lt_m) : Prop := m.1 L 4 = nI (w 0) ∧ m.1 L 5 = nI (w 1) ∧ m.1 L 6 = nI (w 2) ∧ (∀ t, t < w 1 → m.1 (L + 1) t = nI (w (4 + 2 * t)) ∧ m.1 (L + 2) t = nI (w (5 + 2 * t))) ∧
  (∀ i, i < w 2 → mvR N w i (L + 3 + 5 + 3 * i) m) ∧ (∀ i, w 2 ≤ i → i < 20 → m.1 (L + 3 + 5 + 3 * i) 7 = -1) ∧ ∀ i, i < 20 → m.1 (L + 3 + 5 + 3 * i) 0 = nI i
theorem q_0 : (0 : Int32) = nI 0 := rfl
theorem q_1 : (1 : Int32) = nI 1 := rfl
theorem q_2 : (2 : Int32) = nI 2 := rfl
theorem q_3 : (3 : Int32) = nI 3 := rfl
theorem q_4 : (4 : Int32) = nI 4 := rfl
theorem q_5 : (5 : Int32) = nI 5 := rfl
theorem q_6 : (6 : Int32) = nI 6 := rfl
theorem q_8 : (8 : Int32) = nI 8 := rfl
theorem q_9 : (9 : Int32) = nI 9 := rfl
theorem q_10 : (10 : Int32) = nI 10 := rfl
theorem q_12 : (12 : Int32) = nI 12 := rfl
theorem q_20 : (20 : Int32) = nI 20 := rfl
theorem q_24 : (24 : Int32) = nI 24 := rfl
theorem q_30 : (30 : Int32) = nI 30 := rfl
theorem q_40 : (40 : Int32) = nI 40 := rfl
theorem q_72 : (72 : Int32) = nI 72 := rfl
theorem q_200 : (200 : Int32) = nI 200 := rfl
theorem q_626 : (626 : Int32) = nI 626 := rfl
theorem q_999 : (999 : Int32) = nI 999 := rfl
theorem sp_m1 {a : Nat} (h : a < 2 ^ 31) : (nI a = (-1 : Int32)) = False := by
  apply eq_false
  intro q
  have := congrArg Int32.toInt q
  rw [nI_toInt h] at this
  have e : (-1 : Int32).toInt = -1 := by decide
  omega
theorem sp_m1' {a : Nat} (h : a < 2 ^ 31) : ((-1 : Int32) = nI a) = False := by
  rw [show ((-1 : Int32) = nI a) = (nI a = (-1 : Int32)) from propext ⟨Eq.symm, Eq.symm⟩]
  exact sp_m1 h
theorem sp_eqn {a b : Nat} (ha : a < 2 ^ 31) (hb : b < 2 ^ 31) : (nI a = nI b) = (a = b) := propext (nI_eq ha hb)
theorem sp_len {a b : Nat} (ha : a < 2 ^ 31) (hb : b < 2 ^ 31) : (nI a ≤ nI b) = (a ≤ b) := propext (nI_leI ha hb)
theorem sp_ltn {a b : Nat} (ha : a < 2 ^ 31) (hb : b < 2 ^ 31) : (nI a < nI b) = (a < b) := propext (nI_ltI ha hb)
section CL
variable {N : NT} {w : Nat → Nat} {L : Nat} {m : lt_m}
theorem c65 (h : cl N w L m) {i : Nat} (hi : i < 20) : v65 m (L + 3 + 5 + 3 * i) = nI (2 ^ i) := by
  unfold v65
  rw [h.2.2.2.2.2.2 i hi]
  exact sp_bit (by omega)
theorem wf_st (hw : wfL N w) {i : Nat} (hi : i < w 2) : w_st w i ≤ 5 := (hw.2.2.2.2.2 i hi).2.2.2.2.1
theorem wf_tr (hw : wfL N w) {i : Nat} (hi : i < w 2) : w_of w i < 6 := Nat.lt_of_lt_of_le (hw.2.2.2.2.2 i hi).1 hw.2.1
theorem c92 (h : cl N w L m) (hw : wfL N w) {i t : Nat} (hi : i < 20) (ht : t < 2 ^ 31) : v92 m (L + 3 + 5 + 3 * i) (nI t) = if i < w 2 ∧ w_of w i = t ∧ w_open w i = true then 1 else 0 := by
  unfold v92
  by_cases h2 : i < w 2
  · obtain ⟨e1, e2, e3, e4, e5, e6, e7, -⟩ := h.2.2.2.2.1 i h2
    have b7 := wf_st hw h2
    have b1 := wf_tr hw h2
    rw [e1, e7]
    simp (disch := omega) only [q_2, q_5, sp_eqn, sp_m1, if_false]
    by_cases c1 : w_of w i = t
    · by_cases c2 : w_st w i = 2
      · simp [c1, c2, w_open]
      · by_cases c3 : w_st w i = 5
        · simp [c1, c3, w_open]
        · simp [c1, c2, c3, w_open, h2]
    · simp [c1]
  · rw [h.2.2.2.2.2.1 i (by omega) hi]
    simp [h2]
theorem c62 (h : cl N w L m) (hw : wfL N w) {i : Nat} (hi : i < 20) : v62 m (L + 3 + 5 + 3 * i) = if i < w 2 ∧ w_goes w i = true then 1 else 0 := by
  unfold v62
  by_cases h2 : i < w 2
  · obtain ⟨e1, e2, e3, e4, e5, e6, e7, -⟩ := h.2.2.2.2.1 i h2
    have b7 := wf_st hw h2
    rw [e7]
    simp (disch := omega) only [q_0, q_3, sp_eqn]
    by_cases c2 : w_st w i = 0
    · simp [c2, w_goes, h2]
    · by_cases c3 : w_st w i = 3
      · simp [c3, w_goes, h2]
      · simp [c2, c3, w_goes]
  · rw [h.2.2.2.2.2.1 i (by omega) hi]
    simp [h2]
theorem sh_mv (h0 : ts_sh L = (0, 2)) {i : Nat} (hi : i < 20) : ts_sh (L + 3 + 5 + 3 * i) = (0, 4) := sm_4 (sf_of h0 2 (by decide) (by decide)) hi
/-- sharesOf: what is IN USE -/
theorem k91 (d : Nat) (h0 : ts_sh L = (0, 2)) (h : cl N w L m) (hw : wfL N w) {t : Nat} (ht : t < 2 ^ 31) : lt_ev (d + 2) 91 [.inr (.inr (some L)), .inl (nI t)] m = some (some (.inl (nI (w_used w t))), m) := by
  refine (E91 (d + 1) L (nI t) h0 m).trans ?_
  have hsh : ∀ i, i < w 2 → w_sh w i ≤ 999999 := fun i hi => (hw.2.2.2.2.2 i hi).2.2.2.2.2.1
  have h20 := hw.2.2.1
  have key := lp_sum (ρ := Option lt_r) (F := fun i s o => L91_14 (d + 1) L (nI t) (nI s) (nI i) o m) (K := fun s => some (some (.inl (nI s)), m)) (f := fun i => if i < w 2 ∧ w_of w i = t ∧ w_open w i = true then w_sh w i else 0) 20 ?_ ?_ none
  · have e : sumN (fun i => if i < w 2 ∧ w_of w i = t ∧ w_open w i = true then w_sh w i else 0) 20 = w_used w t := by
      rw [sumN_ext (a := w 2) (by omega) (fun i h1 h2 => by rw [if_neg (by omega)])]
      unfold w_used
      exact sumN_congr fun i hi => by simp [hi]
    rw [e] at key
    exact key
  · intro i o hi
    refine ⟨some (.inr (.inr (some (L + 3 + 5 + 3 * i)))), ?_⟩
    rw [E91_14 _ _ _ _ _ _ h0]
    simp (disch := omega) only [q_20, sp_len, nI_clamp]
    rw [if_neg (by omega), lt_gd_t ⟨nI_pos' (by omega), hi⟩, p92 (d + 0) _ _ (sh_mv h0 hi) m, lt_cI_s, c92 h hw hi ht]
    by_cases c : i < w 2 ∧ w_of w i = t ∧ w_open w i = true
    · rw [if_pos c, if_pos c, if_neg (by decide), (h.2.2.2.2.1 i c.1).2.2.2.2.1, nI_add, nI_1]
    · rw [if_neg c, if_neg c, if_pos rfl, sp_add0, nI_1]; rfl
  · intro o
    rw [E91_14 _ _ _ _ _ _ h0, if_pos (by decide)]
end CL

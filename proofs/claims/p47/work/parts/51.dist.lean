/-! ===== shortest ways ===== -/
/-- over offices below k alone -/
def fwN (H : Nat → Nat → Nat) : Nat → Nat → Nat → Nat
  | 0, a, b => if a = b then 0 else if H a b = 0 then 1000000 else H a b
  | k + 1, a, b => min (fwN H k a b) (fwN H k a k + fwN H k k b)
def dsN (H : Nat → Nat → Nat) (n a b : Nat) : Nat := fwN H n a b
def wkN (H : Nat → Nat → Nat) (n : Nat) : Nat → Nat → Nat → Nat → Prop
  | 0, a, b, s => a = b ∧ s = 0
  | j + 1, a, b, s => ∃ c s', c < n ∧ 0 < H a c ∧ s = H a c + s' ∧ wkN H n j c b s'
theorem sumN_lt {f g : Nat → Nat} {n j : Nat} (h : ∀ i, i < n → f i ≤ g i) (hj : j < n) (hl : f j < g j) : sumN f n < sumN g n := by
  induction n with
  | zero => omega
  | succ n ih =>
    simp only [sumN]
    have h1 := h n (by omega)
    by_cases e : j = n
    · subst e
      have := sumN_le (f := f) (g := g) (n := j) fun i hi => h i (by omega)
      omega
    · have := ih (fun i hi => h i (by omega)) (by omega)
      omega
section DS
variable {H : Nat → Nat → Nat} {n a b c k : Nat}
theorem fw_self : ∀ k a, fwN H k a a = 0 := by
  intro k
  induction k with
  | zero => intro a; exact if_pos rfl
  | succ k ih => intro a; simp only [fwN]; rw [ih a]; exact Nat.zero_min _
theorem fw_mono : fwN H (k + 1) a b ≤ fwN H k a b := Nat.min_le_left _ _
theorem fw_le (hH : ∀ a b, a < n → b < n → H a b ≤ 99) (ha : a < n) (hb : b < n) : ∀ k, fwN H k a b ≤ 1000000 := by
  intro k
  induction k with
  | zero =>
    have := hH a b ha hb
    simp only [fwN]
    split
    · omega
    · split <;> omega
  | succ k ih => exact Nat.le_trans fw_mono ih
theorem fw_k1 : fwN H (k + 1) a k = fwN H k a k := by
  simp only [fwN]
  rw [fw_self]
  exact Nat.min_self _
theorem fw_k2 : fwN H (k + 1) k b = fwN H k k b := by
  simp only [fwN]
  rw [fw_self, Nat.zero_add]
  exact Nat.min_self _
theorem fw_D (h : 0 < H a b) : ∀ k, fwN H k a b ≤ H a b := by
  intro k
  induction k with
  | zero =>
    simp only [fwN]
    split
    · omega
    · rw [if_neg (by omega)]; exact Nat.le_refl _
  | succ k ih => exact Nat.le_trans fw_mono ih
theorem fw_E : ∀ k a b c, c < k → 0 < H a c → fwN H k a b ≤ H a c + fwN H k c b := by
  intro k
  induction k with
  | zero => intro a b c h; omega
  | succ k ih =>
    intro a b c hc hr
    by_cases e : c = k
    · subst e
      rw [fw_k2]
      have h1 : fwN H (c + 1) a b ≤ fwN H c a c + fwN H c c b := Nat.min_le_right _ _
      have h2 := fw_D hr c
      omega
    · have h1 := ih a b c (by omega) hr
      have h2 := ih a k c (by omega) hr
      have h3 : fwN H (k + 1) a b ≤ fwN H k a b := fw_mono
      have h4 : fwN H (k + 1) a b ≤ fwN H k a k + fwN H k k b := Nat.min_le_right _ _
      have h5 : fwN H (k + 1) c b = fwN H k c b ∨ fwN H (k + 1) c b = fwN H k c k + fwN H k k b := by
        simp only [fwN]
        omega
      omega
theorem ds_E (hc : c < n) (hr : 0 < H a c) : dsN H n a b ≤ H a c + dsN H n c b := fw_E n a b c hc hr
theorem ds_self : dsN H n a a = 0 := fw_self n a
theorem wk_ds : ∀ j a s, wkN H n j a b s → dsN H n a b ≤ s := by
  intro j
  induction j with
  | zero =>
    intro a s h
    obtain ⟨rfl, rfl⟩ := h
    rw [ds_self]
    exact Nat.le_refl _
  | succ j ih =>
    intro a s h
    obtain ⟨c, s', hc, hr, rfl, hw⟩ := h
    have := ds_E (b := b) hc hr
    have := ih c s' hw
    omega
theorem wk_cat : ∀ i j a b c s t, wkN H n i a b s → wkN H n j b c t → wkN H n (i + j) a c (s + t) := by
  intro i
  induction i with
  | zero =>
    intro j a b c s t h1 h2
    obtain ⟨rfl, rfl⟩ := h1
    rw [Nat.zero_add, Nat.zero_add]
    exact h2
  | succ i ih =>
    intro j a b c s t h1 h2
    obtain ⟨e, s', he, hr, rfl, hw⟩ := h1
    rw [Nat.succ_add]
    exact ⟨e, s' + t, he, hr, by omega, ih j e b c s' t hw h2⟩
theorem fw_wk : ∀ k, k ≤ n → ∀ a b, a < n → b < n → fwN H k a b < 1000000 → ∃ j, wkN H n j a b (fwN H k a b) := by
  intro k
  induction k with
  | zero =>
    intro _ a b ha hb h
    simp only [fwN] at h ⊢
    by_cases e : a = b
    · rw [if_pos e]; exact ⟨0, e, rfl⟩
    · rw [if_neg e] at h ⊢
      by_cases e2 : H a b = 0
      · rw [if_pos e2] at h; omega
      · rw [if_neg e2]
        exact ⟨1, b, 0, hb, by omega, rfl, rfl, rfl⟩
  | succ k ih =>
    intro hk a b ha hb h
    have h5 : fwN H (k + 1) a b = fwN H k a b ∨ fwN H (k + 1) a b = fwN H k a k + fwN H k k b := by
      simp only [fwN]
      omega
    rcases h5 with e | e
    · rw [e] at h ⊢; exact ih (by omega) a b ha hb h
    · rw [e] at h ⊢
      obtain ⟨i, hi⟩ := ih (by omega) a k ha (by omega) (by omega)
      obtain ⟨j, hj⟩ := ih (by omega) k b (by omega) hb (by omega)
      exact ⟨i + j, wk_cat i j a k b _ _ hi hj⟩
/-- the next office of a shortest way -/
theorem ds_N (ha : a < n) (hb : b < n) (hne : a ≠ b) (h : dsN H n a b < 1000000) : ∃ c, c < n ∧ 0 < H a c ∧ H a c + dsN H n c b = dsN H n a b := by
  obtain ⟨j, hj⟩ := fw_wk n (Nat.le_refl n) a b ha hb h
  cases j with
  | zero => exact absurd hj.1 hne
  | succ j =>
    obtain ⟨c, s', hc, hr, he, hw⟩ := hj
    have h1 := wk_ds j c s' hw
    have h2 := ds_E (b := b) hc hr
    have h3 : dsN H n a b = H a c + s' := he
    exact ⟨c, hc, hr, by omega⟩
theorem ds_pos (ha : a < n) (hb : b < n) (hne : a ≠ b) : 0 < dsN H n a b := by
  rcases Nat.lt_or_ge (dsN H n a b) 1000000 with h | h
  · obtain ⟨c, -, h1, h2⟩ := ds_N ha hb hne h
    omega
  · omega
/-- how many offices are nearer -/
def rkN (H : Nat → Nat → Nat) (n b a : Nat) : Nat := sumN (fun c => if dsN H n c b < dsN H n a b then 1 else 0) n
theorem rk_lt (hc : c < n) (h : dsN H n c b < dsN H n a b) : rkN H n b c < rkN H n b a := by
  refine sumN_lt (j := c) (fun i hi => ?_) hc ?_
  · split
    · rw [if_pos (by omega)]; exact Nat.le_refl _
    · exact Nat.zero_le _
  · rw [if_neg (by omega), if_pos h]; exact Nat.one_pos
theorem rk_n (ha : a < n) : rkN H n b a < n := by
  have h := sumN_lt (f := fun c => if dsN H n c b < dsN H n a b then 1 else 0) (g := fun _ => 1) (n := n) (j := a) (fun i hi => by split <;> omega) ha (by simp)
  rw [sumN_const] at h
  unfold rkN
  omega
theorem rk_0 (ha : a < n) (hb : b < n) (hne : a ≠ b) : 0 < rkN H n b a := by
  have := rk_lt (H := H) (n := n) (a := a) (b := b) (c := b) hb (by rw [ds_self]; exact ds_pos ha hb hne)
  omega
end DS
/-! the class measures -/
section MW
variable {N : NT} {A : Nat} {m : lt_m}
def AR (N : NT) (A : Nat) (h : Nat → Nat → Nat) (m : lt_m) : Prop := ∀ a b, a < N.1 → b < N.1 → m.1 (A + 4) (12 * a + b) = nI (h a b)
theorem AR_set {h h' : Nat → Nat → Nat} {a b v : Nat} (hN : wfN N) (ha : a < N.1) (hb : b < N.1) (hv : h' a b = v) (ho : ∀ a' b', a' < N.1 → b' < N.1 → ¬ (a' = a ∧ b' = b) → h' a' b' = h a' b') (hm : AR N A h m) : AR N A h' (lm_i m (A + 4) (12 * a + b) (nI v)) := by
  have hn := hN.2.1
  intro a' b' ha' hb'
  by_cases c : a' = a ∧ b' = b
  · rw [c.1, c.2, lm_i_eq, hv]
  · rw [lm_i_ns (by omega), ho a' b' ha' hb' c]
    exact hm a' b' ha' hb'
theorem c18 {h : Nat → Nat → Nat} (hn : nR N A m) (hN : wfN N) (hA : AR N A h m) {a b : Nat} (ha : a < N.1) (hb : b < N.1) : v18 m A (nI a) (nI b) = nI (h a b) := by
  have h12 := hN.2.1
  unfold v18
  rw [c14n hn hN ha, c14n hn hN hb, if_neg (by decide), if_neg (by decide), c15, c16 (by omega) (by omega), hA a b ha hb]
theorem nR_4 {M : lt_m} (h : ∀ c, c ≠ A + 4 → M.1 c = m.1 c) (hn : nR N A m) : nR N A M := by
  unfold nR at hn ⊢
  rw [h A (by omega), h (A + 1) (by omega), h (A + 2) (by omega), h (A + 3) (by omega), h (A + 5) (by omega)]
  exact hn
/-- the class's first row: roads alone -/
theorem k12b (hA : ts_sh A = (0, 5)) (hN : wfN N) {a : Nat} (ha : a < N.1) : ∀ r b o3 m, b + r = N.1 → nR N A m → (∀ a' b', a' < N.1 → b' < N.1 → (a' < a ∨ a' = a ∧ b' < b) → m.1 (A + 4) (12 * a' + b') = nI (fwN N.2.2.1 0 a' b')) → ∃ M o', (∀ d, L12_12 (d + 2) A (nI a) (nI b) o3 m = L12_2 (d + 2) A (nI (a + 1)) (some (.inl (nI N.1))) o' M) ∧ (∀ a' b', a' < N.1 → b' < N.1 → a' < a + 1 → M.1 (A + 4) (12 * a' + b') = nI (fwN N.2.2.1 0 a' b')) ∧ (∀ c, c ≠ A + 4 → M.1 c = m.1 c) ∧ M.2 = m.2 := by
  have hn1 := hN.1
  have hn2 := hN.2.1
  have s4 : ts_sh (A + 4) = (1, 144) := sf_of hA 3 (by decide) (by decide)
  intro r
  induction r with
  | zero =>
    intro b o3 m hb hn hi
    have hb : b = N.1 := hb
    subst hb
    refine ⟨m, o3, fun d => ?_, fun a' b' h1 h2 h3 => hi a' b' h1 h2 (by omega), fun _ _ => rfl, rfl⟩
    rw [E12_12 _ _ _ _ _ hA, hn.1, if_pos (by rw [sp_len (by omega) (by omega)]; exact Nat.le_refl _), nI_1]
  | succ r ih =>
    intro b o3 m hb hn hi
    have hb2 : b < N.1 := by omega
    have hh := hN.2.2.2.1 a b ha hb2
    obtain ⟨M0, hM0⟩ : ∃ M0, M0 = lm_i m (A + 4) (12 * a + b) (nI (fwN N.2.2.1 0 a b)) := ⟨_, rfl⟩
    have f0 : ∀ c, c ≠ A + 4 → M0.1 c = m.1 c := fun c hc => by rw [hM0, lm_i_ne hc]
    obtain ⟨M, o', e1, i1, f1, r1⟩ := ih (b + 1) (some (.inl (nI (N.2.2.1 a b)))) M0 (by omega) (nR_4 f0 hn) (fun a' b' h1 h2 h3 => by
      rw [hM0]
      by_cases c : a' = a ∧ b' = b
      · rw [c.1, c.2, lm_i_eq]
      · rw [lm_i_ns (by omega)]
        exact hi a' b' h1 h2 (by omega))
    refine ⟨M, o', fun d => ?_, i1, fun c hc => by rw [f1 c hc, f0 c hc], by rw [r1, hM0]; rfl⟩
    have hput : ∀ d v, lt_ev (d + 2) 17 [.inr (.inr (some (A + 4))), .inl (nI (12 * a + b)), .inl v] m = some (none, lm_i m (A + 4) (12 * a + b) v) := fun d v => k17 (d + 1) s4 (by omega) (by decide) v
    rw [E12_12 _ _ _ _ _ hA, hn.1, if_neg (by rw [sp_len (by omega) (by omega)]; omega), p13 d A _ _ hA m, lt_cI_s, c13 hn hN ha hb2, p15 (d + 1) _ _ m, lt_cI_s, c15, nI_1]
    have e0 : fwN N.2.2.1 0 a b = if a = b then 0 else if N.2.2.1 a b = 0 then 1000000 else N.2.2.1 a b := rfl
    by_cases c : a = b
    · rw [if_pos c] at e0
      rw [if_neg (by rw [c]; exact fun q => q rfl), hput, lt_cV_s, ← e1 d, hM0, e0]
      rfl
    · rw [if_neg c] at e0
      rw [if_pos (by rw [sp_eqn (by omega) (by omega)]; exact c)]
      by_cases c2 : N.2.2.1 a b = 0
      · rw [if_pos c2] at e0
        rw [if_pos (by rw [sp_le0 (by omega)]; omega), hput, lt_cV_s, ← e1 d, hM0, e0]
        rfl
      · rw [if_neg c2] at e0
        rw [if_neg (by rw [sp_le0 (by omega)]; omega), hput, lt_cV_s, ← e1 d, hM0, e0]
end MW

/-! ===== fits: the best set of loads ===== -/
def tgM (f : Nat → Nat) (b : Nat) (k : Nat) : Nat := sumN (fun i => if b.testBit i = true then f i else 0) k
/-- the best of the sets 1 .. n -/
def bsM (us sh : Nat → Nat) (k free : Nat) : Nat → Nat × Nat × Nat
  | 0 => (0, 0, 0)
  | n + 1 => if tgM sh (n + 1) k ≤ free ∧ ((bsM us sh k free n).2.1 < tgM us (n + 1) k ∨ tgM us (n + 1) k = (bsM us sh k free n).2.1 ∧ tgM sh (n + 1) k < (bsM us sh k free n).2.2) then (n + 1, tgM us (n + 1) k, tgM sh (n + 1) k) else bsM us sh k free n
theorem tgM_le {f : Nat → Nat} {b k c : Nat} (h : ∀ i, i < k → f i ≤ c) : tgM f b k ≤ k * c := sumN_bound fun i hi => by
  split
  · exact h i hi
  · exact Nat.zero_le _
theorem bsM_le {us sh : Nat → Nat} {k free c e : Nat} (h1 : ∀ i, i < k → us i ≤ c) (h2 : ∀ i, i < k → sh i ≤ e) : ∀ n, (bsM us sh k free n).1 ≤ n ∧ (bsM us sh k free n).2.1 ≤ k * c ∧ (bsM us sh k free n).2.2 ≤ k * e := by
  intro n
  induction n with
  | zero => exact ⟨Nat.le_refl _, Nat.zero_le _, Nat.zero_le _⟩
  | succ n ih =>
    simp only [bsM]
    split
    · exact ⟨Nat.le_refl _, tgM_le h1, tgM_le h2⟩
    · exact ⟨by omega, ih.2⟩
section FT
variable {N : NT} {w : Nat → Nat} {A k free : Nat} {m : lt_m} {gs us sh : Nat → Nat}
theorem k158 {b o : Nat} {f : Nat → Nat} (ho : ts_sh (8 + o) = (1, 8)) (hk : k ≤ 8) (h3 : m.1 8 3 = nI k) (hf : ∀ j, j < k → m.1 (8 + o) j = nI (f j)) (hb : b < 2 ^ 31) : ∀ d, lt_ev (d + 2) 158 [.inr (.inr (some 8)), .inr (.inr (some (8 + o))), .inl (nI b)] m = some (some (.inl (nI (tgM f b k))), m) := by
  intro d
  refine (E158 (d + 1) 8 (8 + o) 8 _ s_8 ho m).trans ?_
  refine lp_it (F := fun i (_ : Unit) => L158_5 (d + 1) 8 (8 + o) 8 (nI b) (nI (sumN (fun i => if b.testBit i = true then f i else 0) i)) (nI i) m) k ?_ ?_ ()
  · intro i _ hi
    refine ⟨(), ?_⟩
    rw [E158_5 _ _ _ _ _ _ _ s_8, h3, if_neg (by rw [sp_len (by omega) (by omega)]; omega), sp_tb hb (by omega)]
    simp only [sumN]
    by_cases c : b.testBit i = true
    · rw [if_pos c, if_pos c, if_neg (by decide), p16 d (8 + o) 8 _ ho m, lt_cI_s, c16 (by omega) (by omega), hf i hi, nI_add, nI_1]
    · rw [if_neg c, if_neg c, if_pos (by decide), nI_1]
      rfl
  · intro _
    rw [E158_5 _ _ _ _ _ _ _ s_8, h3, if_pos (by rw [sp_len (by omega) (by omega)]; exact Nat.le_refl _)]
    rfl
/-- the class chooses -/
theorem k157 (hA : ts_sh A = (0, 5)) (hA2 : 13 ≤ A) (hN : wfN N) (hn : nR N A m) {l : Nat} (hl : l ≤ 3) (hk : k ≤ 8) (hok : ldOK N.2.1 k gs us) (hfr : free ≤ 999999) (h3 : m.1 8 3 = nI k) (h9 : ∀ j, j < k → m.1 9 j = nI (gs j) ∧ m.1 10 j = nI (us j)) (hsh : ∀ j, sh j = shN (us j * N.2.2.2.2 (gs j)) l) : ∃ M, (∀ d, lt_ev (d + 4) 157 [.inr (.inr (some 8)), .inr (.inr (some A)), .inl (nI l), .inl (nI free)] m = some (none, M)) ∧ M.1 8 4 = nI (bsM us sh k free (2 ^ k - 1)).1 ∧ M.1 8 5 = nI (bsM us sh k free (2 ^ k - 1)).2.1 ∧ M.1 8 6 = nI (bsM us sh k free (2 ^ k - 1)).2.2 ∧ (∀ b, b ≠ 8 → b ≠ 11 → M.1 b = m.1 b) ∧ M.2 = m.2 := by
  have hpk : 2 ^ k ≤ 2 ^ 8 := Nat.pow_le_pow_right (by omega) hk
  have hpk1 : 0 < 2 ^ k := Nat.two_pow_pos k
  have hu : ∀ i, i < k → us i ≤ 999 := fun i hi => (hok i hi).2.2
  have hpd : ∀ i, i < k → us i * N.2.2.2.2 (gs i) ≤ 999 * 999 := fun i hi => Nat.mul_le_mul (hu i hi) (hN.2.2.2.2.2.2.2 _ (hok i hi).1).2
  have hs : ∀ i, i < k → sh i ≤ 998010 := fun i hi => by
    have h1 := hpd i hi
    have h2 := shN_le (v := us i * N.2.2.2.2 (gs i)) (l := l)
    rw [hsh]
    omega
  -- the shares
  have shares : ∀ r i m', i + r = k → m'.1 8 3 = nI k → (∀ b, b ≠ 11 → m'.1 b = m.1 b) → m'.2 = m.2 → (∀ j, j < i → m'.1 11 j = nI (sh j)) → ∃ M, (∀ d, L157_3 (d + 3) 8 A (nI l) (nI free) (nI i) m' = L157_72 (d + 3) 8 A (nI l) (nI free) 1 none none (lm_i (lm_i (lm_i M 8 4 0) 8 5 0) 8 6 0)) ∧ (∀ b, b ≠ 11 → M.1 b = m.1 b) ∧ M.2 = m.2 ∧ ∀ j, j < k → M.1 11 j = nI (sh j) := by
    intro r
    induction r with
    | zero =>
      intro i m' hi h83 hf hr hj
      have hi : i = k := hi
      subst hi
      refine ⟨m', fun d => ?_, hf, hr, hj⟩
      rw [E157_3 _ _ _ _ _ _ s_8 hA, h83, if_pos (by rw [sp_len (by omega) (by omega)]; exact Nat.le_refl _)]
    | succ r ih =>
      intro i m' hi h83 hf hr hj
      have hi2 : i < k := by omega
      have hnm : nR N A m' := nR_fr (fun b b1 b2 => hf b (by omega)) hn
      obtain ⟨M, e1, f1, r1, j1⟩ := ih (i + 1) (lm_i m' 11 i (nI (sh i))) (by omega) (by rw [lm_i_ne (by omega)]; exact h83) (fun b hb => by rw [lm_i_ne hb]; exact hf b hb) hr (fun j hj2 => by
        by_cases e : j = i
        · subst e; exact lm_i_eq
        · rw [lm_i_ns (by omega)]; exact hj j (by omega))
      refine ⟨M, fun d => ?_, f1, r1, j1⟩
      have hp := hpd i hi2
      rw [E157_3 _ _ _ _ _ _ s_8 hA, h83, if_neg (by rw [sp_len (by omega) (by omega)]; omega), p16 (d + 2) (8 + 2) 8 _ s_10 m', lt_cI_s, c16 (by omega) (by omega), show m'.1 (8 + 2) i = nI (us i) by rw [hf (8 + 2) (by omega)]; exact (h9 i hi2).2, p16 (d + 2) (8 + 1) 8 _ s_9 m', lt_cI_s, c16 (by omega) (by omega), show m'.1 (8 + 1) i = nI (gs i) by rw [hf (8 + 1) (by omega)]; exact (h9 i hi2).1, p25 (d + 1) A _ hA m', lt_cI_s, c25 hnm hN (hok i hi2).1, pk_mul, k106 (d + 1) hl (by omega), lt_cI_s, ← hsh, k17 (d + 2) s_11 (by omega) (by decide), lt_cV_s, nI_1, e1 d]
  obtain ⟨M1, e1, f1, r1, j1⟩ := shares k 0 m (by omega) h3 (fun _ _ => rfl) rfl (fun j hj => absurd hj (Nat.not_lt_zero _))
  -- the sets
  have sets : ∀ r n o5 o6 m', n + r = 2 ^ k - 1 → m'.1 8 3 = nI k → (∀ b, b ≠ 8 → m'.1 b = M1.1 b) → m'.2 = M1.2 → m'.1 8 4 = nI (bsM us sh k free n).1 → m'.1 8 5 = nI (bsM us sh k free n).2.1 → m'.1 8 6 = nI (bsM us sh k free n).2.2 → ∃ M, (∀ d, L157_72 (d + 3) 8 A (nI l) (nI free) (nI (n + 1)) o5 o6 m' = some (none, M)) ∧ M.1 8 4 = nI (bsM us sh k free (2 ^ k - 1)).1 ∧ M.1 8 5 = nI (bsM us sh k free (2 ^ k - 1)).2.1 ∧ M.1 8 6 = nI (bsM us sh k free (2 ^ k - 1)).2.2 ∧ (∀ b, b ≠ 8 → M.1 b = M1.1 b) ∧ M.2 = M1.2 := by
    intro r
    induction r with
    | zero =>
      intro n o5 o6 m' hn2 h83 hf hr h4 h5 h6
      have hn2 : n = 2 ^ k - 1 := hn2
      subst hn2
      refine ⟨m', fun d => ?_, h4, h5, h6, hf, hr⟩
      rw [E157_72 _ _ _ _ _ _ _ _ s_8, h83, sp_bit (by omega), if_pos (by rw [sp_len (by omega) (by omega)]; omega)]
    | succ r ih =>
      intro n o5 o6 m' hn2 h83 hf hr h4 h5 h6
      obtain ⟨b1, b2, b3⟩ := bsM_le (free := free) hu hs n
      obtain ⟨U, hU⟩ : ∃ U, U = tgM us (n + 1) k := ⟨_, rfl⟩
      obtain ⟨V, hV⟩ : ∃ V, V = tgM sh (n + 1) k := ⟨_, rfl⟩
      have bU : U ≤ k * 999 := by rw [hU]; exact tgM_le hu
      have bV : V ≤ k * 998010 := by rw [hV]; exact tgM_le hs
      have k1 : k * 999 ≤ 8 * 999 := Nat.mul_le_mul_right _ hk
      have k2 : k * 998010 ≤ 8 * 998010 := Nat.mul_le_mul_right _ hk
      have e158u : ∀ d, lt_ev (d + 3) 158 [.inr (.inr (some 8)), .inr (.inr (some (8 + 2))), .inl (nI (n + 1))] m' = some (some (.inl (nI U)), m') := fun d => by
        rw [hU]
        exact k158 s_10 hk h83 (fun j hj => by rw [hf (8 + 2) (by omega), f1 (8 + 2) (by omega)]; exact (h9 j hj).2) (by omega) (d + 1)
      have e158v : ∀ d, lt_ev (d + 3) 158 [.inr (.inr (some 8)), .inr (.inr (some (8 + 3))), .inl (nI (n + 1))] m' = some (some (.inl (nI V)), m') := fun d => by
        rw [hV]
        exact k158 s_11 hk h83 (fun j hj => by rw [hf (8 + 3) (by omega)]; exact j1 j hj) (by omega) (d + 1)
      have hbs : bsM us sh k free (n + 1) = if V ≤ free ∧ ((bsM us sh k free n).2.1 < U ∨ U = (bsM us sh k free n).2.1 ∧ V < (bsM us sh k free n).2.2) then (n + 1, U, V) else bsM us sh k free n := by rw [hU, hV]; rfl
      have better : v159 m' 8 (nI U) (nI V) = if (bsM us sh k free n).2.1 < U ∨ U = (bsM us sh k free n).2.1 ∧ V < (bsM us sh k free n).2.2 then 1 else 0 := by
        unfold v159
        rw [h5, h6]
        simp (disch := omega) only [sp_ltn, sp_eqn, sp_len]
        by_cases c1 : (bsM us sh k free n).2.1 < U
        · rw [if_pos c1, if_pos (Or.inl c1)]
        · rw [if_neg c1]
          by_cases c2 : U = (bsM us sh k free n).2.1
          · rw [if_neg (fun q => q c2)]
            by_cases c3 : (bsM us sh k free n).2.2 ≤ V
            · rw [if_pos c3, if_neg (by omega)]
            · rw [if_neg c3, if_pos (Or.inr ⟨c2, by omega⟩)]
          · rw [if_pos c2, if_neg (by omega)]
      have head : ∀ d, L157_72 (d + 3) 8 A (nI l) (nI free) (nI (n + 1)) o5 o6 m' = if V ≤ free ∧ ((bsM us sh k free n).2.1 < U ∨ U = (bsM us sh k free n).2.1 ∧ V < (bsM us sh k free n).2.2) then (L157_72 (d + 3) 8 A (nI l) (nI free) (nI (n + 1 + 1)) (some (.inl (nI U))) (some (.inl (nI V))) (lm_i (lm_i (lm_i m' 8 4 (nI (n + 1))) 8 5 (nI U)) 8 6 (nI V))) else L157_72 (d + 3) 8 A (nI l) (nI free) (nI (n + 1 + 1)) (some (.inl (nI U))) (some (.inl (nI V))) m' := fun d => by
        rw [E157_72 _ _ _ _ _ _ _ _ s_8, h83, sp_bit (by omega), if_neg (by rw [sp_len (by omega) (by omega)]; omega), e158u d, lt_cI_s, e158v d, lt_cI_s, nI_1]
        by_cases cf : V ≤ free
        · rw [if_neg (by rw [sp_ltn (by omega) (by omega)]; omega), p159 (d + 2) 8 _ _ s_8 m', lt_cI_s, better]
          by_cases cb : (bsM us sh k free n).2.1 < U ∨ U = (bsM us sh k free n).2.1 ∧ V < (bsM us sh k free n).2.2
          · rw [if_pos cb, if_neg (by decide), if_pos ⟨cf, cb⟩]
          · rw [if_neg cb, if_pos (by decide), if_neg (fun q => cb q.2)]
        · rw [if_pos (by rw [sp_ltn (by omega) (by omega)]; omega), if_neg (fun q => cf q.1)]
      by_cases c : V ≤ free ∧ ((bsM us sh k free n).2.1 < U ∨ U = (bsM us sh k free n).2.1 ∧ V < (bsM us sh k free n).2.2)
      · rw [if_pos c] at hbs
        obtain ⟨M, e2, x4, x5, x6, f2, r2⟩ := ih (n + 1) (some (.inl (nI U))) (some (.inl (nI V))) (lm_i (lm_i (lm_i m' 8 4 (nI (n + 1))) 8 5 (nI U)) 8 6 (nI V)) (by omega) (by rw [lm_i_ns (by omega), lm_i_ns (by omega), lm_i_ns (by omega)]; exact h83) (fun b hb => by rw [lm_i_ne hb, lm_i_ne hb, lm_i_ne hb]; exact hf b hb) hr (by rw [hbs, lm_i_ns (by omega), lm_i_ns (by omega), lm_i_eq]) (by rw [hbs, lm_i_ns (by omega), lm_i_eq]) (by rw [hbs, lm_i_eq])
        exact ⟨M, fun d => by rw [head, if_pos c, e2 d], x4, x5, x6, f2, r2⟩
      · rw [if_neg c] at hbs
        obtain ⟨M, e2, x4, x5, x6, f2, r2⟩ := ih (n + 1) (some (.inl (nI U))) (some (.inl (nI V))) m' (by omega) h83 hf hr (by rw [hbs]; exact h4) (by rw [hbs]; exact h5) (by rw [hbs]; exact h6)
        exact ⟨M, fun d => by rw [head, if_neg c, e2 d], x4, x5, x6, f2, r2⟩
  obtain ⟨M2, e2, x4, x5, x6, f2, r2⟩ := sets (2 ^ k - 1) 0 none none (lm_i (lm_i (lm_i M1 8 4 0) 8 5 0) 8 6 0) (by omega) (by rw [lm_i_ns (by omega), lm_i_ns (by omega), lm_i_ns (by omega), f1 8 (by omega)]; exact h3) (fun b hb => by rw [lm_i_ne hb, lm_i_ne hb, lm_i_ne hb]) rfl (by rw [lm_i_ns (by omega), lm_i_ns (by omega), lm_i_eq]; rfl) (by rw [lm_i_ns (by omega), lm_i_eq]; rfl) (by rw [lm_i_eq]; rfl)
  refine ⟨M2, fun d => ?_, x4, x5, x6, fun b b1 b2 => by rw [f2 b b1, f1 b b2], by rw [r2, r1]⟩
  exact (E157 (d + 3) 8 A _ _ s_8 hA m).trans ((e1 d).trans (e2 d))
end FT

/-! ===== measureWays ===== -/
section MW2
variable {N : NT} {A : Nat}
theorem k12a (hA : ts_sh A = (0, 5)) (hN : wfN N) : ∀ r a o2 o3 m, a + r = N.1 → nR N A m → (∀ a' b', a' < N.1 → b' < N.1 → a' < a → m.1 (A + 4) (12 * a' + b') = nI (fwN N.2.2.1 0 a' b')) → ∃ M o2' o3', (∀ d, L12_2 (d + 2) A (nI a) o2 o3 m = L12_72 (d + 2) A 0 o2' o3' none M) ∧ AR N A (fwN N.2.2.1 0) M ∧ (∀ c, c ≠ A + 4 → M.1 c = m.1 c) ∧ M.2 = m.2 := by
  have hn1 := hN.1
  have hn2 := hN.2.1
  intro r
  induction r with
  | zero =>
    intro a o2 o3 m ha hn hi
    have ha : a = N.1 := ha
    subst ha
    refine ⟨m, o2, o3, fun d => ?_, fun a' b' h1 h2 => hi a' b' h1 h2 h1, fun _ _ => rfl, rfl⟩
    rw [E12_2 _ _ _ _ _ hA, hn.1, if_pos (by rw [sp_len (by omega) (by omega)]; exact Nat.le_refl _)]
  | succ r ih =>
    intro a o2 o3 m ha hn hi
    obtain ⟨M, o', e1, i1, f1, r1⟩ := k12b hA hN (a := a) (by omega) N.1 0 o3 m (by omega) hn (fun a' b' h1 h2 h3 => hi a' b' h1 h2 (by omega))
    obtain ⟨M2, p2, p3, e2, i2, f2, r2⟩ := ih (a + 1) (some (.inl (nI N.1))) o' M (by omega) (nR_4 f1 hn) i1
    refine ⟨M2, p2, p3, fun d => ?_, i2, fun c hc => by rw [f2 c hc, f1 c hc], by rw [r2, r1]⟩
    rw [E12_2 _ _ _ _ _ hA, hn.1, if_neg (by rw [sp_len (by omega) (by omega)]; omega)]
    exact (e1 d).trans (e2 d)
def mixN (H : Nat → Nat → Nat) (k a b : Nat) : Nat → Nat → Nat := fun a' b' => if a' < a ∨ a' = a ∧ b' < b then fwN H (k + 1) a' b' else fwN H k a' b'
theorem AR_cg {h h' : Nat → Nat → Nat} {m : lt_m} (e : ∀ a b, a < N.1 → b < N.1 → h' a b = h a b) (hm : AR N A h m) : AR N A h' m := fun a b ha hb => by rw [e a b ha hb]; exact hm a b ha hb
theorem mix_l {H : Nat → Nat → Nat} {k a b a' : Nat} : mixN H k a b a' k = fwN H k a' k := by
  unfold mixN
  split
  · exact fw_k1
  · rfl
theorem mix_r {H : Nat → Nat → Nat} {k a b b' : Nat} : mixN H k a b k b' = fwN H k k b' := by
  unfold mixN
  split
  · exact fw_k2
  · rfl
theorem mix_c {H : Nat → Nat → Nat} {k a b : Nat} : mixN H k a b a b = fwN H k a b := by
  unfold mixN
  rw [if_neg (by omega)]
/-- one row of a stage -/
theorem k12s (hA : ts_sh A = (0, 5)) (hN : wfN N) {k a : Nat} (hk : k < N.1) (ha : a < N.1) : ∀ r b o4 m, b + r = N.1 → nR N A m → AR N A (mixN N.2.2.1 k a b) m → ∃ M o', (∀ d, L12_92 (d + 2) A (nI k) (nI a) (nI b) o4 m = L12_82 (d + 2) A (nI k) (nI (a + 1)) (some (.inl (nI N.1))) o' M) ∧ AR N A (mixN N.2.2.1 k (a + 1) 0) M ∧ (∀ c, c ≠ A + 4 → M.1 c = m.1 c) ∧ M.2 = m.2 := by
  have hn1 := hN.1
  have hn2 := hN.2.1
  have s4 : ts_sh (A + 4) = (1, 144) := sf_of hA 3 (by decide) (by decide)
  intro r
  induction r with
  | zero =>
    intro b o4 m hb hn hi
    have hb : b = N.1 := hb
    subst hb
    refine ⟨m, o4, fun d => ?_, AR_cg (fun a' b' h1 h2 => ?_) hi, fun _ _ => rfl, rfl⟩
    · rw [E12_92 _ _ _ _ _ _ hA, hn.1, if_pos (by rw [sp_len (by omega) (by omega)]; exact Nat.le_refl _), nI_1]
    · unfold mixN
      by_cases c : a' < a + 1 ∨ a' = a + 1 ∧ b' < 0
      · rw [if_pos c, if_pos (by omega)]
      · rw [if_neg c, if_neg (by omega)]
  | succ r ih =>
    intro b o4 m hb hn hi
    have hb2 : b < N.1 := by omega
    have b1 := fw_le hN.2.2.2.1 ha hk k
    have b2 := fw_le hN.2.2.2.1 hk hb2 k
    have b3 := fw_le hN.2.2.2.1 ha hb2 k
    obtain ⟨M0, hM0⟩ : ∃ M0, M0 = lm_i m (A + 4) (12 * a + b) (nI (fwN N.2.2.1 (k + 1) a b)) := ⟨_, rfl⟩
    have f0 : ∀ c, c ≠ A + 4 → M0.1 c = m.1 c := fun c hc => by rw [hM0, lm_i_ne hc]
    have i0 : AR N A (mixN N.2.2.1 k a (b + 1)) M0 := by
      rw [hM0]
      refine AR_set hN ha hb2 ?_ (fun a' b' h1 h2 h3 => ?_) hi
      · unfold mixN; rw [if_pos (by omega)]
      · unfold mixN
        by_cases c : a' < a ∨ a' = a ∧ b' < b + 1
        · rw [if_pos c, if_pos (by omega)]
        · rw [if_neg c, if_neg (by omega)]
    obtain ⟨M, o', e1, i1, f1, r1⟩ := ih (b + 1) (some (.inl (nI (fwN N.2.2.1 k a k + fwN N.2.2.1 k k b)))) M0 (by omega) (nR_4 f0 hn) i0
    refine ⟨M, o', fun d => ?_, i1, fun c hc => by rw [f1 c hc, f0 c hc], by rw [r1, hM0]; rfl⟩
    have hput : ∀ d v, lt_ev (d + 2) 17 [.inr (.inr (some (A + 4))), .inl (nI (12 * a + b)), .inl v] m = some (none, lm_i m (A + 4) (12 * a + b) v) := fun d v => k17 (d + 1) s4 (by omega) (by decide) v
    rw [E12_92 _ _ _ _ _ _ hA, hn.1, if_neg (by rw [sp_len (by omega) (by omega)]; omega), p18 d A _ _ hA m, lt_cI_s, c18 hn hN hi ha hk, p18 d A _ _ hA m, lt_cI_s, c18 hn hN hi hk hb2, p15 (d + 1) _ _ m, lt_cI_s, c15, p18 d A _ _ hA m, lt_cI_s, c18 hn hN hi ha hb2, mix_l, mix_r, mix_c, nI_add, sp_min (by omega) (by omega), hput, lt_cV_s, nI_1, ← e1 d, hM0]
    rfl
/-- one stage -/
theorem k12t (hA : ts_sh A = (0, 5)) (hN : wfN N) {k : Nat} (hk : k < N.1) : ∀ r a o3 o4 m, a + r = N.1 → nR N A m → AR N A (mixN N.2.2.1 k a 0) m → ∃ M p2 p3 p4, (∀ d, L12_82 (d + 2) A (nI k) (nI a) o3 o4 m = L12_72 (d + 2) A (nI (k + 1)) p2 p3 p4 M) ∧ AR N A (fwN N.2.2.1 (k + 1)) M ∧ (∀ c, c ≠ A + 4 → M.1 c = m.1 c) ∧ M.2 = m.2 := by
  have hn1 := hN.1
  have hn2 := hN.2.1
  intro r
  induction r with
  | zero =>
    intro a o3 o4 m ha hn hi
    have ha : a = N.1 := ha
    subst ha
    refine ⟨m, some (.inl (nI N.1)), o3, o4, fun d => ?_, AR_cg (fun a' b' h1 h2 => ?_) hi, fun _ _ => rfl, rfl⟩
    · rw [E12_82 _ _ _ _ _ _ hA, hn.1, if_pos (by rw [sp_len (by omega) (by omega)]; exact Nat.le_refl _), nI_1]
    · unfold mixN; rw [if_pos (by omega)]
  | succ r ih =>
    intro a o3 o4 m ha hn hi
    obtain ⟨M, o', e1, i1, f1, r1⟩ := k12s hA hN hk (a := a) (by omega) N.1 0 o4 m (by omega) hn hi
    obtain ⟨M2, p2, p3, p4, e2, i2, f2, r2⟩ := ih (a + 1) (some (.inl (nI N.1))) o' M (by omega) (nR_4 f1 hn) i1
    refine ⟨M2, p2, p3, p4, fun d => ?_, i2, fun c hc => by rw [f2 c hc, f1 c hc], by rw [r2, r1]⟩
    rw [E12_82 _ _ _ _ _ _ hA, hn.1, if_neg (by rw [sp_len (by omega) (by omega)]; omega)]
    exact (e1 d).trans (e2 d)
theorem k12u (hA : ts_sh A = (0, 5)) (hN : wfN N) : ∀ r k o2 o3 o4 m, k + r = N.1 → nR N A m → AR N A (fwN N.2.2.1 k) m → ∃ M, (∀ d, L12_72 (d + 2) A (nI k) o2 o3 o4 m = some (none, M)) ∧ AR N A (dsN N.2.2.1 N.1) M ∧ (∀ c, c ≠ A + 4 → M.1 c = m.1 c) ∧ M.2 = m.2 := by
  have hn1 := hN.1
  have hn2 := hN.2.1
  intro r
  induction r with
  | zero =>
    intro k o2 o3 o4 m hk hn hi
    have hk : k = N.1 := hk
    subst hk
    refine ⟨m, fun d => ?_, hi, fun _ _ => rfl, rfl⟩
    rw [E12_72 _ _ _ _ _ _ hA, hn.1, if_pos (by rw [sp_len (by omega) (by omega)]; exact Nat.le_refl _)]
  | succ r ih =>
    intro k o2 o3 o4 m hk hn hi
    obtain ⟨M, p2, p3, p4, e1, i1, f1, r1⟩ := k12t hA hN (k := k) (by omega) N.1 0 o3 o4 m (by omega) hn (AR_cg (fun a' b' h1 h2 => by unfold mixN; rw [if_neg (by omega)]) hi)
    obtain ⟨M2, e2, i2, f2, r2⟩ := ih (k + 1) p2 p3 p4 M (by omega) (nR_4 f1 hn) i1
    refine ⟨M2, fun d => ?_, i2, fun c hc => by rw [f2 c hc, f1 c hc], by rw [r2, r1]⟩
    rw [E12_72 _ _ _ _ _ _ hA, hn.1, if_neg (by rw [sp_len (by omega) (by omega)]; omega)]
    exact (e1 d).trans (e2 d)
theorem k12 (hA : ts_sh A = (0, 5)) (hN : wfN N) {m : lt_m} (hn : nR N A m) : ∃ M, (∀ d, lt_ev (d + 3) 12 [.inr (.inr (some A))] m = some (none, M)) ∧ AR N A (dsN N.2.2.1 N.1) M ∧ (∀ c, c ≠ A + 4 → M.1 c = m.1 c) ∧ M.2 = m.2 := by
  obtain ⟨M, p2, p3, e1, i1, f1, r1⟩ := k12a hA hN N.1 0 none none m (by omega) hn (fun a' b' _ _ h => absurd h (Nat.not_lt_zero _))
  obtain ⟨M2, e2, i2, f2, r2⟩ := k12u hA hN N.1 0 p2 p3 none M (by omega) (nR_4 f1 hn) i1
  exact ⟨M2, fun d => (E12 (d + 2) A hA m).trans ((e1 d).trans (e2 d)), i2, fun c hc => by rw [f2 c hc, f1 c hc], by rw [r2, r1]⟩
end MW2

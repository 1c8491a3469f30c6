/-! ===== a new NET: the two halves ===== -/
section NW
variable {T : Nat} {S : ST} {m M m' : lt_m} {dist wl : DT} {B : Nat}
/-- the class has failed to read a NET: its draft alone has changed -/
theorem CS_rdB (hB : m.2.2.2.1 = B) (h : ∀ b, 13 ≤ b → b < 711 → ¬ (B ≤ b ∧ b < B + 8) → m'.1 b = m.1 b) (h6 : m'.1 (B + 6) 1 = m.1 (B + 6) 1) (hr : m'.2 = m.2) (h2 : m'.1 2 1 = 0) (hm : CS dist wl T S m) : CS dist wl T S.rd m' := by
  obtain ⟨⟨A, B', n1, n2, n3, n4, n5, n6, n7⟩, -, q3, ⟨i1, i2, i3, i5, i6, i7, i8, i10⟩, i11, i12, i13⟩ := hm
  have eB : B' = B := n2.symm.trans hB
  subst eB
  have hL : ∀ L, 13 ≤ L → L + 68 ≤ 695 → ∀ b, L ≤ b → b < L + 68 → m'.1 b = m.1 b := fun L h1 h2 b g1 g2 => h b (by omega) (by omega) (by omega)
  have hA : ∀ b, A ≤ b → b < A + 8 → m'.1 b = m.1 b := fun b g1 g2 => h b (by omega) (by omega) (by omega)
  have hm8 : ∀ j, (S.l + 8 - (S.D - 1 - j)) % 8 < 8 := fun j => Nat.mod_lt _ (by decide)
  refine ⟨⟨A, B', by rw [hr]; exact n1, by rw [hr]; exact n2, n3, n4, nR_fr hA n5, ?_, ?_⟩, ⟨Nat.zero_le _, h2, fun j hj => absurd hj (Nat.not_lt_zero j)⟩, LED_fr (hL 13 (by omega) (by omega)) q3, ⟨i1, i2, ?_, ?_, fun j hj => LED_fr (hL _ (by omega) (by have := hm8 j; omega)) (i6 j hj), i7, ?_, fun hk => LED_fr (hL 83 (by omega) (by omega)) (i10 hk)⟩, nmR_fr (hL 13 (by omega) (by omega)) i11, nmR_fr (hL 83 (by omega) (by omega)) i12, fun j hj => nmR_fr (hL _ (by omega) (by omega)) (i13 j hj)⟩
  · rw [hA A (by omega) (by omega)]; exact n6
  · have e1 : m'.1 701 1 = m.1 701 1 := by
      rcases n3 with ⟨hA1, hB1⟩ | ⟨hA1, hB1⟩
      · rw [hA 701 (by omega) (by omega)]
      · rw [hB1] at h6; exact h6
    have e2 : m'.1 709 1 = m.1 709 1 := by
      rcases n3 with ⟨hA1, hB1⟩ | ⟨hA1, hB1⟩
      · rw [hB1] at h6; exact h6
      · rw [hA 709 (by omega) (by omega)]
    unfold wyR at n7 ⊢
    rw [hA (A + 4) (by omega) (by omega), hA (A + 6) (by omega) (by omega), hA (A + 7) (by omega) (by omega), e1, e2]
    exact n7
  · rw [h 81 (by omega) (by omega) (by omega)]; exact i3
  · rw [h 81 (by omega) (by omega) (by omega)]; exact i5
  · rw [h 81 (by omega) (by omega) (by omega)]; exact i8
/-- the empty ledger: Ledger.clear -/
def clS (i : Nat) (m : lt_m) : lt_m := (fun b j => if 21 ≤ b ∧ b < 21 + 3 * i ∧ (b - 21) % 3 = 0 ∧ j = 7 then -1 else m.1 b j, m.2)
theorem clS_0 : clS 0 m = m := Prod.ext (funext fun b => funext fun j => if_neg (by omega)) rfl
theorem clS_s {i : Nat} : lm_i (clS i m) (21 + 3 * i) 7 (-1) = clS (i + 1) m := by
  refine Prod.ext (funext fun b => funext fun j => ?_) rfl
  show (if b = 21 + 3 * i ∧ j = 7 then (-1 : Int32) else if 21 ≤ b ∧ b < 21 + 3 * i ∧ (b - 21) % 3 = 0 ∧ j = 7 then -1 else m.1 b j) = if 21 ≤ b ∧ b < 21 + 3 * (i + 1) ∧ (b - 21) % 3 = 0 ∧ j = 7 then -1 else m.1 b j
  by_cases c : b = 21 + 3 * i ∧ j = 7
  · rw [if_pos c, if_pos (by omega)]
  · rw [if_neg c]
    by_cases c2 : 21 ≤ b ∧ b < 21 + 3 * i ∧ (b - 21) % 3 = 0 ∧ j = 7
    · rw [if_pos c2, if_pos (by omega)]
    · rw [if_neg c2, if_neg (by omega)]
theorem k53 (m : lt_m) : ∃ M, (∀ d, lt_ev (d + 2) 53 [.inr (.inr (some (0 + 13)))] m = some (none, M)) ∧ M.1 13 4 = 0 ∧ M.1 13 5 = 0 ∧ M.1 13 6 = 0 ∧ (∀ i, i < 20 → M.1 (13 + 3 + 5 + 3 * i) 7 = -1) ∧ M.1 17 3 = 0 ∧ (∀ i, i < 20 → ∀ k, k ≠ 7 → M.1 (13 + 3 + 5 + 3 * i) k = m.1 (13 + 3 + 5 + 3 * i) k) ∧ (∀ b, ¬ (13 ≤ b ∧ b < 81) → M.1 b = m.1 b) ∧ M.2 = m.2 := by
  have sb : ts_sh (0 + 13 + 4) = (0, 0) := sf_of sL 3 (by decide) (by decide)
  obtain ⟨M0, hM0⟩ : ∃ M0, M0 = lm_i (lm_i (lm_i m (0 + 13) 4 0) (0 + 13) 5 0) (0 + 13) 6 0 := ⟨_, rfl⟩
  have o0 : ∀ b, b ≠ 13 → M0.1 b = m.1 b := fun b hb => by rw [hM0, lm_i_ne hb, lm_i_ne hb, lm_i_ne hb]
  have oc : ∀ i b j, ¬ (21 ≤ b ∧ b < 21 + 3 * i ∧ (b - 21) % 3 = 0 ∧ j = 7) → (clS i M0).1 b j = M0.1 b j := fun i b j h => if_neg h
  refine ⟨lm_i (clS 20 M0) 17 3 0, fun d => ?_, ?_, ?_, ?_, fun i hi => ?_, lm_i_eq, fun i hi k hk => ?_, fun b hb => ?_, by rw [hM0]; rfl⟩
  · refine (E53 (d + 1) (0 + 13) sL m).trans ?_
    rw [← hM0]
    have key := lp_it (F := fun i (o : Option ts_V) => L53_25 (d + 1) (0 + 13) (nI i) o (clS i M0)) (K := some (none, lm_i (clS 20 M0) 17 3 0)) 20 ?_ ?_ none
    · have key : L53_25 (d + 1) (0 + 13) (nI 0) none (clS 0 M0) = _ := key
      rw [clS_0] at key
      exact key
    · intro i o hi
      refine ⟨some (.inr (.inr (some (21 + 3 * i)))), ?_⟩
      rw [E53_25 _ _ _ _ sL, show (20 : Int32) = nI 20 from rfl, if_neg (by rw [sp_len (by omega) (by omega)]; omega), lt_gd_t (sp_gd hi (by omega)), nI_clamp (by omega), show 0 + 13 + 3 + 5 + 3 * i = 21 + 3 * i by omega, clS_s, nI_1]
    · intro o
      rw [E53_25 _ _ _ _ sL, if_pos (by decide), E54 d (0 + 13 + 4) sb, lt_cV_s]
  · rw [lm_i_ne (by decide), oc _ _ _ (by omega), hM0, lm_i_ns (by omega), lm_i_ns (by omega)]; exact lm_i_eq
  · rw [lm_i_ne (by decide), oc _ _ _ (by omega), hM0, lm_i_ns (by omega)]; exact lm_i_eq
  · rw [lm_i_ne (by decide), oc _ _ _ (by omega), hM0]; exact lm_i_eq
  · rw [lm_i_ne (by omega)]
    exact if_pos ⟨by omega, by omega, by omega, rfl⟩
  · rw [lm_i_ne (by omega), oc _ _ _ (by omega), o0 _ (by omega)]
  · rw [lm_i_ne (by omega), ← o0 b (by omega)]
    exact funext fun j => oc _ _ _ (by omega)
theorem wfL_0 (N : NT) : wfL N (fun _ => 0) := ⟨Nat.zero_le _, Nat.zero_le _, Nat.zero_le _, Nat.zero_le _, fun t ht => absurd ht (Nat.not_lt_zero t), fun i hi => absurd hi (Nat.not_lt_zero i)⟩
/-- a ledger in the class that is empty -/
theorem LED_0 {N : NT} (h4 : m.1 13 4 = 0) (h5 : m.1 13 5 = 0) (h6 : m.1 13 6 = 0) (h7 : ∀ i, i < 20 → m.1 (13 + 3 + 5 + 3 * i) 7 = -1) (hb : m.1 17 3 = 0) (hn : nmR 13 m) : LED N (fun _ => 0) 13 T m := ⟨⟨h4, h5, h6, fun t ht => absurd ht (Nat.not_lt_zero t), fun i hi => absurd hi (Nat.not_lt_zero i), fun i _ hi => h7 i hi, fun i hi => (hn i hi).1⟩, ⟨0, Nat.zero_le _, hb, rfl, fun j hj => absurd hj (Nat.not_lt_zero j)⟩, wfL_0 N⟩
/-- the class's half, behind a new NET; the text is empty -/
theorem CS_net {N : NT} {q : Nat} (hB : m.2.2.2.1 = B) (hN : wfN N) (h2 : m'.1 2 1 = 0) (hr1 : m'.2.2.1 = B) (hr2 : m'.2.2.2.1 = m.2.2.1) (hnR : nR N B m') (h7 : m'.1 B 7 = nI q) (hAR : AR N B (dsN N.2.2.1 N.1) m') (hCT : CT B (wtx N) m') (hlen : (wtx N).length ≤ 200) (hd : ∀ b, (13 ≤ b ∧ b < 711) → ¬ (13 ≤ b ∧ b < 82) → ¬ (B ≤ b ∧ b < B + 8) → m'.1 b = m.1 b) (hl : LED N (fun _ => 0) 13 T m') (hnm : nmR 13 m') (h84 : m'.1 81 4 = 0) (h83 : m'.1 81 3 = m.1 81 3) (h82 : m'.1 81 2 = 0) (hm : CS dsD wlD T S m) : CS dsD wlD T (ST.mk N (fun _ => 0) S.tx 0 (nI q) 0 S.l S.pw 0 S.kw) m' := by
  obtain ⟨⟨A, B', n1, n2, n3, n4, n5, n6, n7⟩, -, q3, ⟨i1, i2, i3, i5, i6, i7, i8, i10⟩, i11, i12, i13⟩ := hm
  have eB : B' = B := n2.symm.trans hB
  subst eB
  have hL : ∀ L, 83 ≤ L → L + 68 ≤ 695 → ∀ b, L ≤ b → b < L + 68 → m'.1 b = m.1 b := fun L h1 h2 b g1 g2 => hd b (by omega) (by omega) (by omega)
  have hA : ∀ b, A ≤ b → b < A + 8 → m'.1 b = m.1 b := fun b g1 g2 => hd b (by omega) (by omega) (by omega)
  refine ⟨⟨B', A, hr1, by rw [hr2, n1], by omega, hN, hnR, h7, ?_⟩, ⟨Nat.zero_le _, h2, fun j hj => absurd hj (Nat.not_lt_zero j)⟩, hl, ⟨Nat.zero_le _, i2, h84, by rw [h83]; exact i5, fun j hj => absurd hj (Nat.not_lt_zero j), Nat.zero_le _, h82, fun hk => by cases hk⟩, hnm, nmR_fr (hL 83 (by omega) (by omega)) i12, fun j hj => nmR_fr (hL _ (by omega) (by omega)) (i13 j hj)⟩
  obtain ⟨-, -, -, -, s, t, hs, ht, h701, h709⟩ := n7
  refine ⟨fun a b ha hb => hAR a b ha hb, hCT.1, hlen, fun j hj => ?_, ?_⟩
  · have hj : j < (wtx N).length := hj
    have hg : (wtx N)[j]? = some ((wtx N).getD j 0) := by
      rw [List.getElem?_eq_getElem hj, List.getD_eq_getElem?_getD, List.getElem?_eq_getElem hj]
      rfl
    exact hCT.2 j _ hg
  · rcases n3 with ⟨hA1, hB1⟩ | ⟨hA1, hB1⟩
    · subst hA1; subst hB1
      exact ⟨s, _, hs, hlen, by rw [hA 701 (by omega) (by omega)]; exact h701, hCT.1⟩
    · subst hA1; subst hB1
      exact ⟨_, t, hlen, ht, hCT.1, by rw [hA 709 (by omega) (by omega)]; exact h709⟩
end NW

/-! ===== gates: the calls ===== -/
section GC
variable {dist wl : DT} {N : NT} {w : Nat → Nat} {T : Nat} {m : lt_m} {A : Nat}
theorem fu_lt {H : Nat → Nat → Nat} {n R : Nat} (hn : n ≤ 12) (h : R < 4096) : ∀ i, fuN H n R i < 4096 := by
  intro i
  induction i with
  | zero => exact h
  | succ i ih =>
    simp only [fuN]
    split
    · exact Nat.or_lt_two_pow (n := 12) ih (Nat.lt_of_lt_of_le (bitsN_lt _ _) (Nat.pow_le_pow_right (by omega) hn))
    · exact ih
theorem rc_lt {H : Nat → Nat → Nat} {n shut a : Nat} (hn : n ≤ 12) (ha : a < n) : ∀ k, rcN H n shut a k < 4096 := by
  intro k
  induction k with
  | zero => exact two_4096 (by omega)
  | succ k ih => exact df_lt (fu_lt hn ih n)
/-- hasRoute -/
theorem k77 (hA : ts_sh A = (0, 5)) (hN : wfN N) (hn : nR N A m) {a g shut : Nat} (x3 : Int32) (ha : a < N.1) (hg : g < N.1) (hs : (x3 = -1 ∧ shut = 0) ∨ ∃ o, o < N.1 ∧ x3 = nI o ∧ shut = 2 ^ o) : ∀ d, lt_ev (d + 4) 77 [.inr (.inr (some A)), .inl (nI a), .inl (nI g), .inl x3] m = some (some (.inl (if (rcN N.2.2.1 N.1 shut a 7).testBit g = true then 1 else 0)), m) := by
  intro d
  have hn2 := hN.2.1
  have inner : ∀ (R : Nat) (x6 : Int32), R < 4096 → ∀ r i, i + r = N.1 → L77_36 (d + 3) A (nI a) (nI g) x3 (nI shut) (nI R) x6 (nI (fuN N.2.2.1 N.1 R i)) (nI i) m = L77_22 (d + 3) A (nI a) (nI g) x3 (nI shut) (nI (dfN (fuN N.2.2.1 N.1 R N.1) shut)) (x6 + 1) (some (.inl (nI (fuN N.2.2.1 N.1 R N.1)))) (some (.inl (nI N.1))) m := by
    intro R x6 hR r
    induction r with
    | zero =>
      intro i hi
      have hi : i = N.1 := hi
      subst hi
      rw [E77_36 _ _ _ _ _ _ _ _ _ _ hA, hn.1, if_pos (by rw [sp_len (by omega) (by omega)]; exact Nat.le_refl _), sp_df]
    | succ r ih =>
      intro i hi
      have hi2 : i < N.1 := by omega
      rw [E77_36 _ _ _ _ _ _ _ _ _ _ hA, hn.1, if_neg (by rw [sp_len (by omega) (by omega)]; omega), sp_tb (by omega) (by omega)]
      have ih' := ih (i + 1) (by omega)
      simp only [fuN] at ih'
      by_cases c : R.testBit i = true
      · rw [if_pos c] at ih'
        rw [if_pos c, if_neg (by decide), p49 (d + 1) A _ hA m, lt_cI_s, c49 hn hN hi2, sp_orN, nI_1, ih']
      · rw [if_neg c] at ih'
        rw [if_neg c, if_pos (by decide), nI_1, ih']
  have outer : ∀ r k o7 o8, k + r = 7 → L77_22 (d + 3) A (nI a) (nI g) x3 (nI shut) (nI (rcN N.2.2.1 N.1 shut a k)) (nI (k + 1)) o7 o8 m = some (some (.inl (if (rcN N.2.2.1 N.1 shut a 7).testBit g = true then 1 else 0)), m) := by
    intro r
    induction r with
    | zero =>
      intro k o7 o8 hk
      have hk : k = 7 := hk
      subst hk
      have := rc_lt (H := N.2.2.1) (shut := shut) hn2 ha 7
      rw [E77_22, if_pos (by decide), sp_tb (by omega) (by omega)]
      by_cases c : (rcN N.2.2.1 N.1 shut a 7).testBit g = true
      · rw [if_pos c, if_pos c, if_neg (by decide)]
      · rw [if_neg c, if_neg c, if_pos (by decide)]
    | succ r ih =>
      intro k o7 o8 hk
      have := inner (rcN N.2.2.1 N.1 shut a k) (nI (k + 1)) (rc_lt hn2 ha k) N.1 0 (by omega)
      rw [nI_0] at this
      rw [E77_22, if_neg (by rw [q_8, sp_len (by omega) (by omega)]; omega)]
      refine Eq.trans this ?_
      rw [nI_1]
      exact ih (k + 1) _ _ (by omega)
  refine (E77 (d + 3) A _ _ _ hA m).trans ?_
  have h0 := outer 7 0 none none (by omega)
  rcases hs with ⟨rfl, rfl⟩ | ⟨o, ho, rfl, rfl⟩
  · rw [if_neg (fun q => q rfl), sp_bit (by omega)]
    exact h0
  · rw [if_pos (by rw [sp_m1 (by omega)]; exact not_false), sp_bit (by omega), sp_bit (by omega)]
    exact h0
/-- the offices that all pass -/
def gaN (H : Nat → Nat → Nat) (n a g : Nat) : Nat → Bool := fun o => decide (o ≠ a ∧ o ≠ g) && (CR H n g 7 a (2 ^ a) 0).2.2.2.testBit o
theorem op_gates (d : Nat) (hr : RR dist wl T m) (x y : Int32) : OP dist wl d T T 76 208 [.inl x, .inl y] m := by
  have hr0 := hr
  obtain ⟨N, w, vs, hs, hl, hc, hm⟩ := hr
  have hN := hs.wfN
  have hn2 := hN.2.1
  have hcls : lt_ev (d + 30) 76 [.inr (.inr (some 0)), .inl x, .inl y] m = _ := E76 (d + 29) 0 _ _ sx m
  rw [lt_gd_t hs.sA, p14 (d + 28) _ _ hs.sA m, lt_cI_s] at hcls
  have hmod : ∀ M : lt_m, ml N w 711 (lm_i M 711 15 0) → lt_ev (d + 30) 208 [.inr (.inr (some 711)), .inl x, .inl y] M = _ := fun M h => by
    refine (E208 (d + 29) 711 _ _ sy M).trans ?_
    rw [m193 (d + 27) sy h hN, lt_cI_s]
  rcases c14 hs.nR hN x with ⟨a, ha, rfl, ea⟩ | ⟨hx, ea⟩
  · rw [ea, if_neg (by decide), lt_gd_t hs.sA, p14 (d + 28) _ _ hs.sA m, lt_cI_s] at hcls
    have hmod2 : ∀ M : lt_m, ml N w 711 (lm_i M 711 15 0) → lt_ev (d + 30) 208 [.inr (.inr (some 711)), .inl (nI a), .inl y] M = _ := fun M h => by
      refine (hmod M h).trans ?_
      rw [sp_i1 ha (by omega), if_neg (by decide), m193 (d + 27) sy h hN, lt_cI_s]
    rcases c14 hs.nR hN y with ⟨g, hg, rfl, eg⟩ | ⟨hy, eg⟩
    · rw [eg, if_neg (by decide)] at hcls
      have hmod3 : ∀ M : lt_m, ml N w 711 (lm_i M 711 15 0) → lt_ev (d + 30) 208 [.inr (.inr (some 711)), .inl (nI a), .inl (nI g)] M = _ := fun M h => by
        refine (hmod2 M h).trans ?_
        rw [sp_i1 hg (by omega), if_neg (by decide)]
      by_cases e : a = g
      · refine OP_q (.inl (-1)) hr0 (hcls.trans ?_) ((hmod3 m hs.t0.ml).trans ?_)
        · rw [if_neg (by rw [e]; exact fun q => q rfl)]
        · rw [if_neg (by rw [e]; exact fun q => q rfl)]
      · have hne : ¬ nI a = nI g := by rw [sp_eqn (by omega) (by omega)]; exact e
        obtain ⟨X, hX⟩ : ∃ X, X = CR N.2.2.1 N.1 g 7 a (2 ^ a) 0 := ⟨_, rfl⟩
        have hgdX : gdM X := by rw [hX]; exact gd_CR hn2 hN.2.2.2.1 7 a _ _ ha (two_4096 (by omega)) (by decide)
        have hct : 0 < X.1 ↔ (rcN N.2.2.1 N.1 0 a 7).testBit g = true := by
          rw [hX, CR_ct 7 a _ 0 (two_4096 (by omega)) hn2, rc_iff (o := 12) hn2 (fun x hx => by rw [Nat.zero_testBit]; exact ⟨fun q => absurd q (by decide), fun q => by omega⟩) ha hg (by omega)]
        have hal : ∀ o, o < N.1 → o ≠ a → (X.2.2.2.testBit o = false ↔ (rcN N.2.2.1 N.1 (2 ^ o) a 7).testBit g = true) := fun o ho hoa => by
          rw [hX, CR_al (by omega) 7 a _ 0, rc_iff (o := o) hn2 (fun x hx => by rw [Nat.testBit_two_pow, decide_eq_true_eq]; exact ⟨fun q => q.symm, fun q => q.symm⟩) ha hg (fun q => hoa q.symm)]
        have h77a := k77 (m := m) hs.sA hN hs.nR (-1) ha hg (Or.inl ⟨rfl, rfl⟩) (d + 25)
        rw [if_pos hne, lt_gd_t hs.sA, h77a, lt_cI_s] at hcls
        by_cases c0 : X.1 = 0
        · obtain ⟨M3, e3, c3, f3⟩ := m204 (w := w) hN hs.t0.ml ha hg
          have hs3 := RS_fr (same_w f3) hs.t0
          have hno : ¬ (rcN N.2.2.1 N.1 0 a 7).testBit g = true := fun q => by
            have := hct.mpr q
            omega
          refine ⟨.inl (-2), m, M3, hcls.trans ?_, (hmod3 m hs.t0.ml).trans ?_, ⟨N, w, vs, hs3, hl, ?_, ?_⟩⟩
          · rw [if_neg hno, if_neg (by decide)]
          · rw [if_pos hne, e3 (d + 19), lt_cI_s, ← hX, if_pos c0, if_neg (by decide)]
          · exact ⟨by rw [f3.1 4 1 (by omega), lm_i_ne (by omega)]; exact hc.1, fun j v hj => by rw [f3.1 5 j (by omega), lm_i_ne (by omega)]; exact hc.2 j v hj⟩
          · exact ⟨by rw [f3.1 711 14 (by omega), lm_i_ns (by omega)]; exact hm.1, fun j v hj => by rw [f3.2]; exact hm.2 j v hj⟩
        · have hyes := hct.mp (by omega)
          rw [if_pos hyes, if_pos (by decide)] at hcls
          obtain ⟨B, hB⟩ : ∃ B, B = bitsN (gaN N.2.2.1 N.1 a g) N.1 := ⟨_, rfl⟩
          have hBl : B < 2 ^ 24 := by
            rw [hB]
            exact Nat.lt_of_lt_of_le (bitsN_lt _ _) (Nat.pow_le_pow_right (by omega) (by omega))
          have hBd : dfN ((2 ^ N.1 - 1) &&& X.2.2.2) (2 ^ a ||| 2 ^ g) = B := by
            rw [hB]
            refine bitsN_eq (q := gaN N.2.2.1 N.1 a g) fun i => ?_
            by_cases ci : i < N.1
            · rw [df_tb (by omega), Nat.testBit_and, Nat.testBit_two_pow_sub_one, decide_eq_true ci, Nat.testBit_or, Nat.testBit_two_pow, Nat.testBit_two_pow]
              unfold gaN
              rw [← hX, Bool.true_and, Bool.true_and]
              by_cases c1 : i = a
              · subst c1; simp
              · by_cases c2 : i = g
                · subst c2; simp
                · rw [decide_eq_false (fun q : a = i => c1 q.symm), decide_eq_false (fun q : g = i => c2 q.symm), decide_eq_true (show i ≠ a ∧ i ≠ g from ⟨c1, c2⟩)]
                  simp
            · rw [decide_eq_false ci, Bool.false_and]
              refine Nat.testBit_lt_two_pow (Nat.lt_of_lt_of_le (df_lt (Nat.lt_of_le_of_lt Nat.and_le_left (Nat.sub_lt (Nat.two_pow_pos _) Nat.one_pos))) (Nat.pow_le_pow_right (by omega) (by omega)))
          obtain ⟨M2, hM2⟩ : ∃ M2, M2 = radd (rclr m) 0 (nI (pcN B 24)) := ⟨_, rfl⟩
          have e75 : lt_ev (d + 29) 75 [.inr (.inr (some 0)), .inl (nI (pcN B 24))] m = some (none, M2) := by rw [hM2]; exact k75 (d + 26)
          have f2 : same m M2 := by rw [hM2]; exact same_tr same_rclr same_radd
          have r2 : rwC [nI (pcN B 24)] M2 := by rw [hM2]; exact rwC_add (vs := []) (rwC_clr m)
          have hs2 : RS dist wl N w T M2 := RS_fr f2 hs
          obtain ⟨M3, e3, c3, f3⟩ := m204 (w := w) hN hs2.t0.ml ha hg
          rw [← hX] at c3
          have hs3 := RS_fr (same_w f3) hs2.t0
          have r3 : rwC [nI (pcN B 24)] M3 := ⟨by rw [f3.1 4 1 (by omega), lm_i_ne (by omega)]; exact r2.1, fun j v hj => by rw [f3.1 5 j (by omega), lm_i_ne (by omega)]; exact r2.2 j v hj⟩
          have h202a := m202 (m := rzer M3) (d + 28) (k := 0) (x := (nI (pcN B 24)).toInt64) rfl (by decide)
          refine ⟨.inl (nI B), M2, rtel (rzer M3) 0 (nI (pcN B 24)).toInt64, hcls.trans ?_, (hmod3 M2 hs2.t0.ml).trans ?_, ⟨N, w, [nI (pcN B 24)], RS_fr (same_tr same_rzer same_rtel) hs3, by simp, rwC_tel (rwC_zer r3), rwM_tel (vs := []) (rwM_zer M3)⟩⟩
          · have loop : ∀ r i, i + r = N.1 → L76_50 (d + 29) 0 (nI a) (nI g) (nI (bitsN (gaN N.2.2.1 N.1 a g) i)) (nI i) m = some (some (.inl (nI B)), M2) := by
              intro r
              induction r with
              | zero =>
                intro i hi
                have hi : i = N.1 := hi
                subst hi
                rw [E76_50 _ _ _ _ _ _ sx, lt_gd_t hs.sA, hs.nR.1, if_pos (by rw [sp_len (by omega) (by omega)]; exact Nat.le_refl _), ← hB, k60 (d + 28) hBl, lt_cI_s, e75, lt_cV_s]
              | succ r ih =>
                intro i hi
                have hi2 : i < N.1 := by omega
                have ih' := ih (i + 1) (by omega)
                rw [bitsN_succ] at ih'
                have skip : gaN N.2.2.1 N.1 a g i = false → L76_50 (d + 29) 0 (nI a) (nI g) (nI (bitsN (gaN N.2.2.1 N.1 a g) i)) (nI (i + 1)) m = some (some (.inl (nI B)), M2) := fun q => by
                  rw [q] at ih'
                  exact ih'
                rw [E76_50 _ _ _ _ _ _ sx, lt_gd_t hs.sA, hs.nR.1, if_neg (by rw [sp_len (by omega) (by omega)]; omega)]
                by_cases c1 : i = a
                · rw [if_pos (by rw [c1]), nI_1]
                  exact skip (by unfold gaN; rw [decide_eq_false (fun q => q.1 c1)]; rfl)
                · rw [if_neg (by rw [sp_eqn (by omega) (by omega)]; exact c1)]
                  by_cases c2 : i = g
                  · rw [if_pos (by rw [c2]), nI_1]
                    exact skip (by unfold gaN; rw [decide_eq_false (fun q => q.2 c2)]; rfl)
                  · have h77 := k77 (m := m) hs.sA hN hs.nR (nI i) ha hg (Or.inr ⟨i, hi2, rfl, rfl⟩) (d + 25)
                    rw [if_neg (by rw [sp_eqn (by omega) (by omega)]; exact c2), h77, lt_cI_s]
                    by_cases c3 : (rcN N.2.2.1 N.1 (2 ^ i) a 7).testBit g = true
                    · have := (hal i hi2 c1).mpr c3
                      rw [if_pos c3, if_pos (by decide), nI_1]
                      exact skip (by unfold gaN; rw [← hX, this, Bool.and_false])
                    · have hga : gaN N.2.2.1 N.1 a g i = true := by
                        unfold gaN
                        rw [← hX, decide_eq_true (show i ≠ a ∧ i ≠ g from ⟨c1, c2⟩), Bool.true_and]
                        cases q : X.2.2.2.testBit i with
                        | true => rfl
                        | false => exact absurd ((hal i hi2 c1).mp q) c3
                      rw [hga] at ih'
                      rw [if_neg c3, if_neg (by decide), sp_bit (by omega), sp_orI (bitsN_lt _ i), nI_1]
                      exact ih'
            exact loop N.1 0 (by omega)
          · have h32 : M3.1 711 32 &&& ((((1 : Int32) <<< (nI a &&& 31)) ||| ((1 : Int32) <<< (nI g &&& 31))) ^^^ (-1 : Int32)) = nI B := by
              rw [c3.2.2.2, sp_bit (by omega), sp_bit (by omega), sp_orN, sp_df, hBd]
            rw [if_pos hne, e3 (d + 19), lt_cI_s, ← hX, if_neg c0, if_pos (by decide), h32, m206 (d + 28) hBl, lt_cI_s, show lm_i M3 711 14 (0 : Int32) = rzer M3 from rfl, h202a, lt_cV_s]
    · refine OP_q (.inl (-1)) hr0 (hcls.trans ?_) ((hmod2 m hs.t0.ml).trans ?_)
      · rw [eg, if_pos rfl]
      · rw [sp_i0 (by omega) hy, if_pos rfl]
  · refine OP_q (.inl (-1)) hr0 (hcls.trans ?_) ((hmod m hs.t0.ml).trans ?_)
    · rw [ea, if_pos rfl]
    · rw [sp_i0 (by omega) hx, if_pos rfl]
end GC

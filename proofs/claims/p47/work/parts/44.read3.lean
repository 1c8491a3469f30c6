/-! ===== the class's number ===== -/
section RD
variable {tx : Nat → Nat} {tk p e : Nat} {m M : lt_m}
/-- the class's number -/
theorem rdN_i : ∀ n i v p, i ≠ 0 → ¬ (rdN tx tk n i v p).1 = 0 := by
  intro n
  induction n with
  | zero => intro i v p h; exact h
  | succ n ih =>
    intro i v p h
    simp only [rdN]
    split
    · exact ih _ _ _ (by omega)
    · exact h
theorem k37l (x1 x2 : Int32) {dg : Nat} (hd : dg ≤ 3) : ∀ n i v p m, i + n = dg → (i = 0 ∧ v = 0 ∨ i = 1 ∧ v < 10 ∨ i = 2 ∧ v < 100 ∨ 3 ≤ i ∧ v < 1000) → crd tx tk p m → ∃ M, (∀ d, L37_34 (d + 2) 1 x1 x2 (nI dg) (nI v) (nI i) m = L37_86 (d + 2) 1 x1 x2 (nI dg) (nI (rdN tx tk n i v p).2.1) (nI (rdN tx tk n i v p).1) M) ∧ crd tx tk (rdN tx tk n i v p).2.2 M ∧ (∀ b, b ≠ 1 → M.1 b = m.1 b) ∧ M.2 = m.2 := by
  intro n
  induction n with
  | zero =>
    intro i v p m hi hv h
    refine ⟨m, fun d => ?_, h, fun _ _ => rfl, rfl⟩
    rw [E37_34 _ _ _ _ _ _ _ s_1, if_pos (by rw [sp_len (by omega) (by omega)]; omega)]
    rfl
  | succ n ih =>
    intro i v p m hi hv h
    have hp := h.2.1
    have hvb : v < 1000 := by omega
    have head : ∀ d, L37_34 (d + 2) 1 x1 x2 (nI dg) (nI v) (nI i) m = if (v35 m 1) = (-1 : Int32) then (L37_86 (d + 2) 1 x1 x2 (nI dg) (nI v) (nI i) m) else (if nI i = 0 then (L37_58 (d + 2) 1 x1 x2 (nI dg) (nI v) (nI i) m) else (if nI v ≤ 0 then (L37_86 (d + 2) 1 x1 x2 (nI dg) (nI v) (nI i) m) else (L37_58 (d + 2) 1 x1 x2 (nI dg) (nI v) (nI i) m))) := fun d => by
      rw [E37_34 _ _ _ _ _ _ _ s_1, if_neg (by rw [sp_len (by omega) (by omega)]; omega), p35 d 1 s_1 m, lt_cI_s]
    simp only [rdN]
    by_cases c1 : 48 ≤ sg tx tk p ∧ sg tx tk p ≤ 57
    · have hlt : p < tk := by
        rcases Nat.lt_or_ge p tk with q | q
        · exact q
        · have : sg tx tk p = 999 := if_neg (by omega)
          omega
      have ev : v35 m 1 = nI (sg tx tk p - 48) := by rw [c35 h.1 hp h.2.2.1, if_pos c1]
      have hne : ¬ v35 m 1 = -1 := by rw [ev, sp_m1 (by omega)]; exact not_false
      by_cases c2 : i = 0 ∨ 0 < v
      · rw [if_pos ⟨c1, c2⟩]
        obtain ⟨M, e1, h1, f1, r1⟩ := ih (i + 1) (10 * v + (sg tx tk p - 48)) (p + 1) _ (by omega) (by omega) (crd_p h hlt)
        refine ⟨M, fun d => ?_, h1, fun b hb => by rw [f1 b hb, lm_i_ne hb], by rw [r1]; rfl⟩
        have m58 : L37_58 (d + 2) 1 x1 x2 (nI dg) (nI v) (nI i) m = L37_86 (d + 2) 1 x1 x2 (nI dg) (nI (rdN tx tk n (i + 1) (10 * v + (sg tx tk p - 48)) (p + 1)).2.1) (nI (rdN tx tk n (i + 1) (10 * v + (sg tx tk p - 48)) (p + 1)).1) M := by
          rw [E37_58 _ _ _ _ _ _ _ s_1, p35 d 1 s_1 m, lt_cI_s, ev, h.2.2.1, q_10, pk_mul, nI_add, nI_1, nI_1, Nat.mul_comm v 10, e1 d]
        rw [head, if_neg hne]
        by_cases c0 : i = 0
        · rw [if_pos (by rw [sp_eq0 (by omega)]; exact c0), m58]
        · rw [if_neg (by rw [sp_eq0 (by omega)]; exact c0), if_neg (by rw [sp_le0 (by omega)]; omega), m58]
      · rw [if_neg (fun q => c2 q.2)]
        refine ⟨m, fun d => ?_, h, fun _ _ => rfl, rfl⟩
        rw [head, if_neg hne, if_neg (by rw [sp_eq0 (by omega)]; omega), if_pos (by rw [sp_le0 (by omega)]; omega)]
    · rw [if_neg (fun q => c1 q.1)]
      refine ⟨m, fun d => ?_, h, fun _ _ => rfl, rfl⟩
      rw [head, if_pos (by rw [c35 h.1 hp h.2.2.1, if_neg c1])]
theorem k37 {lo hi1 : Nat} (hlo : lo ≤ 1000) (hh : hi1 ≤ 1000) (h : crd tx tk p m) : (∃ v p' M, nuN tx tk (dgs hi1) lo hi1 p = .inr (v, p') ∧ (∀ d, lt_ev (d + 3) 37 [.inr (.inr (some 1)), .inl (nI lo), .inl (nI hi1 - 1)] m = some (some (.inl (nI v)), M)) ∧ crd tx tk p' M ∧ (∀ b, b ≠ 1 → M.1 b = m.1 b) ∧ M.2 = m.2) ∨ (∃ e M, nuN tx tk (dgs hi1) lo hi1 p = .inl e ∧ (∀ d, lt_ev (d + 3) 37 [.inr (.inr (some 1)), .inl (nI lo), .inl (nI hi1 - 1)] m = some (some (.inl (-1)), M)) ∧ cbd tx tk e M ∧ (∀ b, b ≠ 1 → M.1 b = m.1 b) ∧ M.2 = m.2) := by
  have hp := h.2.1
  have hd := dgs_le hi1
  have head : ∀ d, lt_ev (d + 3) 37 [.inr (.inr (some 1)), .inl (nI lo), .inl (nI hi1 - 1)] m = if ¬ (v35 m 1) = (-1 : Int32) then (L37_34 (d + 2) 1 (nI lo) (nI hi1 - 1) (nI (dgs hi1)) (nI 0) (nI 0) m) else (lt_cV (lt_ev (d + 2) 39 [.inr (.inr (some 1))] m) (fun m4 => (some (some (.inl (-1 : Int32)), m4)))) := fun d => by
    refine (E37 (d + 2) 1 _ _ s_1 m).trans ?_
    rw [p38 (d + 1) 1 s_1 m, lt_cI_s, c38g h.2.2.2, if_pos rfl, p35 d 1 s_1 m, lt_cI_s, p40 (d + 1) _ m, lt_cI_s, c40 hh]
    rfl
  obtain ⟨a1, hvb, a4, a5⟩ := rdN_c (tx := tx) (tk := tk) (dg := dgs hi1) hp hd.2
  obtain ⟨M, e1, h1, f1, r1⟩ := k37l (tx := tx) (tk := tk) (nI lo) (nI hi1 - 1) (dg := dgs hi1) (by omega) (dgs hi1) 0 0 p m (by omega) (Or.inl ⟨rfl, rfl⟩) h
  have hev := c35 h.1 hp h.2.2.1
  by_cases c : 48 ≤ sg tx tk p ∧ sg tx tk p ≤ 57
  · have hne : ¬ v35 m 1 = -1 := by rw [hev, if_pos c, sp_m1 (by omega)]; exact not_false
    have hi1' : ¬ (rdN tx tk (dgs hi1) 0 0 p).1 = 0 := by
      obtain ⟨k, hk⟩ : ∃ k, dgs hi1 = k + 1 := ⟨dgs hi1 - 1, by omega⟩
      rw [hk]
      simp only [rdN]
      rw [if_pos ⟨c, Or.inl trivial⟩]
      have hlt : p < tk := by
        rcases Nat.lt_or_ge p tk with q | q
        · exact q
        · have : sg tx tk p = 999 := if_neg (by omega)
          omega
      exact rdN_i k (0 + 1) _ _ (by omega)
    unfold nuN nuR
    rw [if_neg hi1']
    by_cases c2 : lo ≤ (rdN tx tk (dgs hi1) 0 0 p).2.1 ∧ (rdN tx tk (dgs hi1) 0 0 p).2.1 < hi1
    · rw [if_pos c2]
      refine Or.inl ⟨_, _, M, rfl, fun d => ?_, h1, f1, r1⟩
      rw [head, if_pos hne, e1 d, E37_86 _ _ _ _ _ _ _ s_1, if_neg (by rw [sp_ltn (by omega) (by omega)]; omega), if_pos (by rw [sp_le1 (by omega) (by omega)]; exact c2.2)]
    · rw [if_neg c2]
      obtain ⟨e4, h4⟩ := k41g h1 (by omega)
      refine Or.inr ⟨_, _, rfl, fun d => ?_, h4, fun b hb => by rw [lm_i_ne hb, f1 b hb], r1⟩
      rw [head, if_pos hne, e1 d, E37_86 _ _ _ _ _ _ _ s_1]
      by_cases c3 : (rdN tx tk (dgs hi1) 0 0 p).2.1 < lo
      · rw [if_pos (by rw [sp_ltn (by omega) (by omega)]; exact c3), e4 (d + 1), lt_cV_s]
      · rw [if_neg (by rw [sp_ltn (by omega) (by omega)]; exact c3), if_neg (by rw [sp_le1 (by omega) (by omega)]; omega), e4 (d + 1), lt_cV_s]
  · have hi1' : (rdN tx tk (dgs hi1) 0 0 p).1 = 0 := by
      obtain ⟨k, hk⟩ : ∃ k, dgs hi1 = k + 1 := ⟨dgs hi1 - 1, by omega⟩
      rw [hk]
      simp only [rdN]
      rw [if_neg (fun q => c q.1)]
    unfold nuN nuR
    rw [if_pos hi1']
    obtain ⟨e4, h4⟩ := k39g h
    refine Or.inr ⟨p, _, rfl, fun d => ?_, h4, fun b hb => lm_i_ne hb, rfl⟩
    rw [head, if_neg (by rw [hev, if_neg c]; exact fun q => q rfl), e4 (d + 1), lt_cV_s]
end RD

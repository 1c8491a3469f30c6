/-! ===== the class's signs ===== -/
section RD
variable {tx : Nat → Nat} {tk p e : Nat} {m M : lt_m}
theorem k37b (x1 x2 : Int32) (h : cbd tx tk e m) : ∀ d, lt_ev (d + 3) 37 [.inr (.inr (some 1)), .inl x1, .inl x2] m = some (some (.inl (-1)), m) := fun d => by
  refine (E37 (d + 2) 1 _ _ s_1 m).trans ?_
  rw [p38 (d + 1) 1 s_1 m, lt_cI_s, c38b h.2.2.2 h.2.1, if_neg (by decide)]
/-- takes, needs, atEnd, sees -/
theorem k43 {c : Nat} (hc : c < 256) (h : crd tx tk p m) : ∀ d, lt_ev (d + 2) 43 [.inr (.inr (some 1)), .inl (nI c)] m = some (some (.inl (if sg tx tk p = c then 1 else 0)), if sg tx tk p = c then lm_i m 1 1 (nI (p + 1)) else m) := fun d => by
  have h2 := h.1.1
  have hp := h.2.1
  refine (E43 (d + 1) 1 _ s_1 m).trans ?_
  rw [if_neg (fun q => q h.2.2.2), p36 d _ _ s_2 m, lt_cI_s, h.2.2.1, ctx_36 h.1 hp]
  by_cases cp : p < tk
  · have b := (h.1.2.2 p cp).1
    have e : sg tx tk p = tx p := if_pos cp
    rw [if_pos cp, e]
    by_cases c2 : tx p = c
    · rw [if_pos (by rw [c2]), if_pos c2, if_pos c2, nI_1]
    · rw [if_neg (by rw [sp_eqn (by omega) (by omega)]; exact c2), if_neg c2, if_neg c2]
  · have e : sg tx tk p = 999 := if_neg cp
    rw [if_neg cp, if_neg (by rw [sp_m1' (by omega)]; exact not_false), e, if_neg (by omega), if_neg (by omega)]
theorem k43b (x : Int32) (h : cbd tx tk e m) : ∀ d, lt_ev (d + 2) 43 [.inr (.inr (some 1)), .inl x] m = some (some (.inl 0), m) := fun d => by
  have he := h.2.1
  refine (E43 (d + 1) 1 _ s_1 m).trans ?_
  rw [if_pos (by rw [h.2.2.2, sp_m1 (by omega)]; exact not_false)]
theorem k42t {c : Nat} (hc : c < 256) (h : crd tx tk p m) (hs : sg tx tk p = c) : (∀ d, lt_ev (d + 3) 42 [.inr (.inr (some 1)), .inl (nI c)] m = some (none, lm_i m 1 1 (nI (p + 1)))) ∧ crd tx tk (p + 1) (lm_i m 1 1 (nI (p + 1))) := by
  refine ⟨fun d => ?_, crd_p h (sg_lt hs (by omega))⟩
  refine (E42 (d + 2) 1 _ s_1 m).trans ?_
  rw [k43 hc h d, if_pos hs, lt_cI_s, if_pos (by decide), if_pos hs]
theorem k42f {c : Nat} (hc : c < 256) (h : crd tx tk p m) (hs : ¬ sg tx tk p = c) : (∀ d, lt_ev (d + 3) 42 [.inr (.inr (some 1)), .inl (nI c)] m = some (none, lm_i m 1 2 (nI p))) ∧ cbd tx tk p (lm_i m 1 2 (nI p)) := by
  obtain ⟨e4, h4⟩ := k39g h
  refine ⟨fun d => ?_, h4⟩
  refine (E42 (d + 2) 1 _ s_1 m).trans ?_
  rw [k43 hc h d, if_neg hs, lt_cI_s, if_neg (by decide), if_neg hs, e4 (d + 1), lt_cV_s]
theorem k42b (x : Int32) (h : cbd tx tk e m) : ∀ d, lt_ev (d + 3) 42 [.inr (.inr (some 1)), .inl x] m = some (none, m) := fun d => by
  refine (E42 (d + 2) 1 _ s_1 m).trans ?_
  rw [k43b x h d, lt_cI_s, if_neg (by decide), k39b h (d + 1), lt_cV_s]
theorem c45 (h : ctx tx tk m) (hp : p ≤ tk) (h1 : m.1 1 1 = nI p) : v45 m 1 = if p < tk then 0 else 1 := by
  have h2 := h.1
  unfold v45 v27
  rw [h1, show m.1 (1 + 1) 1 = nI tk from h.2.1]
  simp (disch := omega) only [sp_ltn]
theorem c46 {c : Nat} (hc : c < 256) (h : ctx tx tk m) (hp : p ≤ tk) (h1 : m.1 1 1 = nI p) : v46 m 1 (nI c) = if sg tx tk p = c then 1 else 0 := by
  unfold v46
  rw [h1, ctx_36 h hp]
  by_cases cp : p < tk
  · have b := (h.2.2 p cp).1
    have e : sg tx tk p = tx p := if_pos cp
    rw [if_pos cp, e]
    by_cases c2 : tx p = c
    · rw [if_neg (by rw [c2]; exact fun q => q rfl), if_pos c2]
    · rw [if_pos (by rw [sp_eqn (by omega) (by omega)]; exact c2), if_neg c2]
  · have e : sg tx tk p = 999 := if_neg cp
    rw [if_neg cp, if_pos (by rw [sp_m1' (by omega)]; exact not_false), e, if_neg (by omega)]
/-- how reading ends: -1 or the place -/
def wrI (p tk : Nat) : Int32 := if p < tk then nI p else -1
theorem k20z (h : ctx tx tk m) : ∀ d, lt_ev (d + 1) 20 [.inr (.inr (some (1 + 1))), .inl 0] m = some (none, lm_i m 2 1 0) := fun d => by
  have h2 := h.1
  refine (E20 d _ _ s_2 m).trans ?_
  rw [if_neg (by decide), show m.1 (1 + 1) 1 = nI tk from h.2.1, if_neg (by rw [q_0, sp_ltn (by omega) (by omega)]; omega)]
theorem k51g (h : crd tx tk p m) : ∃ M, (∀ d, lt_ev (d + 3) 51 [.inr (.inr (some 1))] m = some (none, M)) ∧ M.1 1 2 = wrI p tk ∧ M.1 2 1 = 0 ∧ (∀ b, b ≠ 1 → b ≠ 2 → M.1 b = m.1 b) ∧ M.2 = m.2 := by
  have hp := h.2.1
  by_cases c : p < tk
  · obtain ⟨e4, h4⟩ := k39g h
    refine ⟨lm_i (lm_i m 1 2 (nI p)) 2 1 0, fun d => ?_, by rw [lm_i_ne (by decide), lm_i_eq]; unfold wrI; rw [if_pos c], lm_i_eq, fun b h1 h2 => by rw [lm_i_ne h2, lm_i_ne h1], rfl⟩
    refine (E51 (d + 2) 1 s_1 m).trans ?_
    rw [p45 d 1 s_1 m, lt_cI_s, c45 h.1 hp h.2.2.1, if_pos c, if_neg (by decide), e4 (d + 1), lt_cV_s, k20z h4.1 (d + 1), lt_cV_s]
  · refine ⟨lm_i m 2 1 0, fun d => ?_, by rw [lm_i_ne (by decide), h.2.2.2]; unfold wrI; rw [if_neg c], lm_i_eq, fun b h1 h2 => lm_i_ne h2, rfl⟩
    refine (E51 (d + 2) 1 s_1 m).trans ?_
    rw [p45 d 1 s_1 m, lt_cI_s, c45 h.1 hp h.2.2.1, if_neg c, if_pos (by decide), k20z h.1 (d + 1), lt_cV_s]
theorem k51b (h : cbd tx tk e m) : ∃ M, (∀ d, lt_ev (d + 3) 51 [.inr (.inr (some 1))] m = some (none, M)) ∧ M.1 1 2 = nI e ∧ M.1 2 1 = 0 ∧ (∀ b, b ≠ 1 → b ≠ 2 → M.1 b = m.1 b) ∧ M.2 = m.2 := by
  obtain ⟨p, hp, h1⟩ := h.2.2.1
  refine ⟨lm_i m 2 1 0, fun d => ?_, by rw [lm_i_ne (by decide)]; exact h.2.2.2, lm_i_eq, fun b h1 h2 => lm_i_ne h2, rfl⟩
  refine (E51 (d + 2) 1 s_1 m).trans ?_
  rw [p45 d 1 s_1 m, lt_cI_s, c45 h.1 hp h1]
  by_cases c : p < tk
  · rw [if_pos c, if_neg (by decide), k39b h (d + 1), lt_cV_s, k20z h.1 (d + 1), lt_cV_s]
  · rw [if_neg c, if_pos (by decide), k20z h.1 (d + 1), lt_cV_s]
end RD

/-! ===== the memory behind the constructors is a light one ===== -/
theorem first_m {M9 : ts_M} (V : tsV 711 9 M9) (hNt : ∀ m2 : lt_m, (∀ b, 695 ≤ b → b < 711 → m2.1 b = M9.1 b) → nR N00 695 m2 ∧ AR N00 695 (dsN N00.2.2.1 N00.1) m2 ∧ CT 695 (wtx N00) m2 ∧ m2.1 695 7 = 0 ∧ CT 703 (wtx N00) m2) : ∃ m : lt_m, cP 0 S00 [] m ∧ ts_rg M9 (ts_fl m) := by
  refine ⟨(M9.1, M9.2.1, 695, 703, none), first_cP V hNt rfl, by rw [V.1]; rfl, fun k hk => ⟨rfl, rfl, fun j hj => ?_⟩⟩
  rw [V.1] at hk
  show (if k = 0 ∧ j = 7 then some 695 else if k = 0 ∧ j = 8 then some 703 else if k = 12 ∧ j = 0 then none else ts_G k j) = M9.2.2.1 k j
  by_cases k0 : k = 0
  · subst k0
    rw [rkk_0 sx] at hj
    have hj : j < 9 := hj
    rw [V.2.2.2 j, if_pos hj]
    have cj : j = 0 ∨ j = 1 ∨ j = 2 ∨ j = 3 ∨ j = 4 ∨ j = 5 ∨ j = 6 ∨ j = 7 ∨ j = 8 := by omega
    rcases cj with q | q | q | q | q | q | q | q | q <;> subst q <;> first | rfl | (rw [if_neg (by decide), if_neg (by decide), if_neg (by decide), tG_0 sx, if_neg (by decide)]; rfl)
  · rw [if_neg (fun q => k0 q.1), if_neg (fun q => k0 q.1)]
    rw [V.2.1 k (by omega) hk j hj]
    by_cases e : k = 12 ∧ j = 0
    · rw [if_pos e, e.1, e.2, tG_0 sk.2.2.2.2.1, if_pos (by decide)]
    · rw [if_neg e]
/-- the constructor: from an empty memory -/
theorem first_all {M : ts_M} (hM : M.2.2.2 = 0) : ∃ M9 m, (∀ d, ts_ev (d + 7) 0 [.inr (.inr (some 0))] (ts_new M) = some (none, M9)) ∧ M9.2.2.2 = 711 ∧ cP 0 S00 [] m ∧ ts_rg M9 (ts_fl m) := by
  obtain ⟨M9, e, V, hNt⟩ := c0_run hM
  obtain ⟨m, h1, h2⟩ := first_m V hNt
  exact ⟨M9, m, e, V.1, h1, h2⟩

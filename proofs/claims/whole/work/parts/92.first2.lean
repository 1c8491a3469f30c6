/-! ===== the memory behind the constructors is a light one ===== -/
theorem s729 : ts_sh 729 = (3, 1) := by decide +kernel
theorem first_m {M9 F : ts_M} (V : tsV 711 9 M9) (hNt : ∀ m2 : lt_m, (∀ b, 695 ≤ b → b < 711 → m2.1 b = M9.1 b) → nR N00 695 m2 ∧ AR N00 695 (dsN N00.2.2.1 N00.1) m2 ∧ CT 695 (wtx N00) m2 ∧ m2.1 695 7 = 0 ∧ CT 703 (wtx N00) m2) (hF : F = ts_new (kM177 711 (ts_new M9))) : ∃ m : lt_m, RR dsD wlD 0 m ∧ ts_rg F (ts_fl m) := by
  obtain ⟨x1, x2, x3, x4⟩ := cX_177 V.1 sy
  have cF : F.2.2.2 = 730 := by rw [hF, nw_n, x1]
  refine ⟨(F.1, F.2.1, 695, 703, none), first_RR V hNt hF rfl, by rw [cF]; rfl, fun k hk => ⟨rfl, rfl, fun j hj => ?_⟩⟩
  rw [cF] at hk
  have hlt : ∀ b, b < 711 → F.2.2.1 b j = M9.2.2.1 b j := fun b hb => by
    rw [hF, nw_r1 (by rw [x1]; omega)]
    exact (x2 b hb j).2
  show (if k = 0 ∧ j = 7 then some 695 else if k = 0 ∧ j = 8 then some 703 else if k = 12 ∧ j = 0 then none else ts_G k j) = F.2.2.1 k j
  by_cases k0 : k = 0
  · subst k0
    rw [rkk_0 sx] at hj
    have hj : j < 9 := hj
    rw [hlt 0 (by decide), V.2.2.2 j, if_pos hj]
    have cj : j = 0 ∨ j = 1 ∨ j = 2 ∨ j = 3 ∨ j = 4 ∨ j = 5 ∨ j = 6 ∨ j = 7 ∨ j = 8 := by omega
    rcases cj with q | q | q | q | q | q | q | q | q <;> subst q <;> first | rfl | (rw [if_neg (by decide), if_neg (by decide), if_neg (by decide), tG_0 sx, if_neg (by decide)]; rfl)
  · rw [if_neg (fun q => k0 q.1), if_neg (fun q => k0 q.1)]
    rcases Nat.lt_or_ge k 711 with c | c
    · rw [hlt k c, V.2.1 k (by omega) c j hj]
      by_cases e : k = 12 ∧ j = 0
      · rw [if_pos e, e.1, e.2, tG_0 sk.2.2.2.2.1, if_pos (by decide)]
      · rw [if_neg e]
    · rw [if_neg (by omega)]
      rcases Nat.lt_or_ge k 729 with c2 | c2
      · rw [hF, nw_r1 (by rw [x1]; omega), x4 k c c2 j hj]
      · rw [show k = 729 by omega, rkk_3 s729] at hj
        omega
/-- the whole of the constructors: from an empty memory -/
theorem first_all {M : ts_M} (hM : M.2.2.2 = 0) : ∃ M9 m, (∀ d, ts_ev (d + 7) 0 [.inr (.inr (some 0))] (ts_new M) = some (none, M9)) ∧ M9.2.2.2 = 711 ∧ (∀ d, ts_ev (d + 1) 177 [.inr (.inr (some 711))] (ts_new M9) = some (none, kM177 711 (ts_new M9))) ∧ (kM177 711 (ts_new M9)).2.2.2 = 729 ∧ RR dsD wlD 0 m ∧ ts_rg (ts_new (kM177 711 (ts_new M9))) (ts_fl m) := by
  obtain ⟨M9, e, V, hN⟩ := c0_run hM
  obtain ⟨m, h1, h2⟩ := first_m V hN rfl
  have hc : (ts_new M9).2.2.2 = 712 := by rw [nw_n, V.1]
  have f := fun (k : Nat) (hk : k < ts_N 12) (ho : ¬ ts_off 12 k = 0) => sf_of sy k hk ho
  refine ⟨M9, m, e, V.1, fun d => ?_, by rw [kN177, hc], h1, h2⟩
  refine kC177 d sy (by rw [hc]; decide) ?_ ?_ ?_ ?_ ?_ ?_ ?_ ?_ ?_ ?_ ?_ ?_ ?_ ?_ ?_ ?_ ?_ (by rw [hc]; decide) <;> rw [hc]
  · exact f 0 (by decide) (by decide)
  · exact f 1 (by decide) (by decide)
  · exact f 3 (by decide) (by decide)
  · exact f 5 (by decide) (by decide)
  · exact f 6 (by decide) (by decide)
  · exact f 7 (by decide) (by decide)
  · exact f 11 (by decide) (by decide)
  · exact f 13 (by decide) (by decide)
  · exact f 20 (by decide) (by decide)
  · exact f 21 (by decide) (by decide)
  · exact f 23 (by decide) (by decide)
  · exact f 25 (by decide) (by decide)
  · exact f 28 (by decide) (by decide)
  · exact f 33 (by decide) (by decide)
  · exact f 34 (by decide) (by decide)
  · exact f 35 (by decide) (by decide)
  · exact f 37 (by decide) (by decide)

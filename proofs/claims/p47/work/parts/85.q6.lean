/-! ===== hours ===== -/
theorem itW_sem {N : NT} {u : Nat} (hu : u < 1000000) : ∀ n w, w 2 ≤ 20 → (itW N u n w).1 2 = w 2 ∧ ∀ i, i < 20 → w_st w i ≤ w_st (itW N u n w).1 i ∧ ((itW N u n w).2.testBit i = true ↔ w_st (itW N u n w).1 i ≠ w_st w i) := by
  intro n
  induction n with
  | zero =>
    intro w h2
    refine ⟨rfl, fun i hi => ⟨Nat.le_refl _, ?_⟩⟩
    show (0 : Nat).testBit i = true ↔ w_st w i ≠ w_st w i
    simp
  | succ n ih =>
    intro w h2
    cases he : w_ear w u 20 with
    | none =>
      rw [itW_n he]
      refine ⟨rfl, fun i hi => ⟨Nat.le_refl _, ?_⟩⟩
      show (0 : Nat).testBit i = true ↔ w_st w i ≠ w_st w i
      simp
    | some j =>
      obtain ⟨j1, j2, j3⟩ := w_ear_b 20 j he
      have hs := ch_st hu j3
      have h22 : chg N w j 2 = w 2 := chg_lo (by omega) (by omega) (by omega) (by omega)
      obtain ⟨a, b⟩ := ih (chg N w j) (by rw [h22]; exact h2)
      rw [itW_s he]
      refine ⟨a.trans h22, fun i hi => ?_⟩
      obtain ⟨b1, b2⟩ := b i hi
      by_cases c : i = j
      · subst c
        have e := chg_st (N := N) (w := w) hi
        rw [e] at b1
        show w_st w i ≤ w_st (itW N u n (chg N w i)).1 i ∧ ((2 ^ i ||| (itW N u n (chg N w i)).2).testBit i = true ↔ w_st (itW N u n (chg N w i)).1 i ≠ w_st w i)
        have hlt : w_st w i < w_st (itW N u n (chg N w i)).1 i := by
          rcases hs with hs | hs
          · rw [if_pos hs.1] at b1; omega
          · rw [if_neg (by omega)] at b1; omega
        refine ⟨by omega, fun _ => by omega, fun _ => ?_⟩
        rw [Nat.testBit_or, Nat.testBit_two_pow_self]; rfl
      · have e : w_st (chg N w j) i = w_st w i := chg_lo (by omega) (by omega) (by omega) (by omega)
        rw [e] at b1 b2
        refine ⟨b1, ?_⟩
        show (2 ^ j ||| (itW N u n (chg N w j)).2).testBit i = true ↔ _
        rw [Nat.testBit_or, Nat.testBit_two_pow, show decide (j = i) = false from decide_eq_false (fun q => c q.symm), Bool.false_or]
        exact b2
theorem itW_end {N : NT} {u : Nat} (hu : u < 1000000) : ∀ n w, w 2 ≤ 20 → w_mu w ≤ n → w_ear (itW N u n w).1 u 20 = none := by
  intro n
  induction n with
  | zero =>
    intro w h2 hm
    show w_ear w u 20 = none
    cases he : w_ear w u 20 with
    | none => rfl
    | some j =>
      obtain ⟨j1, j2, j3⟩ := w_ear_b 20 j he
      have hs := ch_st hu j3
      have := mu_chg (N := N) j2 h2 (by omega)
      omega
  | succ n ih =>
    intro w h2 hm
    cases he : w_ear w u 20 with
    | none => rw [itW_n he]; exact he
    | some j =>
      obtain ⟨j1, j2, j3⟩ := w_ear_b 20 j he
      have hs := ch_st hu j3
      have h22 : chg N w j 2 = w 2 := chg_lo (by omega) (by omega) (by omega) (by omega)
      have := mu_chg (N := N) j2 h2 (by omega)
      rw [itW_s he]
      exact ih (chg N w j) (by rw [h22]; exact h2) (by omega)
theorem itW_evo {N : NT} {u : Nat} {w0 : Nat → Nat} (hw : wfL N w0) (hu : u < 1000000) : ∀ n w, evo N u w0 w → evo N u w0 (itW N u n w).1 := by
  intro n
  induction n with
  | zero => intro w h; exact h
  | succ n ih =>
    intro w h
    cases he : w_ear w u 20 with
    | none => rw [itW_n he]; exact h
    | some j =>
      obtain ⟨j1, j2, j3⟩ := w_ear_b 20 j he
      rw [itW_s he]
      have e2 : w 2 = w0 2 := evo_at h (by omega)
      exact ih _ (evo_chg h hw hu (by omega) j3)
theorem ear_none {w : Nat → Nat} {u : Nat} : ∀ n, w_ear w u n = none → ∀ i, i < n → i < w 2 → u < w_ch w i := by
  intro n
  induction n with
  | zero => intro _ i hi; omega
  | succ n ih =>
    intro h i hi h2
    unfold w_ear at h
    by_cases c : n < w 2 ∧ w_ch w n ≤ u
    · rw [if_pos c] at h
      cases he : w_ear w u n with
      | none => rw [he] at h; cases h
      | some j =>
        rw [he] at h
        dsimp only at h
        split at h <;> cases h
    · rw [if_neg c] at h
      by_cases c2 : i = n
      · subst c2; omega
      · exact ih h i (by omega) h2
def hrW (N : NT) (w : Nat → Nat) (n : Nat) : Nat → Nat := wset (itW N (w 0 + n) 40 w).1 0 (w 0 + n)
section CPS
variable {T : Nat} {S : ST} {vs : List Int32} {m m' : lt_m}
theorem hrW_evo {N : NT} {w : Nat → Nat} (hw : wfL N w) {n : Nat} (h9 : w 0 + n ≤ 99999) : evo N (w 0 + n) w (itW N (w 0 + n) 40 w).1 := itW_evo hw (by omega) 40 w (evo_rf hw)
theorem hrW_ch {N : NT} {w : Nat → Nat} (hw : wfL N w) {n : Nat} (h9 : w 0 + n ≤ 99999) : ∀ i, i < w 2 → w 0 + n < w_ch (itW N (w 0 + n) 40 w).1 i := fun i hi => by
  have h20 := hw.2.2.1
  have e2 : (itW N (w 0 + n) 40 w).1 2 = w 2 := evo_at (hrW_evo hw h9) (by omega)
  exact ear_none 20 (itW_end (by omega) 40 w h20 (mu_le h20)) i (by omega) (by omega)
theorem q_hours (d : Nat) (hT : T + 40 < 2 ^ 30) (h : cP T S vs m) {n : Nat} (h1 : 1 ≤ n) (hn : n ≤ 999) (c9 : S.w 0 + n ≤ 99999) : ∃ m', lt_ev (d + 12) 124 [.inr (.inr (some 0)), .inl (nI n)] m = some (some (.inl (nI (pcN (itW S.N (S.w 0 + n) 40 S.w).2 24))), m') ∧ cP (T + 40) (S.rem.setw (hrW S.N S.w n)) vs m' := by
  have hC := h.1
  have hw := h.wfL
  have hN := h.wfN
  have h99 := hw.1
  have hcl := h.cl
  have hcls : lt_ev (d + 12) 124 [.inr (.inr (some 0)), .inl (nI n)] m = _ := E124 (d + 11) 0 _ sx m
  rw [if_neg (by rw [q_1, sp_ltn (by omega) (by omega)]; omega), if_neg (by rw [q_999, sp_ltn (by omega) (by omega)]; omega), hcl.1, nI_add] at hcls
  have c9' : nI (S.w 0 + n) ≤ (99999 : Int32) := by
    rw [show (99999 : Int32) = nI 99999 from rfl, sp_len (by omega) (by omega)]; exact c9
  rw [if_pos c9'] at hcls
  obtain ⟨M1, e1, C1, r1, f1⟩ := k81 hC
  have hL1 : LED S.N S.w 13 T M1 := C1.2.2.1
  have hn1 : nmR 13 M1 := C1.2.2.2.2.1
  obtain ⟨M3, e3, cl3, bk3, nm3, r3, f3⟩ := k125 (u := S.w 0 + n) (L := 13) sL hT hw (by omega) (nI n) 40 0 S.w 0 none M1 (by omega) (evo_rf hw) hL1.1 hL1.2.1 hn1 (by omega)
  have f13 : ∀ b, b < 13 ∨ 81 ≤ b → M3.1 b = M1.1 b := fun b hb => f3 b (by omega)
  have hwF : wfL S.N (hrW S.N S.w n) := evo_fin (hrW_evo hw c9) hw hN (by omega) c9 (hrW_ch hw c9)
  have C3 : CS dsD wlD (T + 40) (S.rem.setw (hrW S.N S.w n)) M3 := CS_led (S := S.rem) (by omega) (fun b hb hne => f3 b (by omega)) (by rw [r3]; exact ⟨rfl, rfl⟩) ⟨cl3, bk3, hwF⟩ nm3 C1
  refine ⟨M3, hcls.trans ?_, C3, h.2.1, rwC_eq (by rw [f13 4 (by omega), f1 4 (by omega)]) (by rw [f13 5 (by omega), f1 5 (by omega)]) h.2.2⟩
  have e81 : lt_ev (d + 11) 81 [.inr (.inr (some (0 + 81))), .inr (.inr (some (0 + 13)))] m = some (none, M1) := e1 (d + 7)
  have e125 : lt_ev (d + 11) 125 [.inr (.inr (some (0 + 13))), .inl (nI n)] M1 = some (some (.inl (nI (pcN (0 ||| (itW S.N (S.w 0 + n) 40 S.w).2) 24))), M3) := by
    refine (E125 (d + 10) (0 + 13) _ sL M1).trans ?_
    rw [show M1.1 (0 + 13) 4 = nI (S.w 0) from hL1.1.1, nI_add]
    exact e3 (d + 7)
  rw [e81, lt_cV_s, e125, lt_cI_s, Nat.zero_or]
end CPS

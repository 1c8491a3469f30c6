/-! ===== the law's texts: a route on the ring, the NET ===== -/
section RING
variable {H : Nat → Nat → Nat} {tx : Nat → Nat} {tk : Nat}
/-- the signs from p on -/
def sgAt (tx : Nat → Nat) (tk p : Nat) (l : List Nat) : Prop := ∀ j, j < l.length → sg tx tk (p + j) = l.getD j 0
theorem sgAt_l {p : Nat} {a b : List Nat} (h : sgAt tx tk p (a ++ b)) : sgAt tx tk p a := fun j hj => by
  rw [h j (by rw [List.length_append]; omega), List.getD_eq_getElem?_getD, List.getElem?_append_left hj, List.getD_eq_getElem?_getD]
theorem sgAt_r {p : Nat} {a b : List Nat} (h : sgAt tx tk p (a ++ b)) : sgAt tx tk (p + a.length) b := fun j hj => by
  have := h (a.length + j) (by rw [List.length_append]; omega)
  rw [← Nat.add_assoc] at this
  rw [this, List.getD_eq_getElem?_getD, List.getElem?_append_right (by omega), List.getD_eq_getElem?_getD, Nat.add_sub_cancel_left]
theorem nu_1 {D lo hi1 p v : Nat} (h : sg tx tk p = 48 + v) (hv : v ≤ 9) (hn : D = 0 ∨ ¬ (48 ≤ sg tx tk (p + 1) ∧ sg tx tk (p + 1) ≤ 57)) (hlo : lo ≤ v) (hhi : v < hi1) : nuN tx tk (D + 1) lo hi1 p = .inr (v, p + 1) := by
  have e : rdN tx tk (D + 1) 0 0 p = (1, v, p + 1) := by
    rw [rdN, if_pos ⟨⟨by omega, by omega⟩, Or.inl rfl⟩]
    cases D with
    | zero => rw [rdN, h]; congr 2; omega
    | succ D =>
      rw [rdN, if_neg (fun q => hn.elim (by omega) (fun z => z q.1)), h]
      congr 2; omega
  unfold nuN
  rw [e]
  unfold nuR
  rw [if_neg (by decide : ¬ (1 : Nat) = 0), if_pos ⟨hlo, hhi⟩]
theorem nu_2 {D lo hi1 p a b : Nat} (h : sg tx tk p = 48 + a) (h2 : sg tx tk (p + 1) = 48 + b) (ha : 1 ≤ a ∧ a ≤ 9) (hb : b ≤ 9) (hn : D = 0 ∨ ¬ (48 ≤ sg tx tk (p + 2) ∧ sg tx tk (p + 2) ≤ 57)) (hlo : lo ≤ 10 * a + b) (hhi : 10 * a + b < hi1) : nuN tx tk (D + 2) lo hi1 p = .inr (10 * a + b, p + 2) := by
  have e : rdN tx tk (D + 2) 0 0 p = (2, 10 * a + b, p + 2) := by
    rw [rdN, if_pos ⟨⟨by omega, by omega⟩, Or.inl rfl⟩, h, show 10 * 0 + (48 + a - 48) = a by omega]
    rw [rdN, if_pos ⟨⟨by omega, by omega⟩, Or.inr (by omega)⟩, h2, show 10 * a + (48 + b - 48) = 10 * a + b by omega]
    cases D with
    | zero => rw [rdN]
    | succ D =>
      rw [rdN, if_neg (fun q => hn.elim (by omega) (fun z => z q.1))]
  unfold nuN
  rw [e]
  unfold nuR
  rw [if_neg (by decide : ¬ (2 : Nat) = 0), if_pos ⟨hlo, hhi⟩]
/-- neighbours on the ring have a road -/
def ringH (H : Nat → Nat → Nat) : Prop := ∀ a b, a < 6 → b < 6 → (b = (a + 1) % 6 ∨ b = (a + 5) % 6) → 0 < H a b
theorem rt_ring {from_ len step : Nat} (h1 : from_ < 6) (h2 : 2 ≤ len) (h5 : len ≤ 5) (hs : step = 1 ∨ step = 5) (ht : ∀ x, x < len → sg tx tk (2 * x) = 48 + (from_ + step * x) % 6) (hd : ∀ x, x + 1 < len → sg tx tk (2 * x + 1) = 45) (htk : tk = 2 * len - 1) (hH : ringH H) : ∃ k r s, rtN H 6 tx tk 8 0 (fun _ => 0) 0 0 = .inr (k, r, s) := by
  have key : ∀ d k (r : Nat → Nat) (s : Nat), k + d + 1 = len → (∀ j, j < k → r j = (from_ + step * j) % 6) → ∃ k' r' s', rtN H 6 tx tk (8 - k) k r s (2 * k) = .inr (k', r', s') := by
    intro d
    induction d with
    | zero =>
      intro k r s hk hr
      have e : nuN tx tk (dgs 6) 0 6 (2 * k) = .inr ((from_ + step * k) % 6, 2 * k + 1) := nu_1 (D := 0) (ht k (by omega)) (by omega) (Or.inl rfl) (by omega) (by omega)
      have hc : ¬ ((orN r k).testBit ((from_ + step * k) % 6) = true ∨ (0 < k ∧ H (r (k - 1)) ((from_ + step * k) % 6) = 0)) := by
        rintro (q | ⟨q1, q2⟩)
        · obtain ⟨j, hj, e⟩ := orN_bit.mp q
          rw [hr j hj] at e
          rcases hs with rfl | rfl <;> omega
        · have := hH (r (k - 1)) ((from_ + step * k) % 6) (by rw [hr _ (by omega)]; omega) (by omega) (by rw [hr _ (by omega)]; rcases hs with rfl | rfl <;> omega)
          omega
      rw [show 8 - k = (7 - k) + 1 by omega, rtN, e]
      dsimp only
      rw [if_neg hc, if_neg (fun q => by have : sg tx tk (2 * k + 1) = 999 := if_neg (by omega); omega), if_neg (by omega)]
      exact ⟨_, _, _, rfl⟩
    | succ d ih =>
      intro k r s hk hr
      have e : nuN tx tk (dgs 6) 0 6 (2 * k) = .inr ((from_ + step * k) % 6, 2 * k + 1) := nu_1 (D := 0) (ht k (by omega)) (by omega) (Or.inl rfl) (by omega) (by omega)
      have hc : ¬ ((orN r k).testBit ((from_ + step * k) % 6) = true ∨ (0 < k ∧ H (r (k - 1)) ((from_ + step * k) % 6) = 0)) := by
        rintro (q | ⟨q1, q2⟩)
        · obtain ⟨j, hj, e⟩ := orN_bit.mp q
          rw [hr j hj] at e
          rcases hs with rfl | rfl <;> omega
        · have := hH (r (k - 1)) ((from_ + step * k) % 6) (by rw [hr _ (by omega)]; omega) (by omega) (by rw [hr _ (by omega)]; rcases hs with rfl | rfl <;> omega)
          omega
      rw [show 8 - k = (7 - k) + 1 by omega, rtN, e]
      dsimp only
      rw [if_neg hc, if_pos ⟨by omega, hd k (by omega)⟩]
      have := ih (k + 1) (wset r k ((from_ + step * k) % 6)) (s + if k = 0 then 0 else H (r (k - 1)) ((from_ + step * k) % 6)) (by omega) (fun j hj => by
        by_cases c : j = k
        · subst c; exact wset_eq
        · rw [wset_ne c]; exact hr j (by omega))
      rw [show 8 - (k + 1) = 7 - k by omega, show 2 * (k + 1) = 2 * k + 1 + 1 by omega] at this
      exact this
  exact key (len - 1) 0 (fun _ => 0) 0 (by omega) (fun j hj => absurd hj (Nat.not_lt_zero j))
/-! the NET -/
def ringT (h : Nat → Nat) (d1 d2 : Nat) : List Nat := [48, 49, 50, 51, 48, 49, 124] ++ ([48, 45, 49, 58, 48 + h 0, 44] ++ ([49, 45, 50, 58, 48 + h 1, 44] ++ ([50, 45, 51, 58, 48 + h 2, 44] ++ ([51, 45, 52, 58, 48 + h 3, 44] ++ ([52, 45, 53, 58, 48 + h 4, 44] ++ ([48, 45, 53, 58, 48 + h 5, 44] ++ ([48, 45, 51, 58, 57, 124] ++ (dgL d1 ++ ([44] ++ dgL d2)))))))))
theorem ct_ring (h : sgAt tx tk 0 [48, 49, 50, 51, 48, 49, 124]) : ∃ c, ctP tx tk 12 0 (fun _ => 0) 0 = .inr (6, c, 7) := by
  have s0 : sg tx tk 0 = 48 := h 0 (by decide)
  have s1 : sg tx tk 1 = 49 := h 1 (by decide)
  have s2 : sg tx tk 2 = 50 := h 2 (by decide)
  have s3 : sg tx tk 3 = 51 := h 3 (by decide)
  have s4 : sg tx tk 4 = 48 := h 4 (by decide)
  have s5 : sg tx tk 5 = 49 := h 5 (by decide)
  have s6 : sg tx tk 6 = 124 := h 6 (by decide)
  refine ⟨wset (wset (wset (wset (wset (wset (fun _ => 0) 0 (sg tx tk 0 - 48)) 1 (sg tx tk 1 - 48)) 2 (sg tx tk 2 - 48)) 3 (sg tx tk 3 - 48)) 4 (sg tx tk 4 - 48)) 5 (sg tx tk 5 - 48), ?_⟩
  rw [ctP, if_pos (by rw [s0]; decide)]
  rw [ctP, if_pos (by rw [s1]; decide)]
  rw [ctP, if_pos (by rw [s2]; decide)]
  rw [ctP, if_pos (by rw [s3]; decide)]
  rw [ctP, if_pos (by rw [s4]; decide)]
  rw [ctP, if_pos (by rw [s5]; decide)]
  rw [ctP, if_neg (by rw [s6]; decide), if_pos ⟨by decide, s6⟩]
theorem rd_go {f q p a b h : Nat} (hA : sgAt tx tk p [48 + a, 45, 48 + b, 58, 48 + h, 44]) (ha : a < 6) (hb : b < 6) (hh : 1 ≤ h ∧ h ≤ 9) (hab : a ≠ b) (h0 : H a b = 0) (hq : q + 1 < 40) : rdP 6 tx tk (f + 1) q H p = rdP 6 tx tk f (q + 1) (h2N H a b h) (p + 6) := by
  have s0 : sg tx tk p = 48 + a := hA 0 (by decide : (0 : Nat) < 6)
  have s1 : sg tx tk (p + 1) = 45 := hA 1 (by decide : (1 : Nat) < 6)
  have s2 : sg tx tk (p + 2) = 48 + b := hA 2 (by decide : (2 : Nat) < 6)
  have s3 : sg tx tk (p + 3) = 58 := hA 3 (by decide : (3 : Nat) < 6)
  have s4 : sg tx tk (p + 4) = 48 + h := hA 4 (by decide : (4 : Nat) < 6)
  have s5 : sg tx tk (p + 5) = 44 := hA 5 (by decide : (5 : Nat) < 6)
  have e1 : nuN tx tk (dgs 6) 0 6 p = .inr (a, p + 1) := nu_1 (D := 0) s0 (by omega) (Or.inl rfl) (by omega) ha
  have e2 : nuN tx tk (dgs 6) 0 6 (p + 1 + 1) = .inr (b, p + 3) := nu_1 (D := 0) s2 (by omega) (Or.inl rfl) (by omega) hb
  have e3 : nuN tx tk 2 1 100 (p + 3 + 1) = .inr (h, p + 5) := nu_1 (D := 1) s4 (by omega) (Or.inr (by rw [show p + 3 + 1 + 1 = p + 5 by omega, s5]; omega)) hh.1 (by omega)
  rw [rdP, e1]
  dsimp only
  rw [if_pos s1, e2]
  dsimp only
  rw [if_neg (by omega), if_pos s3, e3]
  dsimp only
  rw [if_pos ⟨hq, s5⟩]
theorem rd_end {f q p a b h : Nat} (hA : sgAt tx tk p [48 + a, 45, 48 + b, 58, 48 + h, 124]) (ha : a < 6) (hb : b < 6) (hh : 1 ≤ h ∧ h ≤ 9) (hab : a ≠ b) (h0 : H a b = 0) : rdP 6 tx tk (f + 1) q H p = .inr (q + 1, h2N H a b h, p + 5) := by
  have s0 : sg tx tk p = 48 + a := hA 0 (by decide : (0 : Nat) < 6)
  have s1 : sg tx tk (p + 1) = 45 := hA 1 (by decide : (1 : Nat) < 6)
  have s2 : sg tx tk (p + 2) = 48 + b := hA 2 (by decide : (2 : Nat) < 6)
  have s3 : sg tx tk (p + 3) = 58 := hA 3 (by decide : (3 : Nat) < 6)
  have s4 : sg tx tk (p + 4) = 48 + h := hA 4 (by decide : (4 : Nat) < 6)
  have s5 : sg tx tk (p + 5) = 124 := hA 5 (by decide : (5 : Nat) < 6)
  have e1 : nuN tx tk (dgs 6) 0 6 p = .inr (a, p + 1) := nu_1 (D := 0) s0 (by omega) (Or.inl rfl) (by omega) ha
  have e2 : nuN tx tk (dgs 6) 0 6 (p + 1 + 1) = .inr (b, p + 3) := nu_1 (D := 0) s2 (by omega) (Or.inl rfl) (by omega) hb
  have e3 : nuN tx tk 2 1 100 (p + 3 + 1) = .inr (h, p + 5) := nu_1 (D := 1) s4 (by omega) (Or.inr (by rw [show p + 3 + 1 + 1 = p + 5 by omega, s5]; omega)) hh.1 (by omega)
  rw [rdP, e1]
  dsimp only
  rw [if_pos s1, e2]
  dsimp only
  rw [if_neg (by omega), if_pos s3, e3]
  dsimp only
  rw [if_neg (fun q => by omega)]
theorem dt_ring {p d1 d2 : Nat} (hA : sgAt tx tk p (dgL d1 ++ ([44] ++ dgL d2))) (hk : tk = p + (dgL d1 ++ ([44] ++ dgL d2)).length) (h1 : 1 ≤ d1 ∧ d1 ≤ 99) (h2 : 10 ≤ d2 ∧ d2 ≤ 99) : ∃ dd, dtP tx tk 6 0 (fun _ => 0) p = .inr (2, dd, tk) := by
  have e2 : dgL d2 = [48 + d2 / 10 % 10, 48 + d2 % 10] := by unfold dgL; rw [if_neg (by omega), if_pos (by omega)]; rfl
  rw [e2] at hA hk
  have sE : sg tx tk tk = 999 := if_neg (Nat.lt_irrefl _)
  by_cases c : d1 ≤ 9
  · have e1 : dgL d1 = [48 + d1] := by unfold dgL; rw [if_neg (by omega), if_neg (by omega), show d1 % 10 = d1 by omega]; rfl
    rw [e1] at hA hk
    have hk : tk = p + 4 := hk
    have s0 : sg tx tk p = 48 + d1 := hA 0 (by decide : (0 : Nat) < 4)
    have s1 : sg tx tk (p + 1) = 44 := hA 1 (by decide : (1 : Nat) < 4)
    have s2 : sg tx tk (p + 1 + 1) = 48 + d2 / 10 % 10 := hA 2 (by decide : (2 : Nat) < 4)
    have s3 : sg tx tk (p + 1 + 1 + 1) = 48 + d2 % 10 := hA 3 (by decide : (3 : Nat) < 4)
    have f1 : nuN tx tk 3 1 1000 p = .inr (d1, p + 1) := nu_1 (D := 2) s0 c (Or.inr (by omega)) h1.1 (by omega)
    have f2 : nuN tx tk 3 1 1000 (p + 1 + 1) = .inr (10 * (d2 / 10 % 10) + d2 % 10, p + 1 + 1 + 2) := nu_2 (D := 1) s2 s3 (by omega) (by omega) (Or.inr (by rw [show p + 1 + 1 + 2 = tk by omega, sE]; omega)) (by omega) (by omega)
    refine ⟨wset (wset (fun _ => 0) 0 d1) 1 (10 * (d2 / 10 % 10) + d2 % 10), ?_⟩
    rw [dtP, f1]
    dsimp only
    rw [if_pos ⟨by decide, s1⟩, dtP, f2]
    dsimp only
    rw [if_neg (fun q => by have := q.2; rw [show p + 1 + 1 + 2 = tk by omega, sE] at this; omega), show p + 1 + 1 + 2 = tk by omega]
  · have e1 : dgL d1 = [48 + d1 / 10 % 10, 48 + d1 % 10] := by unfold dgL; rw [if_neg (by omega), if_pos (by omega)]; rfl
    rw [e1] at hA hk
    have hk : tk = p + 5 := hk
    have s0 : sg tx tk p = 48 + d1 / 10 % 10 := hA 0 (by decide : (0 : Nat) < 5)
    have s0' : sg tx tk (p + 1) = 48 + d1 % 10 := hA 1 (by decide : (1 : Nat) < 5)
    have s1 : sg tx tk (p + 2) = 44 := hA 2 (by decide : (2 : Nat) < 5)
    have s2 : sg tx tk (p + 2 + 1) = 48 + d2 / 10 % 10 := hA 3 (by decide : (3 : Nat) < 5)
    have s3 : sg tx tk (p + 2 + 1 + 1) = 48 + d2 % 10 := hA 4 (by decide : (4 : Nat) < 5)
    have f1 : nuN tx tk 3 1 1000 p = .inr (10 * (d1 / 10 % 10) + d1 % 10, p + 2) := nu_2 (D := 1) s0 s0' (by omega) (by omega) (Or.inr (by omega)) (by omega) (by omega)
    have f2 : nuN tx tk 3 1 1000 (p + 2 + 1) = .inr (10 * (d2 / 10 % 10) + d2 % 10, p + 2 + 1 + 2) := nu_2 (D := 1) s2 s3 (by omega) (by omega) (Or.inr (by rw [show p + 2 + 1 + 2 = tk by omega, sE]; omega)) (by omega) (by omega)
    refine ⟨wset (wset (fun _ => 0) 0 (10 * (d1 / 10 % 10) + d1 % 10)) 1 (10 * (d2 / 10 % 10) + d2 % 10), ?_⟩
    rw [dtP, f1]
    dsimp only
    rw [if_pos ⟨by decide, s1⟩, dtP, f2]
    dsimp only
    rw [if_neg (fun q => by have := q.2; rw [show p + 2 + 1 + 2 = tk by omega, sE] at this; omega), show p + 2 + 1 + 2 = tk by omega]
theorem nt_ring {h : Nat → Nat} {d1 d2 : Nat} (hA : sgAt tx tk 0 (ringT h d1 d2)) (hk : tk = (ringT h d1 d2).length) (hh : ∀ k, k < 6 → 1 ≤ h k ∧ h k ≤ 9) (h1 : 1 ≤ d1 ∧ d1 ≤ 99) (h2 : 10 ≤ d2 ∧ d2 ≤ 99) : ∃ H c dd, ntP tx tk = .inr ((6, 2, H, c, dd), 7) ∧ ringH H := by
  unfold ringT at hA hk
  have hk' : tk = 49 + (dgL d1 ++ ([44] ++ dgL d2)).length := by
    rw [hk]
    simp only [List.length_append, List.length_cons, List.length_nil]
    omega
  have a0 := sgAt_l hA
  have r0 := sgAt_r hA
  have a1 := sgAt_l r0
  have r1 := sgAt_r r0
  have a2 := sgAt_l r1
  have r2 := sgAt_r r1
  have a3 := sgAt_l r2
  have r3 := sgAt_r r2
  have a4 := sgAt_l r3
  have r4 := sgAt_r r3
  have a5 := sgAt_l r4
  have r5 := sgAt_r r4
  have a6 := sgAt_l r5
  have r6 := sgAt_r r5
  have a7 := sgAt_l r6
  have r7 := sgAt_r r6
  obtain ⟨c, ec⟩ := ct_ring a0
  obtain ⟨dd, ed⟩ := dt_ring (p := 49) r7 hk' h1 h2
  have b0 := hh 0 (by decide)
  have b1 := hh 1 (by decide)
  have b2 := hh 2 (by decide)
  have b3 := hh 3 (by decide)
  have b4 := hh 4 (by decide)
  have b5 := hh 5 (by decide)
  have er : ∃ H, rdP 6 tx tk 40 0 (fun _ _ => 0) 7 = .inr (7, H, 48) ∧ ringH H := by
    refine ⟨h2N (h2N (h2N (h2N (h2N (h2N (h2N (fun _ _ => 0) 0 1 (h 0)) 1 2 (h 1)) 2 3 (h 2)) 3 4 (h 3)) 4 5 (h 4)) 0 5 (h 5)) 0 3 9, ?_, ?_⟩
    · refine (rd_go (p := 7) (a := 0) (b := 1) a1 (by decide) (by decide) b0 (by decide) rfl (by decide)).trans ?_
      refine (rd_go (p := 13) (a := 1) (b := 2) a2 (by decide) (by decide) b1 (by decide) (by simp [h2N]) (by decide)).trans ?_
      refine (rd_go (p := 19) (a := 2) (b := 3) a3 (by decide) (by decide) b2 (by decide) (by simp [h2N]) (by decide)).trans ?_
      refine (rd_go (p := 25) (a := 3) (b := 4) a4 (by decide) (by decide) b3 (by decide) (by simp [h2N]) (by decide)).trans ?_
      refine (rd_go (p := 31) (a := 4) (b := 5) a5 (by decide) (by decide) b4 (by decide) (by simp [h2N]) (by decide)).trans ?_
      refine (rd_go (p := 37) (a := 0) (b := 5) a6 (by decide) (by decide) b5 (by decide) (by simp [h2N]) (by decide)).trans ?_
      exact rd_end (p := 43) (a := 0) (b := 3) (h := 9) a7 (by decide) (by decide) (by decide) (by decide) (by simp [h2N])
    · intro a b ha hb hab
      have ca : a = 0 ∨ a = 1 ∨ a = 2 ∨ a = 3 ∨ a = 4 ∨ a = 5 := by omega
      rcases ca with rfl | rfl | rfl | rfl | rfl | rfl <;> rcases hab with rfl | rfl <;> simp [h2N] <;> omega
  obtain ⟨H, eH, hH⟩ := er
  have s7 : sg tx tk 7 = 48 := a1 0 (by decide : (0 : Nat) < 6)
  have s48 : sg tx tk 48 = 124 := a7 5 (by decide : (5 : Nat) < 6)
  refine ⟨H, c, dd, ?_, hH⟩
  unfold ntP
  rw [ec]
  dsimp only
  have eA : rdA 6 tx tk 7 = .inr (7, H, 48) := by
    unfold rdA
    rw [if_pos ⟨by omega, by rw [s7]; decide⟩]
    exact eH
  rw [eA]
  dsimp only
  have eD : dtA tx tk 48 = .inr (2, dd, tk) := by
    unfold dtA
    rw [if_pos s48]
    exact ed
  rw [eD]
  dsimp only
  rw [if_neg (Nat.lt_irrefl _)]
end RING

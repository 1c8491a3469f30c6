/-! ===== behind the constructors ===== -/
theorem leI_mv {L i j : Nat} : leI L (L + 3 + 5 + 3 * i) j = if j = 0 then nI i else if j = 7 then -1 else 0 := by
  unfold leI
  rw [if_pos (by omega), show (L + 3 + 5 + 3 * i - L - 8) / 3 = i by omega]
/-- the ledger behind the constructor -/
def S00 : ST := ST.mk N00 (fun _ => 0) (fun _ => 0) 0 0 0 0 (fun _ _ => 0) 0 (fun _ => 0)
theorem first_cP {M9 : ts_M} {m : lt_m} (V : tsV 711 9 M9) (hNt : ∀ m2 : lt_m, (∀ b, 695 ≤ b → b < 711 → m2.1 b = M9.1 b) → nR N00 695 m2 ∧ AR N00 695 (dsN N00.2.2.1 N00.1) m2 ∧ CT 695 (wtx N00) m2 ∧ m2.1 695 7 = 0 ∧ CT 703 (wtx N00) m2) (hm : m = (M9.1, M9.2.1, 695, 703, none)) : cP 0 S00 [] m := by
  have iL : ∀ b, b < 711 → m.1 b = M9.1 b := fun b hb => by rw [hm]
  have i9 : ∀ b j, b < 695 → m.1 b j = tsI b j := fun b j hb => by rw [iL b (by omega)]; exact V.2.2.1 b (by omega) hb j
  obtain ⟨n1, n2, n3, n4, n5⟩ := hNt m (fun b b1 b2 => iL b b2)
  have iM : ∀ L, (L = 13 ∨ L = 83 ∨ ∃ j, j < 8 ∧ L = 151 + 68 * j) → ∀ i, i < 20 → ∀ j, m.1 (L + 3 + 5 + 3 * i) j = if j = 0 then nI i else if j = 7 then -1 else 0 := fun L hL i hi j => by
    rw [← leI_mv (L := L)]
    rcases hL with e | e | ⟨q, hq, e⟩
    · subst e
      rw [i9 _ _ (by omega)]
      unfold tsI
      rw [if_neg (by omega), if_neg (by omega), if_neg (by omega), if_pos (by omega)]
    · subst e
      rw [i9 _ _ (by omega)]
      unfold tsI hiI
      rw [if_neg (by omega), if_neg (by omega), if_neg (by omega), if_neg (by omega), if_pos (by omega), if_neg (by omega), if_pos (by omega)]
    · subst e
      rw [i9 _ _ (by omega)]
      unfold tsI hiI
      rw [if_neg (by omega), if_neg (by omega), if_neg (by omega), if_neg (by omega), if_pos (by omega), if_neg (by omega), if_neg (by omega), show (151 + 68 * q + 3 + 5 + 3 * i - 151) / 68 = q by omega]
  have hnm : ∀ L, (L = 13 ∨ L = 83 ∨ ∃ j, j < 8 ∧ L = 151 + 68 * j) → nmR L m := fun L hL i hi => by
    rw [iM L hL i hi 0, iM L hL i hi 11, if_pos rfl, if_neg (by decide), if_neg (by decide)]
    exact ⟨rfl, Or.inl rfl⟩
  have led : LED N00 (fun _ => 0) 13 0 m := LED_0 (by rw [i9 13 4 (by decide)]; decide +kernel) (by rw [i9 13 5 (by decide)]; decide +kernel) (by rw [i9 13 6 (by decide)]; decide +kernel) (fun i hi => by rw [iM 13 (Or.inl rfl) i hi 7, if_neg (by decide), if_pos rfl]) (by rw [i9 17 3 (by decide)]; decide +kernel) (hnm 13 (Or.inl rfl))
  have hlen : (wtx N00).length ≤ 200 := by rw [wtx_00]; decide
  have C1 : CS dsD wlD 0 (ST.mk N00 (fun _ => 0) (fun _ => 0) 0 0 0 0 (fun _ _ => 0) 0 (fun _ => 0)) m := by
    refine ⟨⟨695, 703, by rw [hm], by rw [hm], Or.inl ⟨rfl, rfl⟩, wfN_00, n1, n4, ⟨fun a b ha hb => n2 a b ha hb, n3.1, hlen, fun j hj => ?_, _, _, hlen, hlen, n3.1, n5.1⟩⟩, ⟨Nat.zero_le _, by rw [i9 2 1 (by decide)]; decide +kernel, fun j hj => absurd hj (Nat.not_lt_zero j)⟩, led, ⟨Nat.zero_le _, by decide, by rw [i9 81 4 (by decide)]; decide +kernel, by rw [i9 81 3 (by decide)]; decide +kernel, fun j hj => absurd hj (Nat.not_lt_zero j), Nat.zero_le _, by rw [i9 81 2 (by decide)]; decide +kernel, fun hk => by cases hk⟩, hnm 13 (Or.inl rfl), hnm 83 (Or.inr (Or.inl rfl)), fun j hj => hnm _ (Or.inr (Or.inr ⟨j, hj, rfl⟩))⟩
    have hj : j < (wtx N00).length := hj
    have hg : (wtx N00)[j]? = some ((wtx N00).getD j 0) := by
      rw [List.getElem?_eq_getElem hj, List.getD_eq_getElem?_getD, List.getElem?_eq_getElem hj]
      rfl
    exact n3.2 j _ hg
  refine ⟨C1, Nat.zero_le _, ?_, fun j v hj => by simp at hj⟩
  rw [i9 4 1 (by decide)]; decide +kernel

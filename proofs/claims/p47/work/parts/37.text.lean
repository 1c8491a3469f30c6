/-! ===== the text: end ===== -/
section TX
variable {dist wl : DT} {T : Nat} {S : ST} {m m' : lt_m} {vs : List Int32}
theorem CS_tx {tx' : Nat → Nat} {tk' : Nat} (h : ∀ b, b ≠ 2 → b ≠ 3 → b < 711 → m'.1 b = m.1 b) (hr : m'.2 = m.2) (h1 : tk' ≤ 200) (h2 : m'.1 2 1 = nI tk') (h3 : ∀ j, j < tk' → tx' j < 256 ∧ m'.1 3 j = nI (tx' j)) (hm : CS dist wl T S m) : CS dist wl T (ST.mk S.N S.w tx' tk' S.z S.D S.l S.pw S.kb S.kw) m' := by
  obtain ⟨⟨A, B, n1, n2, n3, n4, n5, n6, n7⟩, -, q3, ⟨i1, i2, i3, i5, i6, i7, i8, i10⟩, i11, i12, i13⟩ := hm
  have hL : ∀ L, 4 ≤ L → L + 68 ≤ 711 → ∀ b, L ≤ b → b < L + 68 → m'.1 b = m.1 b := fun L h1 h2 b g1 g2 => h b (by omega) (by omega) (by omega)
  have hA : ∀ b, A ≤ b → b < A + 8 → m'.1 b = m.1 b := fun b g1 g2 => h b (by omega) (by omega) (by omega)
  have hm8 : ∀ j, (S.l + 8 - (S.D - 1 - j)) % 8 < 8 := fun j => Nat.mod_lt _ (by decide)
  refine ⟨⟨A, B, by rw [hr]; exact n1, by rw [hr]; exact n2, n3, n4, nR_fr hA n5, ?_, ?_⟩, ⟨h1, h2, h3⟩, LED_fr (hL 13 (by omega) (by omega)) q3, ⟨i1, i2, ?_, ?_, fun j hj => LED_fr (hL _ (by omega) (by have := hm8 j; omega)) (i6 j hj), i7, ?_, fun hk => LED_fr (hL 83 (by omega) (by omega)) (i10 hk)⟩, nmR_fr (hL 13 (by omega) (by omega)) i11, nmR_fr (hL 83 (by omega) (by omega)) i12, fun j hj => nmR_fr (hL _ (by omega) (by omega)) (i13 j hj)⟩
  · rw [hA A (by omega) (by omega)]; exact n6
  · unfold wyR at n7 ⊢
    rw [hA (A + 4) (by omega) (by omega), hA (A + 6) (by omega) (by omega), hA (A + 7) (by omega) (by omega), h 701 (by omega) (by omega) (by omega), h 709 (by omega) (by omega) (by omega)]
    exact n7
  · rw [h 81 (by omega) (by omega) (by omega)]; exact i3
  · rw [h 81 (by omega) (by omega) (by omega)]; exact i5
  · rw [h 81 (by omega) (by omega) (by omega)]; exact i8
theorem s2 : ts_sh (0 + 1 + 1) = (0, 10) := sf_of (sf_of sx 0 (by decide) (by decide)) 0 (by decide) (by decide)
end TX

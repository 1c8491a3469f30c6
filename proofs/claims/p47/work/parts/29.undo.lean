/-! ===== undo, keeps, back ===== -/
section HIST
variable {dist wl : DT} {T : Nat} {S : ST} {m m' : lt_m} {vs : List Int32}
theorem CS_dl {D' l' kb' : Nat} {pw' : Nat → Nat → Nat} {kw' : Nat → Nat} (h : ∀ b, b ≠ 81 → b < 711 → m'.1 b = m.1 b) (h4 : m'.1 81 4 = nI D') (h3 : m'.1 81 3 = nI l') (h2 : m'.1 81 2 = nI kb') (hr : m'.2 = m.2) (b1 : D' ≤ 8) (b2 : l' < 8) (b3 : kb' ≤ 1) (hp : ∀ j, j < D' → LED S.N (pw' j) (151 + 68 * ((l' + 8 - (D' - 1 - j)) % 8)) T m) (hk : kb' = 1 → LED S.N kw' 83 T m) (hm : CS dist wl T S m) : CS dist wl T (ST.mk S.N S.w S.tx S.tk S.z D' l' pw' kb' kw') m' := by
  obtain ⟨⟨A, B, n1, n2, n3, n4, n5, n6, n7⟩, ⟨t1, t2, t4⟩, q3, -, i11, i12, i13⟩ := hm
  have hL : ∀ L, (L + 68 ≤ 81 ∨ 82 ≤ L) → L + 68 ≤ 711 → ∀ b, L ≤ b → b < L + 68 → m'.1 b = m.1 b := fun L h1 h2 b g1 g2 => h b (by omega) (by omega)
  have hA : ∀ b, A ≤ b → b < A + 8 → m'.1 b = m.1 b := fun b g1 g2 => h b (by omega) (by omega)
  have hm8 : ∀ j, (l' + 8 - (D' - 1 - j)) % 8 < 8 := fun j => Nat.mod_lt _ (by decide)
  refine ⟨⟨A, B, by rw [hr]; exact n1, by rw [hr]; exact n2, n3, n4, nR_fr hA n5, ?_, ?_⟩, ⟨t1, ?_, fun j hj => ⟨(t4 j hj).1, ?_⟩⟩, LED_fr (hL 13 (by omega) (by omega)) q3, ⟨b1, b2, h4, h3, fun j hj => LED_fr (hL _ (by omega) (by have := hm8 j; omega)) (hp j hj), b3, h2, fun hk' => LED_fr (hL 83 (by omega) (by omega)) (hk hk')⟩, nmR_fr (hL 13 (by omega) (by omega)) i11, nmR_fr (hL 83 (by omega) (by omega)) i12, fun j hj => nmR_fr (hL _ (by omega) (by omega)) (i13 j hj)⟩
  · rw [hA A (by omega) (by omega)]; exact n6
  · unfold wyR at n7 ⊢
    rw [hA (A + 4) (by omega) (by omega), hA (A + 6) (by omega) (by omega), hA (A + 7) (by omega) (by omega), h 701 (by omega) (by omega), h 709 (by omega) (by omega)]
    exact n7
  · rw [h 2 (by omega) (by omega)]; exact t2
  · rw [h 3 (by omega) (by omega)]; exact (t4 j hj).2
end HIST

/-! ===== the text: end ===== -/
section TX
variable {dist wl : DT} {T : Nat} {S : ST} {m m' : lt_m} {vs : List Int32}
theorem CS_tx {tx' : Nat → Nat} {tk' : Nat} (h : ∀ b, b ≠ 2 → b ≠ 3 → b < 711 → m'.1 b = m.1 b) (hr : m'.2 = m.2) (h1 : tk' ≤ 200) (h2 : m'.1 2 1 = nI tk') (h3 : ∀ j, j < tk' → tx' j < 256 ∧ m'.1 3 j = nI (tx' j)) (hm : CS dist wl T S m) : CS dist wl T (ST.mk S.N S.w tx' tk' S.z S.D S.l S.pw S.kb S.kw) m' := by
  obtain ⟨⟨A, B, n1, n2, n3, n4, n5, n6, n7⟩, -, q3, ⟨i1, i2, i3, i5, i6, i7, i8, i10⟩, i11, i12, i13⟩ := hm
  have hL : ∀ L, 4 ≤ L → L + 68 ≤ 711 → ∀ b, L ≤ b → b < L + 68 → m'.1 b = m.1 b := fun L h1 h2 b g1 g2 => h b (by omega) (by omega) (by omega)
  have hA : ∀ b, A ≤ b → b < A + 8 → m'.1 b = m.1 b := fun b g1 g2 => h b (by omega) (by omega) (by omega)
  have hm8 : ∀ j, (S.l + 8 - (S.D - 1 - j)) % 8 < 8 := fun j => Nat.mod_lt _ (by decide)
  refine ⟨⟨A, B, by rw [hr]; exact n1, by rw [hr]; exact n2, n3, n4, nR_fr hA n5, ?_, ?_⟩, ⟨h1, h2, h3⟩, LED_fr (hL 13 (by omega) (by omega)) q3, ⟨i1, i2, ?_, ?_, fun j hj => LED_fr (hL _ (by omega) (by have := hm8 j; omega)) (i6 j hj), i7, ?_, fun hk => LED_fr (hL 83 (by omega) (by omega)) (i10 hk)⟩, nmR_fr (hL 13 (by omega) (by omega)) i11, nmR_fr (hL 83 (by omega) (by omega)) i12, fun j hj => nmR_fr (hL _ (by omega) (by omega)) (i13 j hj)⟩
  · rw [hA A (by omega) (by omega)]; exact n6
  · unfold wyR at n7 ⊢
    rw [hA (A + 4) (by omega) (by omega), hA (A + 6) (by omega) (by omega), hA (A + 7) (by omega) (by omega), h 701 (by omega) (by omega) (by omega), h 709 (by omega) (by omega) (by omega)]
    exact n7
  · rw [h 81 (by omega) (by omega) (by omega)]; exact i3
  · rw [h 81 (by omega) (by omega) (by omega)]; exact i5
  · rw [h 81 (by omega) (by omega) (by omega)]; exact i8
theorem MS_tx {tx' : Nat → Nat} {tk' : Nat} (h : ∀ b k, 711 ≤ b → b ≠ 718 → ¬ (b = 711 ∧ k = 12) → scr b k = false → m'.1 b k = m.1 b k) (h2 : m'.1 711 12 = nI tk') (h3 : ∀ j, j < tk' → m'.1 718 j &&& 255 = nI (tx' j)) (hm : MS S m) : MS (ST.mk S.N S.w tx' tk' S.z S.D S.l S.pw S.kb S.kw) m' := by
  obtain ⟨⟨z1, n8, n9, n10, n11, n12, n13⟩, -, h4, ⟨i4, i6⟩, i9, i10⟩ := hm
  have c := fun b (g1 : 712 ≤ b) (g2 : b < 718) => (funext fun k => h b k (by omega) (by omega) (by omega) (scr_hi (by omega) (by omega)) : m'.1 b = m.1 b)
  refine ⟨⟨?_, ?_, ?_, ?_, ?_, ?_, ?_⟩, ⟨h2, h3⟩, ?_, ⟨?_, ?_⟩, ?_, ?_⟩
  · rw [h 711 9 (by omega) (by omega) (by omega) (by decide)]; exact z1
  · rw [h 711 8 (by omega) (by omega) (by omega) (by decide)]; exact n8
  · rw [h 711 10 (by omega) (by omega) (by omega) (by decide)]; exact n9
  · rw [c 715 (by omega) (by omega)]; exact n10
  · rw [c 717 (by omega) (by omega)]; exact n11
  · rw [c 716 (by omega) (by omega)]; exact n12
  · rw [c 716 (by omega) (by omega)]; exact n13
  · rw [c 712 (by omega) (by omega)]; exact h4
  · rw [h 711 4 (by omega) (by omega) (by omega) (by decide)]; exact i4
  · rw [c 714 (by omega) (by omega)]; exact i6
  · rw [h 711 2 (by omega) (by omega) (by omega) (by decide)]; exact i9
  · rw [c 713 (by omega) (by omega)]; exact i10
theorem s2 : ts_sh (0 + 1 + 1) = (0, 10) := sf_of (sf_of sx 0 (by decide) (by decide)) 0 (by decide) (by decide)
/-- end -/
theorem op_end (d : Nat) (hr : RR dist wl T m) (x : Int32) : OP dist wl d T T 28 180 [.inl x] m := by
  have hr0 := hr
  obtain ⟨N, w, vs, hs, hl, hc, hm⟩ := hr
  obtain ⟨S, rfl, rfl, hC, hM⟩ := RS_split hs
  obtain ⟨t1, t2, t4⟩ := hC.2.1
  obtain ⟨t3, t5⟩ := hM.2.1
  have hv : v27 m (0 + 1 + 1) = nI S.tk := t2
  have hcls : lt_ev (d + 30) 28 [.inr (.inr (some 0)), .inl x] m = _ := E28 (d + 29) 0 _ sx m
  have hmod : ∀ M : lt_m, M.1 711 12 = nI S.tk → lt_ev (d + 30) 180 [.inr (.inr (some 711)), .inl x] M = _ := fun M h => by
    refine (E180 (d + 29) 711 _ sy M).trans ?_
    rw [lm_i_ns (by omega), h]
  have hz : (nI S.tk).toInt64.toInt = (S.tk : Int) := by rw [sp_tt, nI_toInt (by omega)]
  have bad : (x < 0 ∨ nI (S.tk + 1) ≤ x) → OP dist wl d T T 28 180 [.inl x] m := fun hx => by
    refine OP_q (.inl 0) hr0 (hcls.trans ?_) ((hmod m t3).trans ?_)
    · by_cases c : x < 0
      · rw [if_pos c]
      · have := hx.resolve_left c
        rw [if_neg c, p27 (d + 28) (0 + 1 + 1) s2 m, lt_cI_s, hv, if_neg]
        rw [Int32.le_iff_toInt_le, nI_toInt (by omega)] at this ⊢
        omega
    · rw [m181_f (d + 28) (n := S.tk) (by omega) hx hz, lt_cI_s, if_neg (by decide)]
  rcases pk_ix x (n := S.tk + 1) (by omega) with c | c | ⟨n, hn, rfl⟩
  · exact bad (Or.inl c)
  · exact bad (Or.inr c)
  · have C1 : CS dist wl T (ST.mk S.N S.w S.tx n S.z S.D S.l S.pw S.kb S.kw) (lm_i m 2 1 (nI n)) := CS_tx (fun b b1 b2 b3 => lm_i_ne b1) rfl (by omega) lm_i_eq (fun j hj => by rw [lm_i_ne (by decide)]; exact t4 j (by omega)) hC
    have C2 : MS (ST.mk S.N S.w S.tx n S.z S.D S.l S.pw S.kb S.kw) (lm_i (lm_i (lm_i m 2 1 (nI n)) 711 15 0) 711 12 (nI n)) := MS_tx (fun b k b1 b2 b3 hsc => by rw [lm_i_ns b3, lm_i_ns (by rintro ⟨rfl, rfl⟩; exact absurd hsc (by decide)), lm_i_ne (by omega)]) lm_i_eq (fun j hj => by rw [lm_i_ne (by decide), lm_i_ne (by decide), lm_i_ne (by decide)]; exact t5 j (by omega)) hM
    refine OP_w (m1 := lm_i m 2 1 (nI n)) (m2 := lm_i (lm_i (lm_i m 2 1 (nI n)) 711 15 0) 711 12 (nI n)) (vs := vs) (.inl 1) (hcls.trans ?_) C1 ⟨lm_i_ne (by decide), lm_i_ne (by decide), by rw [lm_i_ne (by decide)], rfl⟩ ((hmod _ (by rw [lm_i_ne (by decide)]; exact t3)).trans ?_) C2 (fun b hb => by rw [lm_i_ne (by omega), lm_i_ne (by omega)]) (by rw [lm_i_ns (by omega), lm_i_ns (by omega)]) rfl hl hc hm
    · rw [if_neg (nI_pos (by omega)), p27 (d + 28) (0 + 1 + 1) s2 m, lt_cI_s, hv, if_pos (by rw [sp_len (by omega) (by omega)]; omega)]
      have e20 : lt_ev (d + 29) 20 [.inr (.inr (some (0 + 1 + 1))), .inl (nI n)] m = some (none, lm_i m 2 1 (nI n)) := by
        refine (E20 (d + 28) (0 + 1 + 1) _ s2 m).trans ?_
        rw [if_neg (nI_pos (by omega)), show m.1 (0 + 1 + 1) 1 = nI S.tk from t2, if_neg (by rw [sp_ltn (by omega) (by omega)]; omega)]
      rw [e20, lt_cV_s]
    · rw [m181_t (d + 28) (n := S.tk) (by omega) (by omega) hz, lt_cI_s, if_pos (by decide)]
end TX

/-! ===== undo, keeps, back ===== -/
section HIST
variable {dist wl : DT} {T : Nat} {S : ST} {m m' : lt_m} {vs : List Int32}
theorem OP_w {d y z T' : Nat} {as : List ts_V} {m1 m2 : lt_m} {S' : ST} (v : ts_V) (h1 : lt_ev (d + 30) y (.inr (.inr (some 0)) :: as) m = some (some v, m1)) (c1 : CS dist wl T' S' m1) (g2 : m1.1 4 = m.1 4 ∧ m1.1 5 = m.1 5 ∧ m1.1 711 14 = m.1 711 14 ∧ m1.2.1 = m.2.1) (h2 : lt_ev (d + 30) z (.inr (.inr (some 711)) :: as) m1 = some (some v, m2)) (c2 : MS S' m2) (k1 : ∀ b, b < 711 → m2.1 b = m1.1 b) (k2 : m2.1 711 14 = m1.1 711 14) (k3 : m2.2 = m1.2) (hl : vs.length ≤ 12) (hc : rwC vs m) (hm : rwM vs m) : OP dist wl d T T' y z as m := by
  refine ⟨v, m1, m2, h1, h2, S'.N, S'.w, vs, RS_join (CS_fr (fun b k hb _ => by rw [k1 b hb]) (by rw [k3]; exact ⟨rfl, rfl⟩) c1) c2, hl, ⟨?_, fun j u hj => ?_⟩, ⟨?_, fun j u hj => ?_⟩⟩
  · rw [k1 4 (by omega), g2.1]; exact hc.1
  · rw [k1 5 (by omega), g2.2.1]; exact hc.2 j u hj
  · rw [k2, g2.2.2.1]; exact hm.1
  · rw [k3, g2.2.2.2]; exact hm.2 j u hj
theorem CS_dl {D' l' kb' : Nat} {pw' : Nat → Nat → Nat} {kw' : Nat → Nat} (h : ∀ b, b ≠ 81 → b < 711 → m'.1 b = m.1 b) (h4 : m'.1 81 4 = nI D') (h3 : m'.1 81 3 = nI l') (h2 : m'.1 81 2 = nI kb') (hr : m'.2 = m.2) (b1 : D' ≤ 8) (b2 : l' < 8) (b3 : kb' ≤ 1) (hp : ∀ j, j < D' → LED S.N (pw' j) (151 + 68 * ((l' + 8 - (D' - 1 - j)) % 8)) T m) (hk : kb' = 1 → LED S.N kw' 83 T m) (hm : CS dist wl T S m) : CS dist wl T (ST.mk S.N S.w S.tx S.tk S.z D' l' pw' kb' kw') m' := by
  obtain ⟨⟨A, B, n1, n2, n3, n4, n5, n6, n7⟩, ⟨t1, t2, t4⟩, q3, -, i11, i12, i13⟩ := hm
  have hL : ∀ L, (L + 68 ≤ 81 ∨ 82 ≤ L) → L + 68 ≤ 711 → ∀ b, L ≤ b → b < L + 68 → m'.1 b = m.1 b := fun L h1 h2 b g1 g2 => h b (by omega) (by omega)
  have hA : ∀ b, A ≤ b → b < A + 8 → m'.1 b = m.1 b := fun b g1 g2 => h b (by omega) (by omega)
  have hm8 : ∀ j, (l' + 8 - (D' - 1 - j)) % 8 < 8 := fun j => Nat.mod_lt _ (by decide)
  refine ⟨⟨A, B, by rw [hr]; exact n1, by rw [hr]; exact n2, n3, n4, nR_fr hA n5, ?_, ?_⟩, ⟨t1, ?_, fun j hj => ⟨(t4 j hj).1, ?_⟩⟩, LED_fr (hL 13 (by omega) (by omega)) q3, ⟨b1, b2, h4, h3, fun j hj => LED_fr (hL _ (by omega) (by have := hm8 j; omega)) (hp j hj), b3, h2, fun hk' => LED_fr (hL 83 (by omega) (by omega)) (hk hk')⟩, nmR_fr (hL 13 (by omega) (by omega)) i11, nmR_fr (hL 83 (by omega) (by omega)) i12, fun j hj => nmR_fr (hL _ (by omega) (by omega)) (i13 j hj)⟩
  · rw [hA A (by omega) (by omega)]; exact n6
  · unfold wyR at n7 ⊢
    rw [hA (A + 4) (by omega) (by omega), hA (A + 6) (by omega) (by omega), hA (A + 7) (by omega) (by omega), h 701 (by omega) (by omega), h 709 (by omega) (by omega)]
    exact n7
  · rw [h 2 (by omega) (by omega)]; exact t2
  · rw [h 3 (by omega) (by omega)]; exact (t4 j hj).2
theorem MS_up {w' : Nat → Nat} (h : ∀ b k, 711 ≤ b → b ≠ 712 → scr b k = false → m'.1 b k = m.1 b k) (hw : ∀ k, k < 626 → m'.1 712 k = nI (w' k)) (hm : MS S m) : MS (S.setw w') m' := by
  obtain ⟨⟨z1, n8, n9, n10, n11, n12, n13⟩, ⟨t3, t5⟩, h4, ⟨i4, i6⟩, i9, i10⟩ := hm
  have c := fun b (g1 : 713 ≤ b) (g2 : b < 719) => (funext fun k => h b k (by omega) (by omega) (scr_hi (by omega) g2) : m'.1 b = m.1 b)
  refine ⟨⟨?_, ?_, ?_, ?_, ?_, ?_, ?_⟩, ⟨?_, ?_⟩, hw, ⟨?_, ?_⟩, ?_, ?_⟩
  · rw [h 711 9 (by omega) (by omega) (by decide)]; exact z1
  · rw [h 711 8 (by omega) (by omega) (by decide)]; exact n8
  · rw [h 711 10 (by omega) (by omega) (by decide)]; exact n9
  · rw [c 715 (by omega) (by omega)]; exact n10
  · rw [c 717 (by omega) (by omega)]; exact n11
  · rw [c 716 (by omega) (by omega)]; exact n12
  · rw [c 716 (by omega) (by omega)]; exact n13
  · rw [h 711 12 (by omega) (by omega) (by decide)]; exact t3
  · rw [c 718 (by omega) (by omega)]; exact t5
  · rw [h 711 4 (by omega) (by omega) (by decide)]; exact i4
  · rw [c 714 (by omega) (by omega)]; exact i6
  · rw [h 711 2 (by omega) (by omega) (by decide)]; exact i9
  · rw [c 713 (by omega) (by omega)]; exact i10
theorem MS_h {w' : Nat → Nat} {D' l' kb' : Nat} {pw' : Nat → Nat → Nat} {kw' : Nat → Nat} (h : ∀ b k, 715 ≤ b → scr b k = false → m'.1 b k = m.1 b k) (h1 : ∀ k, k = 8 ∨ k = 9 ∨ k = 10 ∨ k = 12 → m'.1 711 k = m.1 711 k) (hw : ∀ k, k < 626 → m'.1 712 k = nI (w' k)) (h4 : m'.1 711 4 = nI D') (hp : ∀ j, j < D' → ∀ k, k < 626 → m'.1 714 (626 * j + k) = nI (pw' j k)) (h2 : m'.1 711 2 = nI kb') (hk : kb' = 1 → ∀ k, k < 626 → m'.1 713 k = nI (kw' k)) (hm : MS S m) : MS (ST.mk S.N w' S.tx S.tk S.z D' l' pw' kb' kw') m' := by
  obtain ⟨⟨z1, n8, n9, n10, n11, n12, n13⟩, ⟨t3, t5⟩, -, -, -, -⟩ := hm
  have c := fun b (g1 : 715 ≤ b) (g2 : b < 719) => (funext fun k => h b k (by omega) (scr_hi (by omega) g2) : m'.1 b = m.1 b)
  refine ⟨⟨?_, ?_, ?_, ?_, ?_, ?_, ?_⟩, ⟨?_, ?_⟩, hw, ⟨h4, hp⟩, h2, hk⟩
  · rw [h1 9 (by omega)]; exact z1
  · rw [h1 8 (by omega)]; exact n8
  · rw [h1 10 (by omega)]; exact n9
  · rw [c 715 (by omega) (by omega)]; exact n10
  · rw [c 717 (by omega) (by omega)]; exact n11
  · rw [c 716 (by omega) (by omega)]; exact n12
  · rw [c 716 (by omega) (by omega)]; exact n13
  · rw [h1 12 (by omega)]; exact t3
  · rw [c 718 (by omega) (by omega)]; exact t5
theorem MS_t0 (hm : MS S m) : MS S (lm_i m 711 15 0) := MS_fr (fun b k _ hs => lm_i_ns (by rintro ⟨rfl, rfl⟩; exact absurd hs (by decide))) hm
/-- the class's record of 626 is copied by the reference -/
theorem m_cp {d a2 a1 o1 : Nat} {F : Int32 → lt_m → Option lt_r} {K : Option lt_r} {M : lt_m} (hs : ∀ i, i < 626 → F (nI i) (cpR a2 0 a1 o1 i M) = F (nI (i + 1)) (lm_i (cpR a2 0 a1 o1 i M) a2 (0 + i) ((cpR a2 0 a1 o1 i M).1 a1 (o1 + i)))) (hne : a1 ≠ a2) (he : F (nI 626) (cpR a2 0 a1 o1 626 M) = K) : F 0 M = K := by
  have key := lp_it (F := fun i (_ : Unit) => F (nI i) (cpR a2 0 a1 o1 i M)) (K := K) 626 (fun i _ hi => ⟨(), by rw [hs i hi, cpR_s (Or.inl hne)]⟩) (fun _ => he) ()
  have key : F 0 (cpR a2 0 a1 o1 0 M) = K := key
  rw [cpR_0] at key
  exact key
/-- undo -/
theorem op_undo (d : Nat) (hr : RR dist wl T m) : OP dist wl d T T 167 270 [] m := by
  have hr0 := hr
  obtain ⟨N, w, vs, hs, hl, hc, hm⟩ := hr
  obtain ⟨S, rfl, rfl, hC, hM⟩ := RS_split hs
  have hC' := hC
  have hM' := hM
  obtain ⟨-, -, -, ⟨i1, i2, i3, i5, i6, i7, i8, i10⟩, i11, i12, i13⟩ := hC'
  obtain ⟨-, -, mw, ⟨j4, j6⟩, j9, j10⟩ := hM'
  have hcl : lt_ev (d + 30) 167 [.inr (.inr (some 0))] m = _ := E167 (d + 29) 0 sx m
  rw [E168 (d + 28) (0 + 81) (0 + 13) s81 sL m, p82 (d + 27) _ s81 m, lt_cR_s, show m.1 (0 + 81) 4 = nI S.D from i3] at hcl
  have hml : ∀ M : lt_m, M.1 711 4 = nI S.D → lt_ev (d + 30) 270 [.inr (.inr (some 711))] M = _ := fun M _ => E270 (d + 29) 711 sy M
  by_cases c : S.D = 0
  · refine OP_q (.inl (-2)) hr0 (hcl.trans ?_) ((hml m j4).trans ?_)
    · rw [if_pos (by rw [c]; decide), lt_cI_s, if_pos rfl]
    · rw [if_neg]
      rw [lm_i_ns (by omega), j4, c]
      decide
  · have hv : v82 m (0 + 81) = some (151 + 68 * S.l) := v82_at i2 i5
    have hidx : (S.l + 8 - (S.D - 1 - (S.D - 1))) % 8 = S.l := by omega
    have hld : LED S.N (S.pw (S.D - 1)) (151 + 68 * S.l) T m := by
      have := i6 (S.D - 1) (by omega)
      rw [hidx] at this
      exact this
    obtain ⟨M1, hM1⟩ : ∃ M1, M1 = cpS pLL 13 (151 + 68 * S.l) m := ⟨_, rfl⟩
    have f1 : ∀ b, ¬ (13 ≤ b ∧ b < 81) → M1.1 b = m.1 b := fun b hb => by rw [hM1]; exact cp_out (by omega)
    have r1 : M1.2 = m.2 := by rw [hM1]; rfl
    have hL1 : LED S.N (S.pw (S.D - 1)) 13 T M1 := by rw [hM1]; exact cp_LED hld i11
    have hN1 : nmR 13 M1 := by rw [hM1]; exact cp_nm (i13 S.l i2) i11
    have C1 := CS_led (Nat.le_refl T) (fun b _ hb => f1 b hb) (by rw [r1]; exact ⟨rfl, rfl⟩) hL1 hN1 hC
    obtain ⟨M2, hM2⟩ : ∃ M2, M2 = lm_i (lm_i M1 81 3 (nI ((S.l + 7) % 8))) 81 4 (nI (S.D - 1)) := ⟨_, rfl⟩
    have f2 : ∀ b, b ≠ 81 → M2.1 b = M1.1 b := fun b hb => by rw [hM2, lm_i_ne hb, lm_i_ne hb]
    have r2 : M2.2 = M1.2 := by rw [hM2]; rfl
    have C2 := CS_dl (S := S.setw (S.pw (S.D - 1))) (D' := S.D - 1) (l' := (S.l + 7) % 8) (kb' := S.kb) (pw' := S.pw) (kw' := S.kw) (fun b hb _ => f2 b hb) (by rw [hM2]; exact lm_i_eq) (by rw [hM2, lm_i_ns (by omega)]; exact lm_i_eq) (by rw [hM2, lm_i_ns (by omega), lm_i_ns (by omega), f1 81 (by omega)]; exact i8) r2 (by omega) (Nat.mod_lt _ (by decide)) i7 (fun j hj => by
      have e : ((S.l + 7) % 8 + 8 - (S.D - 1 - 1 - j)) % 8 = (S.l + 8 - (S.D - 1 - j)) % 8 := by omega
      rw [e]
      have hm8 : (S.l + 8 - (S.D - 1 - j)) % 8 < 8 := Nat.mod_lt _ (by decide)
      exact LED_fr (fun b g1 g2 => f1 b (by omega)) (i6 j (by omega))) (fun hk => LED_fr (fun b g1 g2 => f1 b (by omega)) (i10 hk)) C1
    have f3 : ∀ b, 81 ≠ b → ¬ (13 ≤ b ∧ b < 81) → M2.1 b = m.1 b := fun b h1 h2 => by rw [f2 b (by omega), f1 b h2]
    obtain ⟨M3, hM3⟩ : ∃ M3, M3 = lm_i (lm_i M2 711 15 0) 711 4 (nI (S.D - 1)) := ⟨_, rfl⟩
    have g3 : ∀ b, b ≠ 711 → M3.1 b = M2.1 b := fun b hb => by rw [hM3, lm_i_ne hb, lm_i_ne hb]
    refine OP_w (m1 := M2) (m2 := cpR 712 0 714 (626 * (S.D - 1)) 626 M3) (vs := vs) (.inl (nI (S.D - 1))) (hcl.trans ?_) C2 ⟨f3 4 (by omega) (by omega), f3 5 (by omega) (by omega), by rw [f3 711 (by omega) (by omega)], by rw [r2, r1]⟩ ((hml M2 (by rw [f3 711 (by omega) (by omega)]; exact j4)).trans ?_) ?_ (fun b hb => by rw [cpR_ne (by omega), g3 b (by omega)]) (by rw [cpR_ne (by decide), hM3, lm_i_ns (by omega), lm_i_ns (by omega)]) (by rw [hM3]; rfl) hl hc hm
    · have e83 := k83 (m := m) (d + 25) (s := 151 + 68 * S.l) (t := 13) (by omega) sL (s151_all S.l i2) (i13 S.l i2)
      rw [if_neg (by rw [sp_eq0 (by omega)]; exact c), hv, lt_nl_s]
      simp only [lt_let]
      have e83 : lt_ev (d + 28) 83 [.inr (.inr (some (0 + 13))), .inr (.inr (some (151 + 68 * S.l)))] m = some (none, M1) := by rw [hM1]; exact e83
      rw [e83, lt_cV_s]
      have e1 : M1.1 (0 + 81) 3 = nI S.l := by rw [f1 (0 + 81) (by omega)]; exact i5
      have e2 : lm_i M1 (0 + 81) 3 ((M1.1 (0 + 81) 3 + (8 : Int32) - (1 : Int32)) - (M1.1 (0 + 81) 3 + (8 : Int32) - (1 : Int32)) / (8 : Int32) * (8 : Int32)) = lm_i M1 81 3 (nI ((S.l + 7) % 8)) := by
        rw [e1, q_8, q_1, nI_add, pk_sub (by omega), pk_rem (by omega) (by decide) (by decide)]
        rfl
      rw [e2]
      have e3 : (lm_i M1 81 3 (nI ((S.l + 7) % 8))).1 (0 + 81) 4 - (1 : Int32) = nI (S.D - 1) := by
        rw [lm_i_ns (by omega), f1 (0 + 81) (by omega), show m.1 (0 + 81) 4 = nI S.D from i3, q_1, pk_sub (by omega)]
      rw [e3, show lm_i (lm_i M1 81 3 (nI ((S.l + 7) % 8))) (0 + 81) 4 (nI (S.D - 1)) = M2 from hM2.symm, lt_cI_s, if_neg (by decide)]
      rw [show M2.1 (0 + 81) 4 = nI (S.D - 1) by rw [hM2]; exact lm_i_eq]
    · have e4 : (lm_i M2 711 15 0).1 711 4 = nI S.D := by rw [lm_i_ns (by omega), f3 711 (by omega) (by omega)]; exact j4
      rw [e4, if_pos (by rw [sp_eq0 (by omega)]; exact c), q_1, pk_sub (by omega), ← hM3]
      have e5 : M3.1 711 4 = nI (S.D - 1) := by rw [hM3]; exact lm_i_eq
      refine m_cp (d := d) (a2 := 712) (a1 := 714) (o1 := 626 * (S.D - 1)) (F := fun x M => L270_27 (d + 29) 711 x M) ?_ (by decide) ?_
      · intro i hi
        have e6 : (cpR 712 0 714 (626 * (S.D - 1)) i M3).1 711 4 = nI (S.D - 1) := by rw [cpR_ne (by decide)]; exact e5
        rw [E270_27 _ _ _ sy, e6, q_626]
        simp (disch := omega) only [sp_len, pk_mul, nI_add, nI_clamp]
        rw [if_neg (by omega), lt_gd_t ⟨nI_pos' (by omega), by omega⟩, lt_gd_t ⟨nI_pos' (by omega), hi⟩, nI_1, Nat.zero_add]
      · have e6 : (cpR 712 0 714 (626 * (S.D - 1)) 626 M3).1 711 4 = nI (S.D - 1) := by rw [cpR_ne (by decide)]; exact e5
        rw [E270_27 _ _ _ sy, if_pos (by decide), e6]
    · refine MS_h (S := S) (m := m) (fun b k hb hsc => ?_) (fun k hk => ?_) (fun k hk => ?_) ?_ (fun j hj k hk => ?_) ?_ (fun hk k hk' => ?_) hM
      · rw [cpR_ne (by omega), g3 b (by omega), f3 b (by omega) (by omega)]
      · rw [cpR_ne (by decide), hM3, lm_i_ns (by omega), lm_i_ns (by omega), f3 711 (by omega) (by omega)]
      · rw [cpR_in (by omega) (by omega), g3 714 (by decide), f3 714 (by omega) (by omega), Nat.sub_zero]
        exact j6 (S.D - 1) (by omega) k hk
      · rw [cpR_ne (by decide), hM3]; exact lm_i_eq
      · rw [cpR_ne (by decide), g3 714 (by decide), f3 714 (by omega) (by omega)]
        exact j6 j (by omega) k hk
      · rw [cpR_ne (by decide), hM3, lm_i_ns (by omega), lm_i_ns (by omega), f3 711 (by omega) (by omega)]
        exact j9
      · rw [cpR_ne (by decide), g3 713 (by decide), f3 713 (by omega) (by omega)]
        exact j10 hk k hk'
/-- keeps -/
theorem op_keeps (d : Nat) (hr : RR dist wl T m) : OP dist wl d T T 169 271 [] m := by
  obtain ⟨N, w, vs, hs, hl, hc, hm⟩ := hr
  obtain ⟨S, rfl, rfl, hC, hM⟩ := RS_split hs
  have hC' := hC
  have hM' := hM
  obtain ⟨-, -, hled, ⟨i1, i2, i3, i5, i6, i7, i8, i10⟩, i11, i12, i13⟩ := hC'
  obtain ⟨-, -, mw, ⟨j4, j6⟩, j9, j10⟩ := hM'
  obtain ⟨M1, hM1⟩ : ∃ M1, M1 = cpS pLL 83 13 m := ⟨_, rfl⟩
  have f1 : ∀ b, ¬ (83 ≤ b ∧ b < 151) → M1.1 b = m.1 b := fun b hb => by rw [hM1]; exact cp_out (by omega)
  have r1 : M1.2 = m.2 := by rw [hM1]; rfl
  have hL1 : LED S.N S.w 83 T M1 := by rw [hM1]; exact cp_LED hled i12
  have hN1 : nmR 83 M1 := by rw [hM1]; exact cp_nm i11 i12
  obtain ⟨M2, hM2⟩ : ∃ M2, M2 = lm_i M1 81 2 1 := ⟨_, rfl⟩
  have f2 : ∀ b, b ≠ 81 → M2.1 b = M1.1 b := fun b hb => by rw [hM2, lm_i_ne hb]
  have f3 : ∀ b, ¬ (81 ≤ b ∧ b < 151) → M2.1 b = m.1 b := fun b h1 => by rw [f2 b (by omega), f1 b (by omega)]
  have r2 : M2.2 = m.2 := by rw [hM2]; exact r1
  have C2 : CS dist wl T (ST.mk S.N S.w S.tx S.tk S.z S.D S.l S.pw 1 S.w) M2 := by
    obtain ⟨⟨A, B, n1, n2, n3, n4, n5, n6, n7⟩, ⟨t1, t2, t4⟩, -, -, -, -, -⟩ := hC
    have hL : ∀ L, (L + 68 ≤ 81 ∨ 151 ≤ L) → ∀ b, L ≤ b → b < L + 68 → M2.1 b = m.1 b := fun L h1 b g1 g2 => f3 b (by omega)
    have hA : ∀ b, A ≤ b → b < A + 8 → M2.1 b = m.1 b := fun b g1 g2 => f3 b (by omega)
    refine ⟨⟨A, B, by rw [r2]; exact n1, by rw [r2]; exact n2, n3, n4, nR_fr hA n5, ?_, ?_⟩, ⟨t1, ?_, fun j hj => ⟨(t4 j hj).1, ?_⟩⟩, LED_fr (hL 13 (by omega)) hled, ⟨i1, i2, ?_, ?_, fun j hj => LED_fr (hL _ (by omega)) (i6 j hj), Nat.le_refl 1, ?_, fun _ => LED_fr (fun b g1 g2 => f2 b (by omega)) hL1⟩, nmR_fr (hL 13 (by omega)) i11, nmR_fr (fun b g1 g2 => f2 b (by omega)) hN1, fun j hj => nmR_fr (hL _ (by omega)) (i13 j hj)⟩
    · rw [hA A (by omega) (by omega)]; exact n6
    · unfold wyR at n7 ⊢
      rw [hA (A + 4) (by omega) (by omega), hA (A + 6) (by omega) (by omega), hA (A + 7) (by omega) (by omega), f3 701 (by omega), f3 709 (by omega)]
      exact n7
    · rw [f3 2 (by omega)]; exact t2
    · rw [f3 3 (by omega)]; exact (t4 j hj).2
    · rw [hM2, lm_i_ns (by omega), f1 81 (by omega)]; exact i3
    · rw [hM2, lm_i_ns (by omega), f1 81 (by omega)]; exact i5
    · rw [hM2]; exact lm_i_eq
  have e13 : M2.1 (0 + 13) 4 = nI (S.w 0) := by rw [f3 (0 + 13) (by omega)]; exact hled.1.1
  obtain ⟨M3, hM3⟩ : ∃ M3, M3 = lm_i (cpR 713 0 712 0 626 (lm_i M2 711 15 0)) 711 2 1 := ⟨_, rfl⟩
  have g3 : ∀ b, b ≠ 711 → b ≠ 713 → M3.1 b = M2.1 b := fun b h1 h2 => by rw [hM3, lm_i_ne h1, cpR_ne h2, lm_i_ne h1]
  have g4 : ∀ k, k ≠ 2 → k ≠ 15 → M3.1 711 k = M2.1 711 k := fun k h1 h2 => by rw [hM3, lm_i_ns (by omega), cpR_ne (by decide), lm_i_ns (by omega)]
  have w712 : ∀ k, k < 626 → M2.1 712 k = nI (S.w k) := fun k hk => by rw [f3 712 (by omega)]; exact mw k hk
  refine OP_w (m1 := M2) (m2 := M3) (vs := vs) (.inl (nI (S.w 0))) ((E169 (d + 29) 0 sx m).trans ?_) C2 ⟨f3 4 (by omega), f3 5 (by omega), by rw [f3 711 (by omega)], by rw [r2]⟩ ((E271 (d + 29) 711 sy M2).trans ?_) ?_ (fun b hb => g3 b (by omega) (by omega)) (g4 14 (by decide) (by decide)) (by rw [hM3]; rfl) hl hc hm
  · have e83 := k83 (m := m) (d + 25) (s := 13) (t := 83) (by omega) s83 sL i11
    have e83 : lt_ev (d + 28) 83 [.inr (.inr (some (0 + 81 + 2))), .inr (.inr (some (0 + 13)))] m = some (none, M1) := by rw [hM1]; exact e83
    rw [E170 (d + 28) (0 + 81) (0 + 13) s81 sL m, e83, lt_cV_s, show lm_i M1 (0 + 81) 2 1 = M2 from hM2.symm, lt_cV_s, e13]
  · refine m_cp (d := d) (a2 := 713) (a1 := 712) (o1 := 0) (F := fun x M => L271_7 (d + 29) 711 x M) ?_ (by decide) ?_
    · intro i hi
      rw [E271_7 _ _ _ sy, q_626]
      simp (disch := omega) only [sp_len, nI_clamp]
      rw [if_neg (by omega), lt_gd_t ⟨nI_pos' (by omega), hi⟩, lt_gd_t ⟨nI_pos' (by omega), hi⟩, nI_1, Nat.zero_add]
    · have e0 : M3.1 (711 + 1) (0 : Int32).toNatClampNeg = nI (S.w 0) := by rw [g3 (711 + 1) (by decide) (by decide)]; exact w712 0 (by omega)
      rw [E271_7 _ _ _ sy, if_pos (by decide), lt_gd_t (by decide), ← hM3, e0]
  · refine MS_h (S := S) (m := m) (fun b k hb hsc => ?_) (fun k hk => ?_) (fun k hk => ?_) ?_ (fun j hj k hk => ?_) ?_ (fun hk k hk' => ?_) hM
    · rw [g3 b (by omega) (by omega), f3 b (by omega)]
    · rw [g4 k (by omega) (by omega), f3 711 (by omega)]
    · rw [g3 712 (by decide) (by decide)]; exact w712 k hk
    · rw [g4 4 (by decide) (by decide), f3 711 (by omega)]; exact j4
    · rw [g3 714 (by decide) (by decide), f3 714 (by omega)]; exact j6 j hj k hk
    · rw [hM3]; exact lm_i_eq
    · rw [hM3, lm_i_ne (by decide), cpR_in (by omega) (by omega), lm_i_ne (by decide), Nat.sub_zero, Nat.zero_add]; exact w712 k hk'
/-- back -/
theorem op_back (d : Nat) (hr : RR dist wl T m) : OP dist wl d T T 171 272 [] m := by
  have hr0 := hr
  obtain ⟨N, w, vs, hs, hl, hc, hm⟩ := hr
  obtain ⟨S, rfl, rfl, hC, hM⟩ := RS_split hs
  have hC' := hC
  have hM' := hM
  obtain ⟨-, -, hled, ⟨i1, i2, i3, i5, i6, i7, i8, i10⟩, i11, i12, i13⟩ := hC'
  obtain ⟨-, -, mw, ⟨j4, j6⟩, j9, j10⟩ := hM'
  have hcl : lt_ev (d + 30) 171 [.inr (.inr (some 0))] m = _ := E171 (d + 29) 0 sx m
  rw [E172 (d + 28) (0 + 81) (0 + 13) s81 sL m, show m.1 (0 + 81) 2 = nI S.kb from i8] at hcl
  by_cases c : S.kb = 0
  · refine OP_q (.inl (-2)) hr0 (hcl.trans ?_) ((E272 (d + 29) 711 sy m).trans ?_)
    · rw [if_neg (by rw [c]; decide), lt_cI_s, if_pos rfl]
    · rw [if_neg]
      rw [lm_i_ns (by omega), j9, c]
      decide
  · obtain ⟨M1, e1, C1, r1, f1⟩ := k81 hC
    have C1' := C1
    obtain ⟨-, -, -, ⟨-, -, -, -, -, -, -, p10⟩, p11, p12, p13⟩ := C1'
    have hkl : LED S.N S.kw 83 T M1 := p10 (by show S.kb = 1; omega)
    obtain ⟨M2, hM2⟩ : ∃ M2, M2 = cpS pLL 13 83 M1 := ⟨_, rfl⟩
    have f2 : ∀ b, ¬ (13 ≤ b ∧ b < 81) → M2.1 b = M1.1 b := fun b hb => by rw [hM2]; exact cp_out (by omega)
    have r2 : M2.2 = M1.2 := by rw [hM2]; rfl
    have hL2 : LED S.rem.N S.kw 13 T M2 := by rw [hM2]; exact cp_LED hkl p11
    have C2 := CS_led (Nat.le_refl T) (fun b _ hb => f2 b hb) (by rw [r2]; exact ⟨rfl, rfl⟩) hL2 (by rw [hM2]; exact cp_nm p12 p11) C1
    have hMs : MS S (lm_i M2 711 15 0) := by
      refine MS_t0 (MS_fr (m := m) (fun b k hb _ => ?_) hM)
      rw [f2 b (by omega), f1 b (by omega)]
    obtain ⟨M3, e3, C3, r3, f3⟩ := m211 hMs i1
    have f3' : ∀ b, b ≠ 711 → b ≠ 714 → M3.1 b = M2.1 b := fun b h1 h2 => funext fun k => by rw [f3 b k (by omega), lm_i_ne h1]
    have C3' := C3
    obtain ⟨-, -, -, -, -, l10⟩ := C3'
    have w713 : ∀ k, k < 626 → M3.1 713 k = nI (S.kw k) := l10 (by show S.kb = 1; omega)
    refine OP_w (m1 := M2) (m2 := cpR 712 0 713 0 626 M3) (vs := vs) (.inl (nI (S.kw 0))) (hcl.trans ?_) C2 ⟨by rw [f2 4 (by omega), f1 4 (by omega)], by rw [f2 5 (by omega), f1 5 (by omega)], by rw [f2 711 (by omega), f1 711 (by omega)], by rw [r2, r1]⟩ ((E272 (d + 29) 711 sy M2).trans ?_) ?_ (fun b hb => by rw [cpR_ne (by omega), f3' b (by omega) (by omega)]) (by rw [cpR_ne (by decide), f3 711 14 (by omega), lm_i_ns (by omega)]) (by rw [show (cpR 712 0 713 0 626 M3).2 = M3.2 from rfl, r3]; rfl) hl hc hm
    · have e83 := k83 (m := M1) (d + 25) (s := 83) (t := 13) (by omega) sL s83 p12
      have e83 : lt_ev (d + 28) 83 [.inr (.inr (some (0 + 13))), .inr (.inr (some (0 + 81 + 2)))] M1 = some (none, M2) := by rw [hM2]; exact e83
      have e81 : lt_ev (d + 28) 81 [.inr (.inr (some (0 + 81))), .inr (.inr (some (0 + 13)))] m = some (none, M1) := e1 (d + 24)
      have eh : M2.1 (0 + 13) 4 = nI (S.kw 0) := hL2.1.1
      rw [if_pos (by rw [sp_eq0 (by omega)]; exact c), e81, lt_cV_s, e83, lt_cV_s, lt_cI_s, if_neg (by decide), eh]
    · have ek : (lm_i M2 711 15 0).1 711 2 = nI S.kb := hMs.2.2.2.2.1
      rw [ek, if_pos (by rw [sp_eq0 (by omega)]; exact c), e3 (d + 28), lt_cV_s]
      refine m_cp (d := d) (a2 := 712) (a1 := 713) (o1 := 0) (F := fun x M => L272_21 (d + 29) 711 x M) ?_ (by decide) ?_
      · intro i hi
        rw [E272_21 _ _ _ sy, q_626]
        simp (disch := omega) only [sp_len, nI_clamp]
        rw [if_neg (by omega), lt_gd_t ⟨nI_pos' (by omega), hi⟩, lt_gd_t ⟨nI_pos' (by omega), hi⟩, nI_1, Nat.zero_add]
      · have e0 : (cpR 712 0 713 0 626 M3).1 (711 + 1) (0 : Int32).toNatClampNeg = nI (S.kw 0) := by
          rw [show (0 : Int32).toNatClampNeg = 0 by decide, cpR_in (by omega) (by omega)]; exact w713 0 (by omega)
        rw [E272_21 _ _ _ sy, if_pos (by decide), lt_gd_t (by decide), e0]
    · refine MS_up (S := S.rem) (m := M3) (fun b k hb hne hsc => by rw [cpR_ne hne]) (fun k hk => ?_) C3
      rw [cpR_in (by omega) (by omega), Nat.sub_zero, Nat.zero_add]
      exact w713 k hk
end HIST

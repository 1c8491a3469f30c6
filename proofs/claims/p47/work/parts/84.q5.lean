/-! ===== controls, undo, keeps, back ===== -/
section CPS
variable {T : Nat} {S : ST} {vs : List Int32} {m m' : lt_m}
def coW (w : Nat → Nat) (i DB st : Nat) : Nat → Nat := wnote (wset (wset w (24 + 26 * i) DB) (19 + 26 * i) st) (st + 1) i (w 0)
theorem q_controls (d : Nat) (hT : T < 2 ^ 30) (h : cP T S vs m) {i k : Nat} (hi : i < S.w 2) (hk : k ≤ w_un S.w i) (c1 : w_st S.w i = 1) : ∃ m', lt_ev (d + 12) 119 [.inr (.inr (some 0)), .inl (nI i), .inl (nI k)] m = some (some (.inl (nI ((w_un S.w i - k) * S.N.2.2.2.2 (w_kd S.w i) * (1 + w_br S.w i)))), m') ∧ cP (T + 1) (S.rem.setw (coW S.w i ((w_un S.w i - k) * S.N.2.2.2.2 (w_kd S.w i) * (1 + w_br S.w i)) (if k = w_un S.w i then 2 else 4))) vs m' := by
  have hC := h.1
  have hw := h.wfL
  have hN := h.wfN
  have bg := hN.2.2.1
  have h20 := hw.2.2.1
  have hcl := h.cl
  have hq := sh_mv sL (i := i) (by omega)
  have b7 := wf_st hw hi
  have hwm := hw.2.2.2.2.2 i hi
  have b12 : w_br S.w i ≤ 1 := hwm.2.2.2.2.2.2.2.2.2.2.2.1
  have bun : w_un S.w i ≤ 999 := hwm.2.2.2.1
  have bkd : w_kd S.w i < S.N.2.1 := hwm.2.1
  have bdu := hN.2.2.2.2.2.2.2 (w_kd S.w i) bkd
  obtain ⟨-, -, e3', -, -, -, e7, -⟩ := hcl.2.2.2.2.1 i hi
  have hcls : lt_ev (d + 12) 119 [.inr (.inr (some 0)), .inl (nI i), .inl (nI k)] m = _ := E119 (d + 11) 0 _ _ sx m
  rw [p114 (d + 9) _ _ sL m, lt_cR_s, q_fnd h hi, lt_nl_s, lt_gd_t hq, e7, e3', if_neg (nI_pos (by omega)), if_pos (by rw [sp_len (by omega) (by omega)]; omega), c1, if_pos (by decide)] at hcls
  have hdb0 : w_db S.w i = 0 := hwm.2.2.2.2.2.2.2.2.2.2.2.2.1.2 (by omega)
  have hop : w_open S.w i = true := by unfold w_open; rw [c1]; rfl
  obtain ⟨DB, hDB⟩ : ∃ DB, DB = (w_un S.w i - k) * S.N.2.2.2.2 (w_kd S.w i) * (1 + w_br S.w i) := ⟨_, rfl⟩
  obtain ⟨st, hst⟩ : ∃ st, st = if k = w_un S.w i then 2 else 4 := ⟨_, rfl⟩
  rw [← hDB, ← hst]
  have bDB : DB ≤ 2000000 := by
    have h1 : (w_un S.w i - k) * S.N.2.2.2.2 (w_kd S.w i) ≤ 999 * 999 := Nat.mul_le_mul (by omega) bdu.2
    have h2 : (w_un S.w i - k) * S.N.2.2.2.2 (w_kd S.w i) * (1 + w_br S.w i) ≤ 999 * 999 * 2 := Nat.mul_le_mul h1 (by omega)
    omega
  have hz : DB = 0 ↔ k = w_un S.w i := by
    rw [hDB]
    constructor
    · intro q
      rcases Nat.mul_eq_zero.mp q with q | q
      · rcases Nat.mul_eq_zero.mp q with q | q
        · omega
        · omega
      · omega
    · intro q
      rw [q, Nat.sub_self, Nat.zero_mul, Nat.zero_mul]
  obtain ⟨M1, e1, C1, r1, f1⟩ := k81 hC
  have hcl1 : cl S.N S.w (0 + 13) M1 := C1.2.2.1.1
  have hmv : mvR S.N S.w i (0 + 13 + 3 + 5 + 3 * i) M1 := hcl1.2.2.2.2.1 i hi
  have hsA1 : ts_sh M1.2.2.1 = (0, 5) := by rw [r1]; exact h.sA
  have hnR1 : nR S.N M1.2.2.1 M1 := by
    obtain ⟨⟨A, B, n1, -, -, -, n5, -⟩, -⟩ := C1
    rw [n1]; exact n5
  have hbr1 : M1.1 (0 + 13 + 3 + 5 + 3 * i) 11 = nI (w_br S.w i) := hmv.2.2.2.2.2.2.2.2.2.2.1
  have hbr01 : nI (w_br S.w i) = 0 ∨ nI (w_br S.w i) = 1 := by
    have : w_br S.w i = 0 ∨ w_br S.w i = 1 := by omega
    rcases this with q | q
    · rw [q]; exact Or.inl rfl
    · rw [q]; exact Or.inr rfl
  have hwf' : wfM S.N (wset (wset S.w (24 + 26 * i) DB) (19 + 26 * i) st) i := by
    refine wfM_sd ?_ bDB ?_ hwm
    · rw [hst]; split <;> omega
    · intro q
      rw [hst] at q
      by_cases c : k = w_un S.w i
      · exact hz.mpr c
      · rw [if_neg c] at q; omega
  obtain ⟨M2, hM2⟩ : ∃ M2, M2 = if k = w_un S.w i then lm_i M1 (0 + 13 + 3 + 5 + 3 * i) 7 2 else lm_i (lm_i M1 (0 + 13 + 3 + 5 + 3 * i) 7 4) (0 + 13 + 3 + 5 + 3 * i) 10 (nI DB) := ⟨_, rfl⟩
  have g1 : ∀ b, b ≠ 0 + 13 + 3 + 5 + 3 * i → M2.1 b = M1.1 b := fun b hb => by
    rw [hM2]; split
    · exact lm_i_ne hb
    · rw [lm_i_ne hb, lm_i_ne hb]
  have g2 : ∀ s, s ≠ 7 → s ≠ 10 → M2.1 (0 + 13 + 3 + 5 + 3 * i) s = M1.1 (0 + 13 + 3 + 5 + 3 * i) s := fun s s1 s2 => by
    rw [hM2]; split
    · exact lm_i_ns (by omega)
    · rw [lm_i_ns (by omega), lm_i_ns (by omega)]
  have g3 : M2.2 = M1.2 := by rw [hM2]; split <;> rfl
  have g4 : mvR S.N (wset (wset S.w (24 + 26 * i) DB) (19 + 26 * i) st) i (0 + 13 + 3 + 5 + 3 * i) M2 := by
    rw [hM2, hst]
    by_cases c : k = w_un S.w i
    · rw [if_pos c, if_pos c, wset_id (w := S.w) (hdb0.trans (hz.mpr c).symm)]
      exact mvR_st hmv
    · rw [if_neg c, if_neg c, wset_cm (by omega)]
      exact mvR_db (mvR_st hmv)
  have g5 : k ≠ w_un S.w i → M2.1 (0 + 13 + 3 + 5 + 3 * i) 10 = nI DB := fun c => by rw [hM2, if_neg c]; exact lm_i_eq
  obtain ⟨M3, e3, C3, r3, f3, f3'⟩ := CS_chg (S := S.rem) (w' := wset (wset S.w (24 + 26 * i) DB) (19 + 26 * i) st) (M2 := M2) C1 hT hi (fun k hk => (wset_ne (by omega)).trans (wset_ne (by omega))) ⟨(wset_ne (by omega)).trans (wset_ne (by omega)), (wset_ne (by omega)).trans (wset_ne (by omega)), fun _ => hop⟩ hwf' (fun b b1 b2 => g1 b b1) (g2 0 (by decide) (by decide)) (by rw [g2 11 (by decide) (by decide), hbr1]; exact hbr01) g3 g4 (st + 1)
  refine ⟨M3, hcls.trans ?_, C3, h.2.1, rwC_eq (by rw [f3 4 (by omega), f1 4 (by omega)]) (by rw [f3 5 (by omega), f1 5 (by omega)]) h.2.2⟩
  have e81 : lt_ev (d + 11) 81 [.inr (.inr (some (0 + 81))), .inr (.inr (some (0 + 13)))] m = some (none, M1) := e1 (d + 7)
  rw [e81, lt_cV_s, hmv.2.2.1, hmv.2.1]
  have e3 := e3 (d + 8)
  by_cases c : k = w_un S.w i
  · rw [hM2, if_pos c, show st = 2 by rw [hst, if_pos c]] at e3
    rw [if_neg (by rw [sp_eqn (by omega) (by omega)]; simp [c]), q_3, e3, lt_cV_s, hz.mpr c]
    rfl
  · have e10 : M3.1 (0 + 13 + 3 + 5 + 3 * i) 10 = nI DB := by rw [f3' _ (by omega)]; exact g5 c
    rw [hM2, if_neg c, show st = 4 by rw [hst, if_neg c]] at e3
    rw [if_pos (by rw [sp_eqn (by omega) (by omega)]; exact c), lt_gd_t hsA1, p25 (d + 9) _ _ hsA1 M1, lt_cI_s, c25 hnR1 hN bkd, hbr1, pk_sub (by omega), pk_mul]
    by_cases cb : w_br S.w i = 0
    · have eDB : (w_un S.w i - k) * S.N.2.2.2.2 (w_kd S.w i) = DB := by rw [hDB, cb]; omega
      rw [if_pos (by rw [cb]; rfl), eDB, E120 (d + 10) _ _ hq, lt_cV_s, q_5, e3, lt_cV_s, e10]
    · have eDB : 2 * ((w_un S.w i - k) * S.N.2.2.2.2 (w_kd S.w i)) = DB := by rw [hDB, show w_br S.w i = 1 by omega]; omega
      rw [if_neg (by rw [sp_eq0 (by omega)]; exact cb), q_2, pk_mul, eDB, E120 (d + 10) _ _ hq, lt_cV_s, q_5, e3, lt_cV_s, e10]
theorem q_controlsN (d : Nat) (h : cP T S vs m) {i k : Nat} (hi : i < S.w 2) (hk : k ≤ w_un S.w i) (c1 : ¬ w_st S.w i = 1) : lt_ev (d + 12) 119 [.inr (.inr (some 0)), .inl (nI i), .inl (nI k)] m = some (some (.inl (-2)), m) := by
  have hw := h.wfL
  have h20 := hw.2.2.1
  have hcl := h.cl
  have hq := sh_mv sL (i := i) (by omega)
  have b7 := wf_st hw hi
  have bun : w_un S.w i ≤ 999 := (hw.2.2.2.2.2 i hi).2.2.2.1
  obtain ⟨-, -, e3', -, -, -, e7, -⟩ := hcl.2.2.2.2.1 i hi
  have hcls : lt_ev (d + 12) 119 [.inr (.inr (some 0)), .inl (nI i), .inl (nI k)] m = _ := E119 (d + 11) 0 _ _ sx m
  rw [p114 (d + 9) _ _ sL m, lt_cR_s, q_fnd h hi, lt_nl_s, lt_gd_t hq, e7, e3', if_neg (nI_pos (by omega)), if_pos (by rw [sp_len (by omega) (by omega)]; omega), if_neg (by rw [q_1, sp_eqn (by omega) (by omega)]; exact c1)] at hcls
  exact hcls
theorem q_controls0 (d : Nat) (h : cP T S vs m) (hz : S.w 2 = 0) (y : Int32) : lt_ev (d + 12) 119 [.inr (.inr (some 0)), .inl (nI 0), .inl y] m = some (some (.inl (-1)), m) := by
  refine (E119 (d + 11) 0 _ _ sx m).trans ?_
  rw [p114 (d + 9) _ _ sL m, lt_cR_s, q_nol h hz, lt_nl_n]
/-- undo -/
theorem q_undo (d : Nat) (h : cP T S vs m) (c : ¬ S.D = 0) : ∃ m', lt_ev (d + 12) 167 [.inr (.inr (some 0))] m = some (some (.inl (nI (S.D - 1))), m') ∧ cP T (ST.mk S.N (S.pw (S.D - 1)) S.tx S.tk S.z (S.D - 1) ((S.l + 7) % 8) S.pw S.kb S.kw) vs m' := by
  have hC := h.1
  have hC' := hC
  obtain ⟨-, -, -, ⟨i1, i2, i3, i5, i6, i7, i8, i10⟩, i11, i12, i13⟩ := hC'
  have hcl : lt_ev (d + 12) 167 [.inr (.inr (some 0))] m = _ := E167 (d + 11) 0 sx m
  rw [E168 (d + 10) (0 + 81) (0 + 13) s81 sL m, p82 (d + 9) _ s81 m, lt_cR_s, show m.1 (0 + 81) 4 = nI S.D from i3] at hcl
  have hv : v82 m (0 + 81) = some (151 + 68 * S.l) := v82_at i2 i5
  have hidx : (S.l + 8 - (S.D - 1 - (S.D - 1))) % 8 = S.l := by omega
  have hld : LED S.N (S.pw (S.D - 1)) (151 + 68 * S.l) T m := by
    have := i6 (S.D - 1) (by omega)
    rw [hidx] at this
    exact this
  obtain ⟨M1, hM1⟩ : ∃ M1, M1 = cpS pLL 13 (151 + 68 * S.l) m := ⟨_, rfl⟩
  have f1 : ∀ b, ¬ (13 ≤ b ∧ b < 81) → M1.1 b = m.1 b := fun b hb => by rw [hM1]; exact cp_out (by omega)
  have r1 : M1.2 = m.2 := by rw [hM1]; rfl
  have hL1 : LED S.N (S.pw (S.D - 1)) 13 T M1 := by rw [hM1]; exact cp_LED hld i11
  have hN1 : nmR 13 M1 := by rw [hM1]; exact cp_nm (i13 S.l i2) i11
  have C1 := CS_led (Nat.le_refl T) (fun b _ hb => f1 b hb) (by rw [r1]; exact ⟨rfl, rfl⟩) hL1 hN1 hC
  obtain ⟨M2, hM2⟩ : ∃ M2, M2 = lm_i (lm_i M1 81 3 (nI ((S.l + 7) % 8))) 81 4 (nI (S.D - 1)) := ⟨_, rfl⟩
  have f2 : ∀ b, b ≠ 81 → M2.1 b = M1.1 b := fun b hb => by rw [hM2, lm_i_ne hb, lm_i_ne hb]
  have r2 : M2.2 = M1.2 := by rw [hM2]; rfl
  have C2 := CS_dl (S := S.setw (S.pw (S.D - 1))) (D' := S.D - 1) (l' := (S.l + 7) % 8) (kb' := S.kb) (pw' := S.pw) (kw' := S.kw) (fun b hb _ => f2 b hb) (by rw [hM2]; exact lm_i_eq) (by rw [hM2, lm_i_ns (by omega)]; exact lm_i_eq) (by rw [hM2, lm_i_ns (by omega), lm_i_ns (by omega), f1 81 (by omega)]; exact i8) r2 (by omega) (Nat.mod_lt _ (by decide)) i7 (fun j hj => by
    have e : ((S.l + 7) % 8 + 8 - (S.D - 1 - 1 - j)) % 8 = (S.l + 8 - (S.D - 1 - j)) % 8 := by omega
    rw [e]
    have hm8 : (S.l + 8 - (S.D - 1 - j)) % 8 < 8 := Nat.mod_lt _ (by decide)
    exact LED_fr (fun b g1 g2 => f1 b (by omega)) (i6 j (by omega))) (fun hk => LED_fr (fun b g1 g2 => f1 b (by omega)) (i10 hk)) C1
  have f3 : ∀ b, 81 ≠ b → ¬ (13 ≤ b ∧ b < 81) → M2.1 b = m.1 b := fun b h1 h2 => by rw [f2 b (by omega), f1 b h2]
  refine ⟨M2, hcl.trans ?_, C2, h.2.1, rwC_eq (f3 4 (by omega) (by omega)) (f3 5 (by omega) (by omega)) h.2.2⟩
  have e83 := k83 (m := m) (d + 7) (s := 151 + 68 * S.l) (t := 13) (by omega) sL (s151_all S.l i2) (i13 S.l i2)
  rw [if_neg (by rw [sp_eq0 (by omega)]; exact c), hv, lt_nl_s]
  simp only [lt_let]
  have e83 : lt_ev (d + 10) 83 [.inr (.inr (some (0 + 13))), .inr (.inr (some (151 + 68 * S.l)))] m = some (none, M1) := by rw [hM1]; exact e83
  rw [e83, lt_cV_s]
  have e1 : M1.1 (0 + 81) 3 = nI S.l := by rw [f1 (0 + 81) (by omega)]; exact i5
  have e2 : lm_i M1 (0 + 81) 3 ((M1.1 (0 + 81) 3 + (8 : Int32) - (1 : Int32)) - (M1.1 (0 + 81) 3 + (8 : Int32) - (1 : Int32)) / (8 : Int32) * (8 : Int32)) = lm_i M1 81 3 (nI ((S.l + 7) % 8)) := by
    rw [e1, q_8, q_1, nI_add, pk_sub (by omega), pk_rem (by omega) (by decide) (by decide)]
    rfl
  rw [e2]
  have e3 : (lm_i M1 81 3 (nI ((S.l + 7) % 8))).1 (0 + 81) 4 - (1 : Int32) = nI (S.D - 1) := by
    rw [lm_i_ns (by omega), f1 (0 + 81) (by omega), show m.1 (0 + 81) 4 = nI S.D from i3, q_1, pk_sub (by omega)]
  rw [e3, show lm_i (lm_i M1 81 3 (nI ((S.l + 7) % 8))) (0 + 81) 4 (nI (S.D - 1)) = M2 from hM2.symm, lt_cI_s, if_neg (by decide)]
  rw [show M2.1 (0 + 81) 4 = nI (S.D - 1) by rw [hM2]; exact lm_i_eq]
/-- keeps -/
theorem q_keeps (d : Nat) (h : cP T S vs m) : ∃ m', lt_ev (d + 12) 169 [.inr (.inr (some 0))] m = some (some (.inl (nI (S.w 0))), m') ∧ cP T (ST.mk S.N S.w S.tx S.tk S.z S.D S.l S.pw 1 S.w) vs m' := by
  have hC := h.1
  have hC' := hC
  obtain ⟨-, -, hled, ⟨i1, i2, i3, i5, i6, i7, i8, i10⟩, i11, i12, i13⟩ := hC'
  obtain ⟨M1, hM1⟩ : ∃ M1, M1 = cpS pLL 83 13 m := ⟨_, rfl⟩
  have f1 : ∀ b, ¬ (83 ≤ b ∧ b < 151) → M1.1 b = m.1 b := fun b hb => by rw [hM1]; exact cp_out (by omega)
  have r1 : M1.2 = m.2 := by rw [hM1]; rfl
  have hL1 : LED S.N S.w 83 T M1 := by rw [hM1]; exact cp_LED hled i12
  have hN1 : nmR 83 M1 := by rw [hM1]; exact cp_nm i11 i12
  obtain ⟨M2, hM2⟩ : ∃ M2, M2 = lm_i M1 81 2 1 := ⟨_, rfl⟩
  have f2 : ∀ b, b ≠ 81 → M2.1 b = M1.1 b := fun b hb => by rw [hM2, lm_i_ne hb]
  have f3 : ∀ b, ¬ (81 ≤ b ∧ b < 151) → M2.1 b = m.1 b := fun b h1 => by rw [f2 b (by omega), f1 b (by omega)]
  have r2 : M2.2 = m.2 := by rw [hM2]; exact r1
  have C2 : CS dsD wlD T (ST.mk S.N S.w S.tx S.tk S.z S.D S.l S.pw 1 S.w) M2 := by
    obtain ⟨⟨A, B, n1, n2, n3, n4, n5, n6, n7⟩, ⟨t1, t2, t4⟩, -, -, -, -, -⟩ := hC
    have hL : ∀ L, (L + 68 ≤ 81 ∨ 151 ≤ L) → ∀ b, L ≤ b → b < L + 68 → M2.1 b = m.1 b := fun L h1 b g1 g2 => f3 b (by omega)
    have hA : ∀ b, A ≤ b → b < A + 8 → M2.1 b = m.1 b := fun b g1 g2 => f3 b (by omega)
    refine ⟨⟨A, B, by rw [r2]; exact n1, by rw [r2]; exact n2, n3, n4, nR_fr hA n5, ?_, ?_⟩, ⟨t1, ?_, fun j hj => ⟨(t4 j hj).1, ?_⟩⟩, LED_fr (hL 13 (by omega)) hled, ⟨i1, i2, ?_, ?_, fun j hj => LED_fr (hL _ (by omega)) (i6 j hj), Nat.le_refl 1, ?_, fun _ => LED_fr (fun b g1 g2 => f2 b (by omega)) hL1⟩, nmR_fr (hL 13 (by omega)) i11, nmR_fr (fun b g1 g2 => f2 b (by omega)) hN1, fun j hj => nmR_fr (hL _ (by omega)) (i13 j hj)⟩
    · rw [hA A (by omega) (by omega)]; exact n6
    · unfold wyR at n7 ⊢
      rw [hA (A + 4) (by omega) (by omega), hA (A + 6) (by omega) (by omega), hA (A + 7) (by omega) (by omega), f3 701 (by omega), f3 709 (by omega)]
      exact n7
    · rw [f3 2 (by omega)]; exact t2
    · rw [f3 3 (by omega)]; exact (t4 j hj).2
    · rw [hM2, lm_i_ns (by omega), f1 81 (by omega)]; exact i3
    · rw [hM2, lm_i_ns (by omega), f1 81 (by omega)]; exact i5
    · rw [hM2]; exact lm_i_eq
  have e13 : M2.1 (0 + 13) 4 = nI (S.w 0) := by rw [f3 (0 + 13) (by omega)]; exact hled.1.1
  refine ⟨M2, (E169 (d + 11) 0 sx m).trans ?_, C2, h.2.1, rwC_eq (f3 4 (by omega)) (f3 5 (by omega)) h.2.2⟩
  have e83 := k83 (m := m) (d + 7) (s := 13) (t := 83) (by omega) s83 sL i11
  have e83 : lt_ev (d + 10) 83 [.inr (.inr (some (0 + 81 + 2))), .inr (.inr (some (0 + 13)))] m = some (none, M1) := by rw [hM1]; exact e83
  rw [E170 (d + 10) (0 + 81) (0 + 13) s81 sL m, e83, lt_cV_s, show lm_i M1 (0 + 81) 2 1 = M2 from hM2.symm, lt_cV_s, e13]
/-- back -/
theorem q_back (d : Nat) (h : cP T S vs m) (c : S.kb = 1) : ∃ m', lt_ev (d + 12) 171 [.inr (.inr (some 0))] m = some (some (.inl (nI (S.kw 0))), m') ∧ cP T (S.rem.setw S.kw) vs m' := by
  have hC := h.1
  have hC' := hC
  obtain ⟨-, -, hled, ⟨i1, i2, i3, i5, i6, i7, i8, i10⟩, i11, i12, i13⟩ := hC'
  have hcl : lt_ev (d + 12) 171 [.inr (.inr (some 0))] m = _ := E171 (d + 11) 0 sx m
  rw [E172 (d + 10) (0 + 81) (0 + 13) s81 sL m, show m.1 (0 + 81) 2 = nI S.kb from i8] at hcl
  obtain ⟨M1, e1, C1, r1, f1⟩ := k81 hC
  have C1' := C1
  obtain ⟨-, -, -, ⟨-, -, -, -, -, -, -, p10⟩, p11, p12, p13⟩ := C1'
  have hkl : LED S.N S.kw 83 T M1 := p10 c
  obtain ⟨M2, hM2⟩ : ∃ M2, M2 = cpS pLL 13 83 M1 := ⟨_, rfl⟩
  have f2 : ∀ b, ¬ (13 ≤ b ∧ b < 81) → M2.1 b = M1.1 b := fun b hb => by rw [hM2]; exact cp_out (by omega)
  have r2 : M2.2 = M1.2 := by rw [hM2]; rfl
  have hL2 : LED S.rem.N S.kw 13 T M2 := by rw [hM2]; exact cp_LED hkl p11
  have C2 := CS_led (Nat.le_refl T) (fun b _ hb => f2 b hb) (by rw [r2]; exact ⟨rfl, rfl⟩) hL2 (by rw [hM2]; exact cp_nm p12 p11) C1
  refine ⟨M2, hcl.trans ?_, C2, h.2.1, rwC_eq (by rw [f2 4 (by omega), f1 4 (by omega)]) (by rw [f2 5 (by omega), f1 5 (by omega)]) h.2.2⟩
  have e83 := k83 (m := M1) (d + 7) (s := 83) (t := 13) (by omega) sL s83 p12
  have e83 : lt_ev (d + 10) 83 [.inr (.inr (some (0 + 13))), .inr (.inr (some (0 + 81 + 2)))] M1 = some (none, M2) := by rw [hM2]; exact e83
  have e81 : lt_ev (d + 10) 81 [.inr (.inr (some (0 + 81))), .inr (.inr (some (0 + 13)))] m = some (none, M1) := e1 (d + 6)
  have eh : M2.1 (0 + 13) 4 = nI (S.kw 0) := hL2.1.1
  rw [if_pos (by rw [sp_eq0 (by omega)]; omega), e81, lt_cV_s, e83, lt_cV_s, lt_cI_s, if_neg (by decide), eh]
end CPS

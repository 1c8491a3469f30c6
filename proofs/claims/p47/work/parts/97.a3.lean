/-! ===== controls, proves, pays, hours ===== -/
section ACT
variable {K : lk_K} {q0 : Option ts_V} {x2 x3 x5 x6 : Int32} {N0 : NT} {tr k : Nat} {S : ST} {vs : List Int32} {m : lt_m} {i : Nat}
theorem coW_o {w : Nat → Nat} {DB st j : Nat} (h1 : j < 536) (h2 : j ≠ 3) (h3 : j ≠ 19 + 26 * i) (h4 : j ≠ 24 + 26 * i) : coW w i DB st j = w j := by
  unfold coW
  rw [wnote_lo h1 h2, wset_ne h3, wset_ne h4]
theorem coW_st {w : Nat → Nat} {DB st : Nat} (hi : i < 20) : w_st (coW w i DB st) i = st := by
  show coW w i DB st (19 + 26 * i) = st
  unfold coW
  rw [wnote_lo (by omega) (by omega), wset_eq]
theorem a_controls (hI : lwI N0 tr k S) (fin : goes1301 K q0 x2 x3 x5 x6 N0 tr k S) (hk : k < 26) (h : cP (100 * k) S vs m) (hi : i < S.w 2 ∨ S.w 2 = 0 ∧ i = 0) {x13 : Int32} (hx : i < S.w 2 → x13 = nI (w_st S.w i)) (o4 : Option ts_V) (x12 : Int32) (o17 : Option ts_V) (o18 : Option ts_V) (o19 : Option ts_V) (o20 : Option ts_V) (o21 : Option ts_V) (o22 : Option ts_V) (o23 : Option ts_V) (o24 : Option ts_V) (o25 : Option ts_V) (o26 : Option ts_V) (o27 : Option ts_V) :
    rch (lt_cI (lt_ev 13 129 [.inr (.inr (some 0)), .inl (nI i), .inl (2 : Int32)] m) (fun v15 m15 => (lt_cI (lt_ev 13 129 [.inr (.inr (some 0)), .inl (nI i), .inl (4 : Int32)] m15) (fun v16 m16 => (if ¬ nI (S.w 2) = 0 then (if ¬ (x12 &&& (1 : Int32)) = 0 then (LG_968 K 13 q0 x2 x3 o4 x5 x6 (nI (S.w 2)) (nI S.D) (nI (S.w 0)) (nI (S.w 3)) (nI i) x12 x13 v15 v16 o17 o18 o19 o20 o21 o22 o23 o24 o25 o26 o27 0 (nI i) m16) else (LG_968 K 13 q0 x2 x3 o4 x5 x6 (nI (S.w 2)) (nI S.D) (nI (S.w 0)) (nI (S.w 3)) (nI i) x12 x13 v15 v16 o17 o18 o19 o20 o21 o22 o23 o24 o25 o26 o27 v15 (nI i) m16)) else (LG_968 K 13 q0 x2 x3 o4 x5 x6 (nI (S.w 2)) (nI S.D) (nI (S.w 0)) (nI (S.w 3)) (nI i) x12 x13 v15 v16 o17 o18 o19 o20 o21 o22 o23 o24 o25 o26 o27 0 (nI i) m16)))))) := by
  have hw := h.wfL
  have hN := h.wfN
  have bg := hN.2.2.1
  have h20 := hw.2.2.1
  have h8 := h.D8
  rcases hi with hi | ⟨hz, rfl⟩
  · have b7 := wf_st hw hi
    have hwm := hw.2.2.2.2.2 i hi
    have b12 : w_br S.w i ≤ 1 := hwm.2.2.2.2.2.2.2.2.2.2.2.1
    have bun : w_un S.w i ≤ 999 := hwm.2.2.2.1
    have bun1 : 1 ≤ w_un S.w i := hwm.2.2.1
    have bdu := hN.2.2.2.2.2.2.2 (w_kd S.w i) hwm.2.1
    have hm2 : ¬ nI (S.w 2) = 0 := by rw [sp_eq0 (by omega)]; omega
    have e2 : lt_ev 13 129 [.inr (.inr (some 0)), .inl (nI i), .inl (2 : Int32)] m = some (some (.inl (nI (w_un S.w i))), m) := q_mv 1 h hi (k := 2) (by omega) (by omega)
    have e4 : lt_ev 13 129 [.inr (.inr (some 0)), .inl (nI i), .inl (4 : Int32)] m = some (some (.inl (nI (w_un S.w i * S.N.2.2.2.2 (w_kd S.w i)))), m) := q_mv 1 h hi (k := 4) (by omega) (by omega)
    rw [e2, lt_cI_s, e4, lt_cI_s, if_pos hm2, hx hi]
    obtain ⟨D, hD⟩ : ∃ D, D = S.N.2.2.2.2 (w_kd S.w i) := ⟨_, rfl⟩
    rw [← hD] at bdu ⊢
    have bud : w_un S.w i * D ≤ 999 * 999 := Nat.mul_le_mul bun bdu.2
    have bud2 : w_un S.w i * D * (1 + w_br S.w i) ≤ 999 * 999 * 2 := Nat.mul_le_mul bud (by omega)
    by_cases c1 : w_st S.w i = 1
    · by_cases c : (x12 &&& (1 : Int32)) = 0
      · obtain ⟨m2, ec, h2⟩ := q_controls 1 (by omega) h hi (Nat.le_refl (w_un S.w i)) c1
        rw [Nat.sub_self, Nat.zero_mul, Nat.zero_mul] at ec h2
        rw [if_pos rfl] at h2
        have ec' : lt_ev 13 119 [.inr (.inr (some 0)), .inl (nI i), .inl (nI (w_un S.w i))] m = some (some (.inl (nI 0)), m2) := ec
        have hi2 : i < (coW S.w i 0 2) 2 := by rw [coW_o (by omega) (by omega) (by omega) (by omega)]; exact hi
        have e3 : lt_ev 13 129 [.inr (.inr (some 0)), .inl (nI i), .inl (3 : Int32)] m2 = some (some (.inl (nI (w_st (coW S.w i 0 2) i))), m2) := q_mv 1 h2 (i := i) (k := 3) hi2 (by omega) (by omega)
        rw [if_neg (fun q => q c), EG_968, ec', lt_cI_s, if_neg (by decide), EG_983, if_pos hm2, c1, if_pos (by decide), if_neg (fun q => q c), EG_1031, if_pos (by decide), if_neg (by decide), e3, lt_cI_s, if_neg (fun q => q (by decide)), coW_st (by omega), EG_1058, if_pos (by decide)]
        exact fin _ _ _ ⟨_, _, _, _, _, _, _, _, _, _, _, _, _, _, _, _, _, rfl⟩ (pst_d (by omega) hI h8 h2 (coW_o (by omega) (by omega) (by omega) (by omega)) (J_controls hw hI.2.2.1 hi (Or.inl rfl)) (by rw [coW_o (by omega) (by omega) (by omega) (by omega)]; have := hI.2.2.2; omega))
      · obtain ⟨m2, ec, h2⟩ := q_controls 1 (by omega) h hi (Nat.zero_le (w_un S.w i)) c1
        rw [Nat.sub_zero, ← hD] at ec h2
        rw [if_neg (by omega)] at h2
        obtain ⟨DB, hDB⟩ : ∃ DB, DB = w_un S.w i * D * (1 + w_br S.w i) := ⟨_, rfl⟩
        have hpos : 0 < DB := by rw [hDB]; exact Nat.mul_pos (Nat.mul_pos (by omega) (by omega)) (by omega)
        have hval : nI (w_un S.w i * D) * ((1 : Int32) + nI (w_br S.w i)) = nI DB := by rw [q_1, nI_add, pk_mul, hDB]
        rw [← hDB] at ec h2 bud2
        have ec' : lt_ev 13 119 [.inr (.inr (some 0)), .inl (nI i), .inl (0 : Int32)] m = some (some (.inl (nI DB)), m2) := ec
        have hi2 : i < (coW S.w i DB 4) 2 := by rw [coW_o (by omega) (by omega) (by omega) (by omega)]; exact hi
        have e3 : lt_ev 13 129 [.inr (.inr (some 0)), .inl (nI i), .inl (3 : Int32)] m2 = some (some (.inl (nI (w_st (coW S.w i DB 4) i))), m2) := q_mv 1 h2 (i := i) (k := 3) hi2 (by omega) (by omega)
        have e9 : lt_ev 13 129 [.inr (.inr (some 0)), .inl (nI i), .inl (9 : Int32)] m2 = some (some (.inl (nI (w_br S.w i))), m2) := by
          have := q_mv 1 h2 (i := i) (k := 9) hi2 (by omega) (by omega)
          have eb : w_br (coW S.w i DB 4) i = w_br S.w i := coW_o (by omega) (by omega) (by omega) (by omega)
          rw [← eb]
          exact this
        rw [if_pos c, EG_968, ec', lt_cI_s, if_neg (nI_pos (by omega)), EG_983, if_pos hm2, c1, if_pos (by decide), if_pos c, e9, lt_cI_s, hval, EG_1031, if_pos rfl, if_neg (by decide), e3, lt_cI_s, if_pos (by rw [sp_eq0 (by omega)]; omega), coW_st (by omega), EG_1058, if_pos (by decide)]
        exact fin _ _ _ ⟨_, _, _, _, _, _, _, _, _, _, _, _, _, _, _, _, _, rfl⟩ (pst_d (by omega) hI h8 h2 (coW_o (by omega) (by omega) (by omega) (by omega)) (J_controls hw hI.2.2.1 hi (Or.inr ⟨rfl, hpos⟩)) (by rw [coW_o (by omega) (by omega) (by omega) (by omega)]; have := hI.2.2.2; omega))
    · have h983 : rch (LG_983 K 13 q0 x2 x3 o4 x5 x6 (nI (S.w 2)) (nI S.D) (nI (S.w 0)) (nI (S.w 3)) (nI i) x12 (nI (w_st S.w i)) (nI (w_un S.w i)) (nI (w_un S.w i * D)) (-2) o18 o19 o20 o21 o22 o23 o24 o25 o26 o27 0 m) := by
        rw [EG_983, if_pos hm2]
        simp (disch := omega) only [q_1, sp_eqn]
        rw [if_neg c1, EG_1031, if_pos rfl, if_pos rfl]
        exact fin _ _ _ ⟨_, _, _, _, _, _, _, _, _, _, _, _, _, _, _, _, _, rfl⟩ (pst_n (by omega) hI h)
      by_cases c : (x12 &&& (1 : Int32)) = 0
      · have ec : lt_ev 13 119 [.inr (.inr (some 0)), .inl (nI i), .inl (nI (w_un S.w i))] m = some (some (.inl (-2)), m) := q_controlsN 1 h hi (Nat.le_refl _) c1
        rw [if_neg (fun q => q c), EG_968, ec, lt_cI_s, if_pos (by decide)]
        exact h983
      · have ec : lt_ev 13 119 [.inr (.inr (some 0)), .inl (nI i), .inl (0 : Int32)] m = some (some (.inl (-2)), m) := q_controlsN 1 h hi (Nat.zero_le _) c1
        rw [if_pos c, EG_968, ec, lt_cI_s, if_pos (by decide)]
        exact h983
  · have hm2 : ¬ ¬ nI (S.w 2) = 0 := by rw [hz]; decide
    have e2 : lt_ev 13 129 [.inr (.inr (some 0)), .inl (nI 0), .inl (2 : Int32)] m = some (some (.inl (-1)), m) := q_mv0 1 h hz _
    have e4 : lt_ev 13 129 [.inr (.inr (some 0)), .inl (nI 0), .inl (4 : Int32)] m = some (some (.inl (-1)), m) := q_mv0 1 h hz _
    have ec : lt_ev 13 119 [.inr (.inr (some 0)), .inl (nI 0), .inl (0 : Int32)] m = some (some (.inl (-1)), m) := q_controls0 1 h hz _
    rw [e2, lt_cI_s, e4, lt_cI_s, if_neg hm2, EG_968, ec, lt_cI_s, if_pos (by decide), EG_983, if_neg hm2, EG_1031, if_pos rfl, if_pos rfl]
    exact fin _ _ _ ⟨_, _, _, _, _, _, _, _, _, _, _, _, _, _, _, _, _, rfl⟩ (pst_n (by omega) hI h)
theorem a_proofs (hI : lwI N0 tr k S) (fin : goes1301 K q0 x2 x3 x5 x6 N0 tr k S) (hk : k < 26) (h : cP (100 * k) S vs m) (hi : i < S.w 2 ∨ S.w 2 = 0 ∧ i = 0) {x13 : Int32} (hx : i < S.w 2 → x13 = nI (w_st S.w i)) (o4 : Option ts_V) (x12 : Int32) (o15 : Option ts_V) (o16 : Option ts_V) (o17 : Option ts_V) (o18 : Option ts_V) (o19 : Option ts_V) (o20 : Option ts_V) (o21 : Option ts_V) (o22 : Option ts_V) (o23 : Option ts_V) (o24 : Option ts_V) (o25 : Option ts_V) (o26 : Option ts_V) (o27 : Option ts_V) :
    rch (if ¬ (x12 &&& (1 : Int32)) = 0 then (lt_cI (lt_ev 13 123 [.inr (.inr (some 0)), .inl (nI i)] m) (fun v19 m19 => (LG_1085 K 13 q0 x2 x3 o4 x5 x6 (nI (S.w 2)) (nI S.D) (nI (S.w 0)) (nI (S.w 3)) (nI i) x12 x13 o15 o16 o17 o18 o19 o20 o21 o22 o23 o24 o25 o26 o27 v19 m19))) else (lt_cI (lt_ev 13 121 [.inr (.inr (some 0)), .inl (nI i)] m) (fun v20 m20 => (LG_1085 K 13 q0 x2 x3 o4 x5 x6 (nI (S.w 2)) (nI S.D) (nI (S.w 0)) (nI (S.w 3)) (nI i) x12 x13 o15 o16 o17 o18 o19 o20 o21 o22 o23 o24 o25 o26 o27 v20 m20)))) := by
  have hw := h.wfL
  have h20 := hw.2.2.1
  have h8 := h.D8
  rcases hi with hi | ⟨hz, rfl⟩
  · have b7 := wf_st hw hi
    have hwm := hw.2.2.2.2.2 i hi
    have b12 : w_br S.w i ≤ 1 := hwm.2.2.2.2.2.2.2.2.2.2.2.1
    have bdb : w_db S.w i ≤ 2000000 := hwm.2.2.2.2.2.2.2.2.2.2.2.2.1.1
    have btm := hwm.2.2.2.2.2.2.1
    have b0 := hw.1
    have hm2 : ¬ nI (S.w 2) = 0 := by rw [sp_eq0 (by omega)]; omega
    rw [hx hi]
    by_cases c : (x12 &&& (1 : Int32)) = 0
    · rw [if_neg (fun q => q c)]
      by_cases cp : w_st S.w i = 3 ∧ w_br S.w i = 0
      · obtain ⟨m2, e2, h2⟩ := q_proves 1 (by omega) h hi cp.1 cp.2
        have e2' : lt_ev 13 121 [.inr (.inr (some 0)), .inl (nI i)] m = some (some (.inl (nI ((S.w 0 - w_tm S.w i) / 24))), m2) := e2
        have hlo : ∀ j, j < 536 → j ≠ 3 → j ≠ 19 + 26 * i → wnote (wset S.w (19 + 26 * i) 2) 3 i (S.w 0) j = S.w j := fun j j1 j2 j3 => (wnote_lo j1 j2).trans (wset_ne j3)
        have hi2 : i < (S.rem.setw (wnote (wset S.w (19 + 26 * i) 2) 3 i (S.w 0))).w 2 := by show i < wnote _ _ _ _ 2; rw [hlo 2 (by omega) (by omega) (by omega)]; exact hi
        have e3 : lt_ev 13 129 [.inr (.inr (some 0)), .inl (nI i), .inl (3 : Int32)] m2 = some (some (.inl (nI 2)), m2) := by
          have := q_mv 1 h2 (i := i) (k := 3) hi2 (by omega) (by omega)
          have eb : w_st (wnote (wset S.w (19 + 26 * i) 2) 3 i (S.w 0)) i = 2 := (wnote_lo (by omega) (by omega)).trans wset_eq
          rw [← eb]
          exact this
        have e9 : lt_ev 13 129 [.inr (.inr (some 0)), .inl (nI i), .inl (9 : Int32)] m2 = some (some (.inl (nI 0)), m2) := by
          have := q_mv 1 h2 (i := i) (k := 9) hi2 (by omega) (by omega)
          have eb : w_br (wnote (wset S.w (19 + 26 * i) 2) 3 i (S.w 0)) i = 0 := (hlo _ (by omega) (by omega) (by omega)).trans cp.2
          exact this.trans (congrArg (fun z => some (some (Sum.inl (nI z)), m2)) eb)
        have hd := Nat.div_le_self (S.w 0 - w_tm S.w i) 24
        rw [e2', lt_cI_s, EG_1085, if_neg (nI_pos (by omega)), EG_1097, if_pos hm2, if_neg (fun q => q c), if_neg (nI_pos (by omega)), EG_1130, cp.1, if_neg (fun q => q (by decide)), e9, lt_cI_s, if_neg (fun q => q (by decide)), EG_1152, if_pos rfl, EG_1184, if_neg (by decide), e3, lt_cI_s, if_neg (fun q => q c), EG_1208, if_pos (by decide)]
        exact fin _ _ _ ⟨_, _, _, _, _, _, _, _, _, _, _, _, _, _, _, _, _, rfl⟩ (pst_d (by omega) hI h8 h2 (hlo _ (by omega) (by omega) (by omega)) (J_proves hw hI.2.2.1 hi) (by rw [hlo _ (by omega) (by omega) (by omega)]; have := hI.2.2.2; omega))
      · obtain ⟨v, hv, e2⟩ := q_provesN 1 h hi cp
        have e2' : lt_ev 13 121 [.inr (.inr (some 0)), .inl (nI i)] m = some (some (.inl v), m) := e2
        have e9 : lt_ev 13 129 [.inr (.inr (some 0)), .inl (nI i), .inl (9 : Int32)] m = some (some (.inl (nI (w_br S.w i))), m) := q_mv 1 h hi (k := 9) (by omega) (by omega)
        have h1184 : rch (LG_1184 K 13 q0 x2 x3 o4 x5 x6 (nI (S.w 2)) (nI S.D) (nI (S.w 0)) (nI (S.w 3)) (nI i) x12 (nI (w_st S.w i)) 0 v o16 o17 o18 o19 o20 o21 o22 o23 o24 o25 o26 o27 m) := by
          rw [EG_1184, if_pos rfl]
          exact fin _ _ _ ⟨_, _, _, _, _, _, _, _, _, _, _, _, _, _, _, _, _, rfl⟩ (pst_n (by omega) hI h)
        rw [e2', lt_cI_s, EG_1085, if_pos hv, EG_1097, if_pos hm2, if_neg (fun q => q c), if_pos hv, EG_1130]
        simp (disch := omega) only [q_3, sp_eqn]
        by_cases c3 : w_st S.w i = 3
        · rw [if_neg (fun q => q c3), e9, lt_cI_s, if_pos (by rw [sp_eq0 (by omega)]; omega), EG_1152, if_pos rfl]
          exact h1184
        · rw [if_pos c3, EG_1152, if_pos rfl]
          exact h1184
    · rw [if_pos c]
      by_cases cp : w_st S.w i = 4
      · have hdb : 0 < w_db S.w i := (hI.2.2.1 i hi).2.2 (by omega)
        obtain ⟨m2, e2, h2⟩ := q_pays 1 (by omega) h hi cp
        have e2' : lt_ev 13 123 [.inr (.inr (some 0)), .inl (nI i)] m = some (some (.inl (nI (w_db S.w i))), m2) := e2
        have hlo : ∀ j, j < 536 → j ≠ 3 → j ≠ 19 + 26 * i → wnote (wset S.w (19 + 26 * i) 5) 6 i (S.w 0) j = S.w j := fun j j1 j2 j3 => (wnote_lo j1 j2).trans (wset_ne j3)
        have hi2 : i < (S.rem.setw (wnote (wset S.w (19 + 26 * i) 5) 6 i (S.w 0))).w 2 := by show i < wnote _ _ _ _ 2; rw [hlo 2 (by omega) (by omega) (by omega)]; exact hi
        have e3 : lt_ev 13 129 [.inr (.inr (some 0)), .inl (nI i), .inl (3 : Int32)] m2 = some (some (.inl (nI 5)), m2) := by
          have := q_mv 1 h2 (i := i) (k := 3) hi2 (by omega) (by omega)
          have eb : w_st (wnote (wset S.w (19 + 26 * i) 5) 6 i (S.w 0)) i = 5 := (wnote_lo (by omega) (by omega)).trans wset_eq
          rw [← eb]
          exact this
        rw [e2', lt_cI_s, EG_1085, if_neg (nI_pos (by omega)), EG_1097, if_pos hm2, if_pos c, if_neg (by rw [sp_le0 (by omega)]; omega), EG_1168, cp, if_neg (fun q => q (by decide)), EG_1179, if_pos rfl, EG_1184, if_neg (by decide), e3, lt_cI_s, if_pos c, EG_1208, if_pos (by decide)]
        exact fin _ _ _ ⟨_, _, _, _, _, _, _, _, _, _, _, _, _, _, _, _, _, rfl⟩ (pst_d (by omega) hI h8 h2 (hlo _ (by omega) (by omega) (by omega)) (J_pays hw hI.2.2.1 hi cp) (by rw [hlo _ (by omega) (by omega) (by omega)]; have := hI.2.2.2; omega))
      · have e2 : lt_ev 13 123 [.inr (.inr (some 0)), .inl (nI i)] m = some (some (.inl (-2)), m) := q_paysN 1 h hi cp
        rw [e2, lt_cI_s, EG_1085, if_pos (by decide), EG_1097, if_pos hm2, if_pos c, if_pos (by decide), EG_1168]
        simp (disch := omega) only [q_4, sp_eqn]
        rw [if_pos cp, EG_1179, if_pos rfl, EG_1184, if_pos rfl]
        exact fin _ _ _ ⟨_, _, _, _, _, _, _, _, _, _, _, _, _, _, _, _, _, rfl⟩ (pst_n (by omega) hI h)
  · have hm2 : ¬ ¬ nI (S.w 2) = 0 := by rw [hz]; decide
    have e2 : lt_ev 13 123 [.inr (.inr (some 0)), .inl (nI 0)] m = some (some (.inl (-1)), m) := q_pays0 1 h hz
    have e3 : lt_ev 13 121 [.inr (.inr (some 0)), .inl (nI 0)] m = some (some (.inl (-1)), m) := q_proves0 1 h hz
    by_cases c : (x12 &&& (1 : Int32)) = 0
    · rw [if_neg (fun q => q c), e3, lt_cI_s, EG_1085, if_pos (by decide), EG_1097, if_neg hm2, if_pos rfl, EG_1184, if_pos rfl]
      exact fin _ _ _ ⟨_, _, _, _, _, _, _, _, _, _, _, _, _, _, _, _, _, rfl⟩ (pst_n (by omega) hI h)
    · rw [if_pos c, e2, lt_cI_s, EG_1085, if_pos (by decide), EG_1097, if_neg hm2, if_pos rfl, EG_1184, if_pos rfl]
      exact fin _ _ _ ⟨_, _, _, _, _, _, _, _, _, _, _, _, _, _, _, _, _, rfl⟩ (pst_n (by omega) hI h)
theorem nI_sub {a b : Nat} : nI a &&& (nI b ^^^ (-1 : Int32)) = nI (a &&& (a ^^^ b)) := by
  rw [← sp_andN, ← sp_xorN]
  apply Int32.toBitVec_inj.mp
  refine BitVec.eq_of_getLsbD_eq fun i hi => ?_
  have hm : (-1 : Int32).toBitVec.getLsbD i = true := by
    have : (-1 : Int32).toBitVec = BitVec.allOnes 32 := by decide
    rw [this, BitVec.getLsbD_allOnes]
    exact decide_eq_true hi
  simp only [Int32.toBitVec_and, Int32.toBitVec_xor, BitVec.getLsbD_and, BitVec.getLsbD_xor, hm]
  cases (nI a).toBitVec.getLsbD i <;> cases (nI b).toBitVec.getLsbD i <;> rfl
theorem hr_bits {N : NT} {w : Nat → Nat} (hw : wfL N w) {n : Nat} (h9 : w 0 + n ≤ 99999) : (bitsN (fun i => decide (w_st w i = 0)) (w 2) &&& (bitsN (fun i => decide (w_st w i = 0)) (w 2) ^^^ bitsN (fun i => decide (w_st (hrW N w n) i = 0)) (w 2))) ||| (bitsN (fun i => decide (w_st w i = 3)) (w 2) &&& (bitsN (fun i => decide (w_st w i = 3)) (w 2) ^^^ bitsN (fun i => decide (w_st (hrW N w n) i = 3)) (w 2))) = (itW N (w 0 + n) 40 w).2 := by
  have hE := hrW_evo hw h9
  have h20 := hw.2.2.1
  obtain ⟨-, hs⟩ := itW_sem (N := N) (u := w 0 + n) (by omega) 40 w h20
  have hlt := itW_lt (N := N) (u := w 0 + n) 40 w
  have est : ∀ i, w_st (hrW N w n) i = w_st (itW N (w 0 + n) 40 w).1 i := fun i => wset_ne (by omega)
  refine Nat.eq_of_testBit_eq fun i => ?_
  rw [Nat.testBit_or, Nat.testBit_and, Nat.testBit_and, Nat.testBit_xor, Nat.testBit_xor, bitsN_tb, bitsN_tb, bitsN_tb, bitsN_tb, est]
  by_cases c : i < w 2
  · obtain ⟨-, s2⟩ := hs i (by omega)
    have hv := hE.2.2 i c
    simp only [c, decide_true, Bool.true_and]
    cases hb : (itW N (w 0 + n) 40 w).2.testBit i with
    | true =>
      have q := s2.mp hb
      rcases hv with ⟨a, -⟩ | ⟨a, b, -⟩ | ⟨a, b, -⟩
      · exact absurd a q
      · simp [a, b]
      · rcases a with a | a <;> simp [a, b]
    | false =>
      have q : w_st (itW N (w 0 + n) 40 w).1 i = w_st w i := Classical.byContradiction fun q => by rw [s2.mpr q] at hb; cases hb
      rw [q]
      simp
  · simp only [c, decide_false, Bool.false_and]
    by_cases c2 : i < 20
    · obtain ⟨-, s2⟩ := hs i c2
      have q : w_st (itW N (w 0 + n) 40 w).1 i = w_st w i := hE.1 _ (by omega) (by omega) (fun j hj => by omega)
      cases hb : (itW N (w 0 + n) 40 w).2.testBit i with
      | true => exact absurd q (s2.mp hb)
      | false => rfl
    · rw [Nat.testBit_lt_two_pow (Nat.lt_of_lt_of_le hlt (Nat.pow_le_pow_right (by decide) (by omega)))]
      rfl
theorem hr_sub {N : NT} {w : Nat → Nat} (hw : wfL N w) {n : Nat} (h9 : w 0 + n ≤ 99999) : bitsN (fun i => decide (w_st (hrW N w n) i = 0)) (w 2) &&& bitsN (fun i => decide (w_st w i = 0)) (w 2) = bitsN (fun i => decide (w_st (hrW N w n) i = 0)) (w 2) := by
  have hE := hrW_evo hw h9
  have est : ∀ i, w_st (hrW N w n) i = w_st (itW N (w 0 + n) 40 w).1 i := fun i => wset_ne (by omega)
  refine Nat.eq_of_testBit_eq fun i => ?_
  rw [Nat.testBit_and, bitsN_tb, bitsN_tb, est]
  by_cases c : i < w 2
  · simp only [c, decide_true, Bool.true_and]
    rcases hE.2.2 i c with ⟨a, -⟩ | ⟨a, b, -⟩ | ⟨a, b, -⟩
    · rw [a]; simp
    · simp [b]
    · simp [b]
  · simp [c]
theorem a_hours (hI : lwI N0 tr k S) (fin : goes1301 K q0 x2 x3 x5 x6 N0 tr k S) (hk : k < 26) (h : cP (100 * k) S vs m) {n : Nat} (hn : n ≤ 63) {x12 : Int32} (hx : x12 = nI n) (x11 x13 : Int32) (o4 o20 o21 o22 o23 o24 o25 o26 o27 : Option ts_V) :
    rch (lt_cI (lt_ev 13 137 [.inr (.inr (some 0)), .inl (0 : Int32)] m) (fun v21 m21 => (lt_cI (lt_ev 13 137 [.inr (.inr (some 0)), .inl (3 : Int32)] m21) (fun v22 m22 => (lt_cI (lt_ev 13 124 [.inr (.inr (some 0)), .inl ((1 : Int32) + x12)] m22) (fun v23 m23 => (lt_cI (lt_ev 13 137 [.inr (.inr (some 0)), .inl (0 : Int32)] m23) (fun v24 m24 => (lt_cI (lt_ev 13 137 [.inr (.inr (some 0)), .inl (3 : Int32)] m24) (fun v25 m25 => (lt_cI (lt_ev 13 60 [.inl ((v21 &&& (v24 ^^^ (-1 : Int32))) ||| (v22 &&& (v25 ^^^ (-1 : Int32))))] m25) (fun v26 m26 => (if ¬ v23 = v26 then (some (some (.inl (0 : Int32)), m26)) else (if ¬ (v24 &&& (v21 ^^^ (-1 : Int32))) = 0 then (some (some (.inl (0 : Int32)), m26)) else (lt_cI (lt_ev 13 173 [.inr (.inr (some 0)), .inl (0 : Int32)] m26) (fun v27 m27 => (if v27 = ((nI (S.w 0) + (1 : Int32)) + x12) then (K 1301 [q0, some (.inr (.inr (some 0))), some (.inl x2), some (.inl x3), o4, some (.inl x5), some (.inl x6), some (.inl (nI (S.w 2))), some (.inl (nI S.D)), some (.inl (nI (S.w 0))), some (.inl (nI (S.w 3))), some (.inl x11), some (.inl x12), some (.inl x13), some (.inl (1 : Int32)), some (.inl v21), some (.inl v22), some (.inl v23), some (.inl v24), some (.inl v25), o20, o21, o22, o23, o24, o25, o26, o27] [] m27) else (some (some (.inl (0 : Int32)), m27))))))))))))))))))) := by
  have hw := h.wfL
  have hN := h.wfN
  have h20 := hw.2.2.1
  have h8 := h.D8
  have h0 := hI.2.2.2
  have h9 : S.w 0 + (1 + n) ≤ 99999 := by omega
  obtain ⟨m1, e1, h1⟩ := q_states 1 h (t := 0) (by omega)
  obtain ⟨m2, e2, h2⟩ := q_states 1 h1 (t := 3) (by omega)
  obtain ⟨m3, e3, h3⟩ := q_hours 1 (by omega) h2 (n := 1 + n) (by omega) (by omega) h9
  obtain ⟨m4, e4, h4⟩ := q_states 1 h3 (t := 0) (by omega)
  obtain ⟨m5, e5, h5⟩ := q_states 1 h4 (t := 3) (by omega)
  obtain ⟨w', hw'⟩ : ∃ w', w' = hrW S.N S.w (1 + n) := ⟨_, rfl⟩
  have hE := hrW_evo hw h9
  have ew2 : w' 2 = S.w 2 := by
    rw [hw']
    exact (show wset _ 0 _ 2 = _ from wset_ne (by omega)).trans (evo_at hE (by omega))
  have ew1 : w' 1 = S.w 1 := by
    rw [hw']
    exact (show wset _ 0 _ 1 = _ from wset_ne (by omega)).trans (evo_at hE (by omega))
  have ew0 : w' 0 = S.w 0 + (1 + n) := by rw [hw']; exact wset_eq
  have hb := hr_bits hw h9
  have hsb := hr_sub hw h9
  rw [← hw'] at h3 h4 h5 e4 e5 hb hsb
  have e1' : lt_ev 13 137 [.inr (.inr (some 0)), .inl (0 : Int32)] m = some (some (.inl (nI (bitsN (fun i => decide (w_st S.w i = 0)) (S.w 2)))), m1) := e1
  have e2' : lt_ev 13 137 [.inr (.inr (some 0)), .inl (3 : Int32)] m1 = some (some (.inl (nI (bitsN (fun i => decide (w_st S.w i = 3)) (S.w 2)))), m2) := e2
  have e3' : lt_ev 13 124 [.inr (.inr (some 0)), .inl (nI (1 + n))] m2 = some (some (.inl (nI (pcN (itW S.N (S.w 0 + (1 + n)) 40 S.w).2 24))), m3) := e3
  have e4' : lt_ev 13 137 [.inr (.inr (some 0)), .inl (0 : Int32)] m3 = some (some (.inl (nI (bitsN (fun i => decide (w_st w' i = 0)) (S.w 2)))), m4) := by rw [← ew2]; exact e4
  have e5' : lt_ev 13 137 [.inr (.inr (some 0)), .inl (3 : Int32)] m4 = some (some (.inl (nI (bitsN (fun i => decide (w_st w' i = 3)) (S.w 2)))), m5) := by rw [← ew2]; exact e5
  have hlt := itW_lt (N := S.N) (u := S.w 0 + (1 + n)) 40 S.w
  have e60 := k60 12 (v := (itW S.N (S.w 0 + (1 + n)) 40 S.w).2) (Nat.lt_of_lt_of_le hlt (by decide)) m5
  have e60' : lt_ev 13 60 [.inl (nI (itW S.N (S.w 0 + (1 + n)) 40 S.w).2)] m5 = some (some (.inl (nI (pcN (itW S.N (S.w 0 + (1 + n)) 40 S.w).2 24))), m5) := e60
  have ec : lt_ev 13 173 [.inr (.inr (some 0)), .inl (0 : Int32)] m5 = some (some (.inl (nI (S.w 0 + (1 + n)))), m5) := by rw [← ew0]; exact n0 h5
  have hor : ((nI (bitsN (fun i => decide (w_st S.w i = 0)) (S.w 2)) &&& (nI (bitsN (fun i => decide (w_st w' i = 0)) (S.w 2)) ^^^ (-1 : Int32))) ||| (nI (bitsN (fun i => decide (w_st S.w i = 3)) (S.w 2)) &&& (nI (bitsN (fun i => decide (w_st w' i = 3)) (S.w 2)) ^^^ (-1 : Int32)))) = nI (itW S.N (S.w 0 + (1 + n)) 40 S.w).2 := by
    rw [nI_sub, nI_sub, sp_orN, hb]
  have h1n : (1 : Int32) + x12 = nI (1 + n) := by rw [hx, q_1, nI_add]
  have h2n : (nI (S.w 0) + (1 : Int32)) + x12 = nI (S.w 0 + (1 + n)) := by rw [hx, nI_1, nI_add, Nat.add_assoc]
  rw [e1', lt_cI_s, e2', lt_cI_s, h1n, e3', lt_cI_s, e4', lt_cI_s, e5', lt_cI_s, hor, e60', lt_cI_s, if_neg (fun q => q rfl), nI_andn hsb, if_neg (fun q => q rfl), ec, lt_cI_s, h2n, if_pos rfl]
  exact fin _ _ _ ⟨_, _, _, _, _, _, _, _, _, _, _, _, _, _, _, _, _, rfl⟩ (pst_d (by omega) hI h8 h5 ew1 (by rw [hw']; exact J_hours hN hw hI.2.2.1 h9) (by rw [ew0]; omega))
end ACT

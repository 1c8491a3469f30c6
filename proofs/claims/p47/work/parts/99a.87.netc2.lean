/-! ===== the constructor of a NET runs ===== -/
theorem fl_G {m : lt_m} {b j : Nat} (h0 : b ≠ 0) (h1 : b ≠ 12) : (ts_fl m).2.2.1 b j = ts_G b j := by
  show (if b = 0 ∧ j = 7 then _ else if b = 0 ∧ j = 8 then _ else if b = 12 ∧ j = 0 then _ else ts_G b j) = _
  rw [if_neg (fun q => h0 q.1), if_neg (fun q => h0 q.1), if_neg (fun q => h1 q.1)]
theorem c11 {A : Nat} {M : ts_M} (hA : ts_sh A = (0, 5)) (h13 : 13 ≤ A) (hN : A + 8 ≤ 711) (hn : M.2.2.2 = A) : ∃ M2, (∀ d, ts_ev (d + 6) 11 [.inr (.inr (some A))] (ts_new M) = some (none, M2)) ∧ M2.2.2.2 = A + 8 ∧ (∀ b, b < A → ∀ j, M2.1 b j = M.1 b j ∧ M2.2.2.1 b j = M.2.2.1 b j) ∧ (∀ b, A ≤ b → b < A + 8 → ∀ j, M2.2.2.1 b j = ts_G b j) ∧ ∀ m2 : lt_m, (∀ b, A ≤ b → b < A + 8 → m2.1 b = M2.1 b) → nR N00 A m2 ∧ AR N00 A (dsN N00.2.2.1 N00.1) m2 ∧ CT A (wtx N00) m2 ∧ m2.1 A 7 = 0 := by
  have t1 : ts_sh (A + 1) = (1, 12) := sf_of hA 0 (by decide) (by decide)
  have t2 : ts_sh (A + 2) = (1, 6) := sf_of hA 1 (by decide) (by decide)
  have t3 : ts_sh (A + 3) = (1, 144) := sf_of hA 2 (by decide) (by decide)
  have t4 : ts_sh (A + 4) = (1, 144) := sf_of hA 3 (by decide) (by decide)
  have t5 : ts_sh (A + 5) = (1, 12) := sf_of hA 4 (by decide) (by decide)
  have t6 : ts_sh (A + 6) = (0, 10) := sf_of hA 5 (by decide) (by decide)
  have t7 : ts_sh (A + 7) = (1, 200) := sf_of t6 0 (by decide) (by decide)
  obtain ⟨M5, hM5⟩ : ∃ M5, M5 = ntT A M := ⟨_, rfl⟩
  have c5 : M5.2.2.2 = A + 8 := by rw [hM5]; exact ntT_n hn
  have i5 : ∀ b, A ≤ b → b < A + 8 → ∀ j, M5.1 b j = if b = A ∧ j = 6 then nI 2 else 0 := by rw [hM5]; exact ntT_i hn
  have g5 : ∀ b, A ≤ b → b < A + 8 → ∀ j, M5.2.2.1 b j = ts_G b j := by rw [hM5]; exact ntT_G hn hA
  have r5 : ∀ b, A ≤ b → b < A + 8 → ∀ j, M5.2.2.1 b j = if b = A ∧ j < 6 then some (A + (j + 1)) else if b = A + 6 ∧ j = 0 then some (A + 7) else none := by rw [hM5]; exact ntT_r hn
  obtain ⟨m, hm⟩ : ∃ m : lt_m, m = (M5.1, M5.2.1, 695, 703, none) := ⟨_, rfl⟩
  have m1 : m.1 = M5.1 := by rw [hm]
  have hGl : lc_g A (A + 8) M5 (ts_fl m) = M5 := by
    refine Prod.ext (funext fun b => funext fun j => ?_) (Prod.ext (funext fun b => funext fun j => ?_) (Prod.ext (funext fun b => funext fun j => ?_) rfl))
    · show (if A ≤ b ∧ b < A + 8 then m.1 b j else M5.1 b j) = M5.1 b j
      rw [m1]; split <;> rfl
    · show (if A ≤ b ∧ b < A + 8 then m.2.1 b j else M5.2.1 b j) = M5.2.1 b j
      rw [show m.2.1 = M5.2.1 by rw [hm]]; split <;> rfl
    · show (if A ≤ b ∧ b < A + 8 then (ts_fl m).2.2.1 b j else M5.2.2.1 b j) = M5.2.2.1 b j
      split
      · next h => rw [fl_G (by omega) (by omega), g5 b h.1 h.2 j]
      · rfl
  have hlm : ∀ m' : lt_m, lc_m A (A + 8) (ts_fl m') := fun m' b b1 b2 k q hq => by
    rw [fl_G (by omega) (by omega), ← g5 b b1 b2 k, r5 b b1 b2 k] at hq
    split at hq
    · next h => cases hq; omega
    · split at hq
      · cases hq; omega
      · cases hq
  have hnR : nR N00 A m := by
    refine ⟨by rw [m1, i5 A (by omega) (by omega), if_pos ⟨rfl, rfl⟩]; rfl, by rw [m1, i5 A (by omega) (by omega), if_neg (by omega)]; rfl, fun o ho => by rw [m1, i5 (A + 1) (by omega) (by omega), if_neg (by omega)]; rfl, fun g hg => absurd hg (Nat.not_lt_zero g), fun a b ha hb => by rw [m1, i5 (A + 3) (by omega) (by omega), if_neg (by omega)]; rfl, fun a ha => ?_⟩
    have hb : bitsN (fun b => decide (0 < N00.2.2.1 a b)) N00.1 = 0 := bits_0 _ (fun i _ => decide_eq_false (Nat.lt_irrefl 0))
    rw [m1, i5 (A + 5) (by omega) (by omega), if_neg (by omega), hb]
    rfl
  obtain ⟨m', e1, a1, f1, q1⟩ := k12 hA wfN_00 hnR
  have hnR' : nR N00 A m' := nR_4 f1 hnR
  have h6' : m'.1 (A + 6) 1 = nI 0 := by rw [f1 (A + 6) (by omega), m1, i5 (A + 6) (by omega) (by omega), if_neg (by omega)]; rfl
  obtain ⟨m'', e2, a2, f2⟩ := k19 hA wfN_00 hnR' (s := 0) (Nat.zero_le _) h6' (by rw [wtx_00]; decide)
  have hnR'' : nR N00 A m'' := nR_a f2 hnR'
  have hle : A + 8 ≤ M5.2.2.2 := by rw [c5]; exact Nat.le_refl _
  have in1 : lc_s A (A + 8) [.inr (.inr (some A))] := ⟨⟨Nat.le_refl _, by omega⟩, trivial⟩
  obtain ⟨M6, hM6⟩ : ∃ M6, M6 = lc_g A (A + 8) M5 (ts_fl m') := ⟨_, rfl⟩
  obtain ⟨M7, hM7⟩ : ∃ M7, M7 = lc_g A (A + 8) M5 (ts_fl m'') := ⟨_, rfl⟩
  have ev12 : ∀ d, ts_ev (d + 5) 12 [.inr (.inr (some A))] M5 = some (none, M6) := fun d => by
    have e := e1 (d + 2)
    have hx : ts_ev (d + 5) 12 [.inr (.inr (some A))] (ts_fl m) = some (none, ts_fl m') := by
      rw [lt_ev_fl (ts_ni_of ca_5_38 (by decide)), e]; rfl
    have := (lc_ev hle (d + 5) 12 _ _ _ _ (ts_ni_of ca_5_38 (by decide)) in1 (hlm m) hx).1
    rw [hGl] at this
    rw [hM6]
    exact this
  have ev19 : ∀ d, ts_ev (d + 5) 19 [.inr (.inr (some A))] M6 = some (none, M7) := fun d => by
    have e := e2 d
    have hx : ts_ev (d + 5) 19 [.inr (.inr (some A))] (ts_fl m') = some (none, ts_fl m'') := by
      rw [lt_ev_fl (ts_ni_of ca_5_41 (by decide)), e]; rfl
    have := (lc_ev hle (d + 5) 19 _ _ _ _ (ts_ni_of ca_5_41 (by decide)) in1 (hlm m') hx).1
    rw [hM6, hM7]
    exact this
  have c6 : M6.2.2.2 = A + 8 := by rw [hM6]; exact c5
  have in7 : ∀ b, A ≤ b → b < A + 8 → M7.1 b = m''.1 b := fun b b1 b2 => by rw [hM7]; exact lc_gI ⟨b1, b2⟩
  refine ⟨M7, fun d => ?_, by rw [hM7]; exact c5, fun b hb j => ⟨?_, ?_⟩, fun b b1 b2 j => ?_, fun m2 h2 => ⟨?_, fun a b ha hb => ?_, ⟨?_, fun j v hj => ?_⟩, ?_⟩⟩
  · refine cs_ev hYC11 (Nat.le_of_ble_eq_true rfl) ?_
    refine (cs_aload dc11_0 rfl).trans ?_
    refine (cs_obj dc11_1 rfl (by decide +kernel) (by decide)).trans ?_
    refine (cs_aload dc11_4 rfl).trans ?_
    refine (cs_bi (v := nI 12) dc11_5 (by decide +kernel)).trans ?_
    refine (cs_newI (M := ts_new M) (k := 12) dc11_7 rfl rfl (by decide) (by simp only [wI_n, wR_n, nw_n, hn]; exact t1) (by simp only [wI_n, wR_n, nw_n, hn]; show _ < 711; omega)).trans ?_
    simp only [wI_n, wR_n, nw_n, hn]
    refine (cs_putR (c := 5) (k := 0) dc11_9 rfl (by decide +kernel) rfl hA (by simp only [wI_n, wR_n, nw_n, hn]; omega) rfl).trans ?_
    refine (cs_aload dc11_12 rfl).trans ?_
    refine (cs_bi (v := nI 6) dc11_13 (by decide +kernel)).trans ?_
    refine (cs_newI (k := 6) dc11_15 rfl rfl (by decide) (by simp only [wI_n, wR_n, nw_n, hn]; exact t2) (by simp only [wI_n, wR_n, nw_n, hn]; show _ < 711; omega)).trans ?_
    simp only [wI_n, wR_n, nw_n, hn]
    refine (cs_putR (c := 5) (k := 1) dc11_17 rfl (by decide +kernel) rfl hA (by simp only [wI_n, wR_n, nw_n, hn]; omega) rfl).trans ?_
    refine (cs_aload dc11_20 rfl).trans ?_
    refine (cs_si (v := nI 144) dc11_21 (by decide +kernel)).trans ?_
    refine (cs_newI (k := 144) dc11_24 rfl rfl (by decide) (by simp only [wI_n, wR_n, nw_n, hn]; exact t3) (by simp only [wI_n, wR_n, nw_n, hn]; show _ < 711; omega)).trans ?_
    simp only [wI_n, wR_n, nw_n, hn]
    refine (cs_putR (c := 5) (k := 2) dc11_26 rfl (by decide +kernel) rfl hA (by simp only [wI_n, wR_n, nw_n, hn]; omega) rfl).trans ?_
    refine (cs_aload dc11_29 rfl).trans ?_
    refine (cs_si (v := nI 144) dc11_30 (by decide +kernel)).trans ?_
    refine (cs_newI (k := 144) dc11_33 rfl rfl (by decide) (by simp only [wI_n, wR_n, nw_n, hn]; exact t4) (by simp only [wI_n, wR_n, nw_n, hn]; show _ < 711; omega)).trans ?_
    simp only [wI_n, wR_n, nw_n, hn]
    refine (cs_putR (c := 5) (k := 3) dc11_35 rfl (by decide +kernel) rfl hA (by simp only [wI_n, wR_n, nw_n, hn]; omega) rfl).trans ?_
    refine (cs_aload dc11_38 rfl).trans ?_
    refine (cs_bi (v := nI 12) dc11_39 (by decide +kernel)).trans ?_
    refine (cs_newI (k := 12) dc11_41 rfl rfl (by decide) (by simp only [wI_n, wR_n, nw_n, hn]; exact t5) (by simp only [wI_n, wR_n, nw_n, hn]; show _ < 711; omega)).trans ?_
    simp only [wI_n, wR_n, nw_n, hn]
    refine (cs_putR (c := 5) (k := 4) dc11_43 rfl (by decide +kernel) rfl hA (by simp only [wI_n, wR_n, nw_n, hn]; omega) rfl).trans ?_
    refine (cs_aload dc11_46 rfl).trans ?_
    refine (cs_new (c := 10) dc11_47 rfl (by decide +kernel) (by simp only [wI_n, wR_n, nw_n, hn]; exact t6) (by simp only [wI_n, wR_n, nw_n, hn]; show _ < 711; omega)).trans ?_
    simp only [wI_n, wR_n, nw_n, hn]
    refine (cs_dup dc11_50).trans ?_
    refine (cs_init (y := 2) (n := 0) (z := 1) dc11_51 rfl (by decide +kernel) (by decide +kernel) (by decide +kernel) rfl rfl (Nat.zero_le _) (Nat.le_of_ble_eq_true rfl) (kC2 (d + 4) t6 (by simp only [wI_n, wR_n, nw_n, hn]; omega) (by simp only [wI_n, wR_n, nw_n, hn]; exact t7) (by simp only [wI_n, wR_n, nw_n, hn]; omega))).trans ?_
    unfold kM2
    simp only [wI_n, wR_n, nw_n, hn]
    refine (cs_putR (c := 5) (k := 5) dc11_54 rfl (by decide +kernel) rfl hA (by simp only [wI_n, wR_n, nw_n, hn]; omega) rfl).trans ?_
    refine (cs_aload dc11_57 rfl).trans ?_
    refine (cs_ic (v := nI 2) dc11_58 (by decide +kernel)).trans ?_
    refine (cs_putI (c := 5) (k := 6) dc11_59 rfl (by decide +kernel) rfl hA (by simp only [wI_n, wR_n, nw_n, hn]; omega) rfl).trans ?_
    refine (cs_aload dc11_62 rfl).trans ?_
    refine Eq.trans (b := ts_run (ts_ev (d + 5)) YC11 (63, ts_l0 [.inr (.inr (some A))] YC11.2.2.1, [.inr (.inr (some A))], M5)) ?_ ?_
    · rw [hM5]; rfl
    refine (cs_call (y := 12) (n := 0) (z := 0) dc11_63 ca_5_38 (by decide +kernel) rfl rfl (by rw [show ts_cls 12 = 5 from by decide +kernel]; exact hA) (by rw [c5]; omega) (Nat.zero_le _) (Nat.le_of_ble_eq_true rfl) (ev12 d)).trans ?_
    refine (cs_aload dc11_66 rfl).trans ?_
    refine (cs_call (y := 19) (n := 0) (z := 0) dc11_67 ca_5_41 (by decide +kernel) rfl rfl (by rw [show ts_cls 19 = 5 from by decide +kernel]; exact hA) (by rw [c6]; omega) (Nat.zero_le _) (Nat.le_of_ble_eq_true rfl) (ev19 d)).trans ?_
    exact cs_ret dc11_70 rfl
  · rw [hM7]
    show (if A ≤ b ∧ b < A + 8 then m''.1 b j else M5.1 b j) = _
    rw [if_neg (by omega), hM5]
    exact (ntT_o hn b hb j).1
  · rw [hM7]
    show (if A ≤ b ∧ b < A + 8 then (ts_fl m'').2.2.1 b j else M5.2.2.1 b j) = _
    rw [if_neg (by omega), hM5]
    exact (ntT_o hn b hb j).2
  · rw [hM7]
    show (if A ≤ b ∧ b < A + 8 then (ts_fl m'').2.2.1 b j else M5.2.2.1 b j) = _
    rw [if_pos ⟨b1, b2⟩]
    exact fl_G (by omega) (by omega)
  · exact nR_fr (fun b b1 b2 => by rw [h2 b b1 b2, in7 b b1 b2]) hnR''
  · rw [h2 (A + 4) (by omega) (by omega), in7 (A + 4) (by omega) (by omega), f2.1 (A + 4) (by omega) (by omega)]
    exact a1 a b ha hb
  · rw [h2 (A + 6) (by omega) (by omega), in7 (A + 6) (by omega) (by omega)]
    exact a2.1
  · rw [h2 (A + 6 + 1) (by omega) (by omega), in7 (A + 6 + 1) (by omega) (by omega)]
    exact a2.2 j v hj
  · rw [h2 A (by omega) (by omega), in7 A (by omega) (by omega), f2.1 A (by omega) (by omega), f1 A (by omega), m1, i5 A (by omega) (by omega), if_neg (by omega)]

/-! ===== proves, pays, controls ===== -/
section CHG
variable {dist wl : DT} {T : Nat} {S : ST} {N : NT} {w : Nat → Nat} {m m' M M2 : lt_m} {vs : List Int32}
theorem RR_mono {T' : Nat} (hT : T ≤ T') (h : RR dist wl T m) : RR dist wl T' m := by
  obtain ⟨N, w, vs, hs, hl, hc, hm⟩ := h
  obtain ⟨S, rfl, rfl, hC, hM⟩ := RS_split hs
  exact ⟨S.N, S.w, vs, RS_join (CS_led (m := m) (m' := m) (w' := S.w) hT (fun b _ _ => rfl) ⟨rfl, rfl⟩ (LED_mono hT hC.2.2.1) hC.2.2.2.2.1 hC) hM, hl, hc, hm⟩
theorem OP_m {d y z T' : Nat} {as : List ts_V} (hT : T ≤ T') (v : ts_V) (hr : RR dist wl T m) (h1 : lt_ev (d + 30) y (.inr (.inr (some 0)) :: as) m = some (some v, m)) (h2 : lt_ev (d + 30) z (.inr (.inr (some 711)) :: as) m = some (some v, lm_i m 711 15 0)) : OP dist wl d T T' y z as m := ⟨v, m, _, h1, h2, RR_mono hT (RR_t0 hr)⟩
theorem MS_ml (h : MS S m) : ml S.N S.w 711 m := ⟨h.2.2.1, h.1.2.1, h.1.2.2.1, h.1.2.2.2.1, h.1.2.2.2.2.1, h.1.2.2.2.2.2.1⟩
theorem wset_id {k v : Nat} (h : w k = v) : wset w k v = w := funext fun j => by
  unfold wset
  split
  · next q => rw [q, h]
  · rfl
theorem m235 (h : ∀ k, k < 626 → m.1 712 k = nI (w k)) (hw3 : w 3 ≤ 30) {i : Nat} (hi : i < 20) (st c : Nat) : ∃ m', (∀ d, lt_ev (d + 2) 235 [.inr (.inr (some 711)), .inl (nI i), .inl (nI st), .inl (nI c)] m = some (none, m')) ∧ (∀ k, k < 626 → m'.1 712 k = nI (wnote (wset w (19 + 26 * i) st) (st + 1) i c k)) ∧ m'.2 = m.2 ∧ ∀ b, b ≠ 712 → m'.1 b = m.1 b := by
  have hrow := row_set (m := m) (k := 16 + 26 * i + 3) (v := st) h
  rw [show 16 + 26 * i + 3 = 19 + 26 * i by omega] at hrow
  obtain ⟨M5, e5, w5, r5, f5⟩ := m229 (m := lm_i m 712 (19 + 26 * i) (nI st)) (w := wset w (19 + 26 * i) st) hrow (by rw [wset_ne (by omega)]; exact hw3) (st + 1) i c
  refine ⟨M5, fun d => ?_, w5, r5, fun b hb => by rw [f5 b hb, lm_i_ne hb]⟩
  refine (E235 (d + 1) 711 _ _ _ sy m).trans ?_
  rw [show (3 : Int32) = nI 3 from rfl, m228 d hi (by omega), lt_cV_s, nI_1, show 16 + 26 * i + 3 = 19 + 26 * i by omega, e5 d, lt_cV_s]
theorem m237g (d : Nat) {a : Nat} (h0 : ts_sh a = (0, 12)) (h : ml N w a m) {i : Nat} (hi : i < 20) (hle : w_tm w i ≤ w 0) (hh : w 0 ≤ 99999) : lt_ev (d + 2) 237 [.inr (.inr (some a)), .inl (nI i)] m = some (some (.inl (nI ((w 0 - w_tm w i) / 24))), m) := by
  refine (E237 (d + 1) a _ h0 m).trans ?_
  rw [lt_gd_t (by decide), m198_tm d h0 h hi, lt_cI_s, show (0 : Int32).toNatClampNeg = 0 by decide, h.1 0 (by omega), q_24, pk_sub (by omega), pk_div (by omega) (by omega) (by omega)]
theorem op_cl (st : Nat) (h : st = 2 ∨ st = 5) {i : Nat} {P : Prop} : w_open (wset w (19 + 26 * i) st) i = true → P := by
  intro q
  unfold w_open at q
  rw [show w_st (wset w (19 + 26 * i) st) i = st from wset_eq] at q
  exfalso
  simp only [decide_eq_true_eq] at q
  omega
/-- proves -/
theorem op_proves (d : Nat) (hT : T < 2 ^ 30) (hr : RR dist wl T m) (x : Int32) : OP dist wl d T (T + 1) 121 236 [.inl x] m := by
  have hr0 := hr
  obtain ⟨N, w, vs, hs, hl, hc, hm⟩ := hr
  obtain ⟨S, rfl, rfl, hC, hM⟩ := RS_split hs
  have hw := hs.wfL
  have h20 := hw.2.2.1
  have h99 := hw.1
  have hcl := hs.cl
  rcases c114 hcl hw x with ⟨i, hi, rfl, e⟩ | ⟨hx, e⟩
  · have hq := sh_mv sL (i := i) (by omega)
    have b7 := wf_st hw hi
    have hwm := hw.2.2.2.2.2 i hi
    have b12 : w_br S.w i ≤ 1 := hwm.2.2.2.2.2.2.2.2.2.2.2.1
    obtain ⟨-, -, -, -, -, -, e7, -, -, -, e11, -⟩ := hcl.2.2.2.2.1 i hi
    have hcls : lt_ev (d + 30) 121 [.inr (.inr (some 0)), .inl (nI i)] m = _ := E121 (d + 29) 0 _ sx m
    rw [p114 (d + 27) _ _ sL m, lt_cR_s, e, lt_nl_s, lt_gd_t hq, e7, e11] at hcls
    have hmod : ∀ M : lt_m, ml S.N S.w 711 (lm_i M 711 15 0) → lt_ev (d + 30) 236 [.inr (.inr (some 711)), .inl (nI i)] M = _ := fun M h => by
      refine (E236 (d + 29) 711 _ sy M).trans ?_
      rw [m231 (d + 27) sy h hw, lt_cI_s, sp_i1 hi (by omega), if_pos (by decide), m197 (d + 27) sy h (by omega), lt_cI_s]
    by_cases c1 : w_st S.w i = 3
    · obtain ⟨k1, k2⟩ := hwm.2.2.2.2.2.2.2.2.2.2.2.2.2.2.2.2.2.2 c1
      rw [c1, if_pos (by decide)] at hcls
      by_cases c2 : w_br S.w i = 0
      · rw [c2, if_pos (by decide)] at hcls
        obtain ⟨M1, e1, C1, r1, f1⟩ := k81 hC
        have hcl1 : cl S.N S.w (0 + 13) M1 := C1.2.2.1.1
        have hmv : mvR S.N S.w i (0 + 13 + 3 + 5 + 3 * i) M1 := hcl1.2.2.2.2.1 i hi
        have hbr1 : M1.1 (0 + 13 + 3 + 5 + 3 * i) 11 = 0 := by rw [hmv.2.2.2.2.2.2.2.2.2.2.1, c2]; rfl
        obtain ⟨M3, e3, C3, r3, f3, f3'⟩ := CS_chg (S := S.rem) (w' := wset S.w (19 + 26 * i) 2) (M2 := lm_i M1 (0 + 13 + 3 + 5 + 3 * i) 7 2) C1 hT hi (fun k hk => wset_ne (by omega)) ⟨wset_ne (by omega), wset_ne (by omega), op_cl 2 (by omega)⟩ (wfM_st (by omega) (fun _ => hwm.2.2.2.2.2.2.2.2.2.2.2.2.1.2 (by omega)) hwm) (fun b b1 b2 => lm_i_ne b1) (lm_i_ns (by omega)) (Or.inl (by rw [lm_i_ns (by omega)]; exact hbr1)) rfl (mvR_st hmv) 3
        have hMs : MS S (lm_i M3 711 15 0) := MS_t0 (MS_fr (m := m) (fun b k hb _ => by rw [f3 b (by omega), f1 b (by omega)]) hM)
        obtain ⟨M4, e4, C4, r4, f4⟩ := m211 hMs hC.2.2.2.1.1
        obtain ⟨M5, e5, w5, r5, f5⟩ := m235 (m := M4) (w := S.w) C4.2.2.1 hw.2.2.2.1 (i := i) (by omega) 2 (S.w 0)
        have C5 : MS (S.rem.setw (wnote (wset S.w (19 + 26 * i) 2) 3 i (S.w 0))) M5 := MS_up (fun b k hb hne _ => by rw [f5 b hne]) w5 C4
        have f45 : ∀ b, b ≠ 711 → b ≠ 712 → b ≠ 714 → M5.1 b = M3.1 b := fun b h1 h2 h3 => by
          rw [f5 b h2]; exact funext fun k => by rw [f4 b k (by omega), lm_i_ne h1]
        have t0 : wnote (wset S.w (19 + 26 * i) 2) 3 i (S.w 0) 0 = S.w 0 := by rw [wnote_lo (by omega) (by omega), wset_ne (by omega)]
        have t5 : w_tm (wnote (wset S.w (19 + 26 * i) 2) 3 i (S.w 0)) i = w_tm S.w i := by
          show wnote _ _ _ _ (21 + 26 * i) = _
          rw [wnote_lo (by omega) (by omega), wset_ne (by omega)]
        refine OP_w (m1 := M3) (m2 := M5) (vs := vs) (.inl (nI ((S.w 0 - w_tm S.w i) / 24))) (hcls.trans ?_) C3 ⟨by rw [f3 4 (by omega), f1 4 (by omega)], by rw [f3 5 (by omega), f1 5 (by omega)], by rw [f3 711 (by omega), f1 711 (by omega)], by rw [r3, r1]⟩ ((hmod M3 (MS_ml hMs)).trans ?_) C5 (fun b hb => f45 b (by omega) (by omega) (by omega)) (by rw [f5 711 (by decide), f4 711 14 (by omega), lm_i_ns (by omega)]) (by rw [r5]; exact r4) hl hc hm
        · have e81 : lt_ev (d + 29) 81 [.inr (.inr (some (0 + 81))), .inr (.inr (some (0 + 13)))] m = some (none, M1) := e1 (d + 25)
          rw [e81, lt_cV_s, p122 (d + 28) _ _ hq M1, lt_cI_s, hcl1.1, c122 hcl1 hw hi, if_pos c1, q_3, e3 (d + 26), lt_cV_s]
        · have h00 : M4.1 (711 + 1) (0 : Int32).toNatClampNeg = nI (S.w 0) := by
            rw [show (0 : Int32).toNatClampNeg = 0 by decide]; exact C4.2.2.1 0 (by omega)
          have e7' := m198_br (d + 28) sy (MS_ml hMs) (i := i) (by omega)
          have hml5 : ml S.N (wnote (wset S.w (19 + 26 * i) 2) 3 i (S.w 0)) 711 M5 := MS_ml C5
          have e9 := m237g (d + 27) sy hml5 (i := i) (by omega) (by rw [t0, t5]; omega) (by rw [t0]; exact h99)
          rw [t0, t5] at e9
          rw [c1, if_pos (by decide), e7', lt_cI_s, c2, if_pos (by decide), e4 (d + 28), lt_cV_s, lt_gd_t (by decide), h00, q_2, e5 (d + 27), lt_cV_s, e9, lt_cI_s]
      · have c3 : w_br S.w i = 1 := by omega
        refine OP_m (Nat.le_succ T) (.inl (-3)) hr0 (hcls.trans ?_) ((hmod m hs.t0.ml).trans ?_)
        · rw [c3, if_neg (by decide)]
        · rw [c1, if_pos (by decide), m198_br (d + 28) sy hs.t0.ml (by omega), lt_cI_s, c3, if_neg (by decide)]
    · refine OP_m (Nat.le_succ T) (.inl (-2)) hr0 (hcls.trans ?_) ((hmod m hs.t0.ml).trans ?_)
      · rw [if_neg (by rw [q_3, sp_eqn (by omega) (by omega)]; exact c1)]
      · rw [if_neg (by rw [q_3, sp_eqn (by omega) (by omega)]; exact c1)]
  · refine OP_m (Nat.le_succ T) (.inl (-1)) hr0 ?_ ?_
    · refine (E121 (d + 29) 0 _ sx m).trans ?_
      rw [p114 (d + 27) _ _ sL m, lt_cR_s, e, lt_nl_n]
    · refine (E236 (d + 29) 711 _ sy m).trans ?_
      rw [m231 (d + 27) sy hs.t0.ml hw, lt_cI_s, sp_i0 (by omega) hx, if_neg (by decide)]
/-- pays -/
theorem op_pays (d : Nat) (hT : T < 2 ^ 30) (hr : RR dist wl T m) (x : Int32) : OP dist wl d T (T + 1) 123 238 [.inl x] m := by
  have hr0 := hr
  obtain ⟨N, w, vs, hs, hl, hc, hm⟩ := hr
  obtain ⟨S, rfl, rfl, hC, hM⟩ := RS_split hs
  have hw := hs.wfL
  have h20 := hw.2.2.1
  have hcl := hs.cl
  rcases c114 hcl hw x with ⟨i, hi, rfl, e⟩ | ⟨hx, e⟩
  · have hq := sh_mv sL (i := i) (by omega)
    have b7 := wf_st hw hi
    have hwm := hw.2.2.2.2.2 i hi
    have b12 : w_br S.w i ≤ 1 := hwm.2.2.2.2.2.2.2.2.2.2.2.1
    obtain ⟨-, -, -, -, -, -, e7, -⟩ := hcl.2.2.2.2.1 i hi
    have hcls : lt_ev (d + 30) 123 [.inr (.inr (some 0)), .inl (nI i)] m = _ := E123 (d + 29) 0 _ sx m
    rw [p114 (d + 27) _ _ sL m, lt_cR_s, e, lt_nl_s, lt_gd_t hq, e7] at hcls
    have hmod : ∀ M : lt_m, ml S.N S.w 711 (lm_i M 711 15 0) → lt_ev (d + 30) 238 [.inr (.inr (some 711)), .inl (nI i)] M = _ := fun M h => by
      refine (E238 (d + 29) 711 _ sy M).trans ?_
      rw [m231 (d + 27) sy h hw, lt_cI_s, sp_i1 hi (by omega), if_pos (by decide), m197 (d + 27) sy h (by omega), lt_cI_s]
    by_cases c1 : w_st S.w i = 4
    · rw [c1, if_pos (by decide)] at hcls
      obtain ⟨M1, e1, C1, r1, f1⟩ := k81 hC
      have hcl1 : cl S.N S.w (0 + 13) M1 := C1.2.2.1.1
      have hmv : mvR S.N S.w i (0 + 13 + 3 + 5 + 3 * i) M1 := hcl1.2.2.2.2.1 i hi
      have hbr1 : M1.1 (0 + 13 + 3 + 5 + 3 * i) 11 = 0 ∨ M1.1 (0 + 13 + 3 + 5 + 3 * i) 11 = 1 := by
        rw [hmv.2.2.2.2.2.2.2.2.2.2.1]
        have : w_br S.w i = 0 ∨ w_br S.w i = 1 := by omega
        rcases this with q | q
        · rw [q]; exact Or.inl rfl
        · rw [q]; exact Or.inr rfl
      obtain ⟨M3, e3, C3, r3, f3, f3'⟩ := CS_chg (S := S.rem) (w' := wset S.w (19 + 26 * i) 5) (M2 := lm_i M1 (0 + 13 + 3 + 5 + 3 * i) 7 5) C1 hT hi (fun k hk => wset_ne (by omega)) ⟨wset_ne (by omega), wset_ne (by omega), op_cl 5 (by omega)⟩ (wfM_st (by omega) (fun q => absurd q (by decide)) hwm) (fun b b1 b2 => lm_i_ne b1) (lm_i_ns (by omega)) (by rw [lm_i_ns (by omega)]; exact hbr1) rfl (mvR_st hmv) 6
      have hMs : MS S (lm_i M3 711 15 0) := MS_t0 (MS_fr (m := m) (fun b k hb _ => by rw [f3 b (by omega), f1 b (by omega)]) hM)
      obtain ⟨M4, e4, C4, r4, f4⟩ := m211 hMs hC.2.2.2.1.1
      obtain ⟨M5, e5, w5, r5, f5⟩ := m235 (m := M4) (w := S.w) C4.2.2.1 hw.2.2.2.1 (i := i) (by omega) 5 (S.w 0)
      have C5 : MS (S.rem.setw (wnote (wset S.w (19 + 26 * i) 5) 6 i (S.w 0))) M5 := MS_up (fun b k hb hne _ => by rw [f5 b hne]) w5 C4
      have f45 : ∀ b, b ≠ 711 → b ≠ 712 → b ≠ 714 → M5.1 b = M3.1 b := fun b h1 h2 h3 => by
        rw [f5 b h2]; exact funext fun k => by rw [f4 b k (by omega), lm_i_ne h1]
      have t8 : w_db (wnote (wset S.w (19 + 26 * i) 5) 6 i (S.w 0)) i = w_db S.w i := by
        show wnote _ _ _ _ (24 + 26 * i) = _
        rw [wnote_lo (by omega) (by omega), wset_ne (by omega)]
      have e10 : M3.1 (0 + 13 + 3 + 5 + 3 * i) 10 = nI (w_db S.w i) := by
        rw [f3' _ (by omega), lm_i_ns (by omega)]; exact hmv.2.2.2.2.2.2.2.2.2.1
      refine OP_w (m1 := M3) (m2 := M5) (vs := vs) (.inl (nI (w_db S.w i))) (hcls.trans ?_) C3 ⟨by rw [f3 4 (by omega), f1 4 (by omega)], by rw [f3 5 (by omega), f1 5 (by omega)], by rw [f3 711 (by omega), f1 711 (by omega)], by rw [r3, r1]⟩ ((hmod M3 (MS_ml hMs)).trans ?_) C5 (fun b hb => f45 b (by omega) (by omega) (by omega)) (by rw [f5 711 (by decide), f4 711 14 (by omega), lm_i_ns (by omega)]) (by rw [r5]; exact r4) hl hc hm
      · have e81 : lt_ev (d + 29) 81 [.inr (.inr (some (0 + 81))), .inr (.inr (some (0 + 13)))] m = some (none, M1) := e1 (d + 25)
        rw [e81, lt_cV_s, q_6, e3 (d + 26), lt_cV_s, e10]
      · have h00 : M4.1 (711 + 1) (0 : Int32).toNatClampNeg = nI (S.w 0) := by
          rw [show (0 : Int32).toNatClampNeg = 0 by decide]; exact C4.2.2.1 0 (by omega)
        have hml5 : ml S.N (wnote (wset S.w (19 + 26 * i) 5) 6 i (S.w 0)) 711 M5 := MS_ml C5
        have e9 := m198_db (d + 28) sy hml5 (i := i) (by omega)
        rw [t8] at e9
        rw [c1, if_pos (by decide), e4 (d + 28), lt_cV_s, lt_gd_t (by decide), h00, q_5, e5 (d + 27), lt_cV_s, e9, lt_cI_s]
    · refine OP_m (Nat.le_succ T) (.inl (-2)) hr0 (hcls.trans ?_) ((hmod m hs.t0.ml).trans ?_)
      · rw [if_neg (by rw [q_4, sp_eqn (by omega) (by omega)]; exact c1)]
      · rw [if_neg (by rw [q_4, sp_eqn (by omega) (by omega)]; exact c1)]
  · refine OP_m (Nat.le_succ T) (.inl (-1)) hr0 ?_ ?_
    · refine (E123 (d + 29) 0 _ sx m).trans ?_
      rw [p114 (d + 27) _ _ sL m, lt_cR_s, e, lt_nl_n]
    · refine (E238 (d + 29) 711 _ sy m).trans ?_
      rw [m231 (d + 27) sy hs.t0.ml hw, lt_cI_s, sp_i0 (by omega) hx, if_neg (by decide)]
end CHG

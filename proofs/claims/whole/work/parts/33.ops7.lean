/-! ===== controls ===== -/
theorem wset_cm {w : Nat → Nat} {k k' v v' : Nat} (h : k ≠ k') : wset (wset w k v) k' v' = wset (wset w k' v') k v := funext fun j => by
  unfold wset
  by_cases c1 : j = k'
  · rw [if_pos c1, if_neg (by omega), if_pos c1]
  · rw [if_neg c1]
    by_cases c2 : j = k
    · rw [if_pos c2, if_pos c2]
    · rw [if_neg c2, if_neg c2, if_neg c1]
section CHG
variable {dist wl : DT} {T : Nat} {S : ST} {N : NT} {w : Nat → Nat} {m m' M M2 : lt_m} {vs : List Int32}
theorem op_controls (d : Nat) (hT : T < 2 ^ 30) (hr : RR dist wl T m) (x y : Int32) : OP dist wl d T (T + 1) 119 234 [.inl x, .inl y] m := by
  have hr0 := hr
  obtain ⟨N, w, vs, hs, hl, hc, hm⟩ := hr
  obtain ⟨S, rfl, rfl, hC, hM⟩ := RS_split hs
  have hw := hs.wfL
  have hN := hs.wfN
  have bg := hN.2.2.1
  have h20 := hw.2.2.1
  have hcl := hs.cl
  rcases c114 hcl hw x with ⟨i, hi, rfl, e⟩ | ⟨hx, e⟩
  · have hq := sh_mv sL (i := i) (by omega)
    have b7 := wf_st hw hi
    have hwm := hw.2.2.2.2.2 i hi
    have b12 : w_br S.w i ≤ 1 := hwm.2.2.2.2.2.2.2.2.2.2.2.1
    have bun : w_un S.w i ≤ 999 := hwm.2.2.2.1
    have bkd : w_kd S.w i < S.N.2.1 := hwm.2.1
    have bdu := hN.2.2.2.2.2.2.2 (w_kd S.w i) bkd
    obtain ⟨-, -, e3', -, -, -, e7, -⟩ := hcl.2.2.2.2.1 i hi
    have hcls : lt_ev (d + 30) 119 [.inr (.inr (some 0)), .inl (nI i), .inl y] m = _ := E119 (d + 29) 0 _ _ sx m
    rw [p114 (d + 27) _ _ sL m, lt_cR_s, e, lt_nl_s, lt_gd_t hq, e7, e3'] at hcls
    have hmod : ∀ M : lt_m, ml S.N S.w 711 (lm_i M 711 15 0) → lt_ev (d + 30) 234 [.inr (.inr (some 711)), .inl (nI i), .inl y] M = _ := fun M h => by
      refine (E234 (d + 29) 711 _ _ sy M).trans ?_
      rw [m231 (d + 27) sy h hw, lt_cI_s, sp_i1 hi (by omega), if_neg (by decide), m198_un (d + 28) sy h (by omega), lt_cI_s]
    have hun : (nI (w_un S.w i)).toInt64.toInt = (w_un S.w i : Int) := by rw [sp_tt, nI_toInt (by omega)]
    have bad : (y < 0 ∨ nI (w_un S.w i + 1) ≤ y) → OP dist wl d T (T + 1) 119 234 [.inl (nI i), .inl y] m := fun hy => by
      refine OP_m (Nat.le_succ T) (.inl (-1)) hr0 (hcls.trans ?_) ((hmod m hs.t0.ml).trans ?_)
      · by_cases c : y < 0
        · rw [if_pos c]
        · rw [if_neg c, if_neg]
          have := hy.resolve_left c
          rw [Int32.le_iff_toInt_le, nI_toInt (by omega)] at this ⊢
          omega
      · rw [m181_f (d + 28) (n := w_un S.w i) (by omega) hy hun, lt_cI_s, if_neg (by decide)]
    rcases pk_ix y (n := w_un S.w i + 1) (by omega) with c | c | ⟨k, hk, rfl⟩
    · exact bad (Or.inl c)
    · exact bad (Or.inr c)
    · rw [if_neg (nI_pos (by omega)), if_pos (by rw [sp_len (by omega) (by omega)]; omega)] at hcls
      have hmod2 : ∀ M : lt_m, ml S.N S.w 711 (lm_i M 711 15 0) → lt_ev (d + 30) 234 [.inr (.inr (some 711)), .inl (nI i), .inl (nI k)] M = _ := fun M h => by
        refine (hmod M h).trans ?_
        rw [m181_t (d + 28) (n := w_un S.w i) (by omega) (by omega) hun, lt_cI_s, if_pos (by decide), m197 (d + 27) sy h (by omega), lt_cI_s]
      by_cases c1 : w_st S.w i = 1
      · rw [c1, if_pos (by decide)] at hcls
        have hdb0 : w_db S.w i = 0 := hwm.2.2.2.2.2.2.2.2.2.2.2.2.1.2 (by omega)
        have hop : w_open S.w i = true := by unfold w_open; rw [c1]; rfl
        obtain ⟨DB, hDB⟩ : ∃ DB, DB = (w_un S.w i - k) * S.N.2.2.2.2 (w_kd S.w i) * (1 + w_br S.w i) := ⟨_, rfl⟩
        obtain ⟨st, hst⟩ : ∃ st, st = if k = w_un S.w i then 2 else 4 := ⟨_, rfl⟩
        have bDB : DB ≤ 2000000 := by
          have h1 : (w_un S.w i - k) * S.N.2.2.2.2 (w_kd S.w i) ≤ 999 * 999 := Nat.mul_le_mul (by omega) bdu.2
          have h2 : (w_un S.w i - k) * S.N.2.2.2.2 (w_kd S.w i) * (1 + w_br S.w i) ≤ 999 * 999 * 2 := Nat.mul_le_mul h1 (by omega)
          omega
        have hz : DB = 0 ↔ k = w_un S.w i := by
          rw [hDB]
          constructor
          · intro q
            rcases Nat.mul_eq_zero.mp q with q | q
            · rcases Nat.mul_eq_zero.mp q with q | q
              · omega
              · omega
            · omega
          · intro q
            rw [q, Nat.sub_self, Nat.zero_mul, Nat.zero_mul]
        obtain ⟨M1, e1, C1, r1, f1⟩ := k81 hC
        have hcl1 : cl S.N S.w (0 + 13) M1 := C1.2.2.1.1
        have hmv : mvR S.N S.w i (0 + 13 + 3 + 5 + 3 * i) M1 := hcl1.2.2.2.2.1 i hi
        have hsA1 : ts_sh M1.2.2.1 = (0, 5) := by rw [r1]; exact hs.sA
        have hnR1 : nR S.N M1.2.2.1 M1 := by
          obtain ⟨⟨A, B, n1, -, -, -, n5, -⟩, -⟩ := C1
          rw [n1]; exact n5
        have hbr1 : M1.1 (0 + 13 + 3 + 5 + 3 * i) 11 = nI (w_br S.w i) := hmv.2.2.2.2.2.2.2.2.2.2.1
        have hbr01 : nI (w_br S.w i) = 0 ∨ nI (w_br S.w i) = 1 := by
          have : w_br S.w i = 0 ∨ w_br S.w i = 1 := by omega
          rcases this with q | q
          · rw [q]; exact Or.inl rfl
          · rw [q]; exact Or.inr rfl
        have hwf' : wfM S.N (wset (wset S.w (24 + 26 * i) DB) (19 + 26 * i) st) i := by
          refine wfM_sd ?_ bDB ?_ hwm
          · rw [hst]; split <;> omega
          · intro q
            rw [hst] at q
            by_cases c : k = w_un S.w i
            · exact hz.mpr c
            · rw [if_neg c] at q; omega
        -- the class's movement, changed
        obtain ⟨M2, hM2⟩ : ∃ M2, M2 = if k = w_un S.w i then lm_i M1 (0 + 13 + 3 + 5 + 3 * i) 7 2 else lm_i (lm_i M1 (0 + 13 + 3 + 5 + 3 * i) 7 4) (0 + 13 + 3 + 5 + 3 * i) 10 (nI DB) := ⟨_, rfl⟩
        have g1 : ∀ b, b ≠ 0 + 13 + 3 + 5 + 3 * i → M2.1 b = M1.1 b := fun b hb => by
          rw [hM2]; split
          · exact lm_i_ne hb
          · rw [lm_i_ne hb, lm_i_ne hb]
        have g2 : ∀ s, s ≠ 7 → s ≠ 10 → M2.1 (0 + 13 + 3 + 5 + 3 * i) s = M1.1 (0 + 13 + 3 + 5 + 3 * i) s := fun s s1 s2 => by
          rw [hM2]; split
          · exact lm_i_ns (by omega)
          · rw [lm_i_ns (by omega), lm_i_ns (by omega)]
        have g3 : M2.2 = M1.2 := by rw [hM2]; split <;> rfl
        have g4 : mvR S.N (wset (wset S.w (24 + 26 * i) DB) (19 + 26 * i) st) i (0 + 13 + 3 + 5 + 3 * i) M2 := by
          rw [hM2, hst]
          by_cases c : k = w_un S.w i
          · rw [if_pos c, if_pos c, wset_id (w := S.w) (hdb0.trans (hz.mpr c).symm)]
            exact mvR_st hmv
          · rw [if_neg c, if_neg c, wset_cm (by omega)]
            exact mvR_db (mvR_st hmv)
        have g5 : k ≠ w_un S.w i → M2.1 (0 + 13 + 3 + 5 + 3 * i) 10 = nI DB := fun c => by rw [hM2, if_neg c]; exact lm_i_eq
        obtain ⟨M3, e3, C3, r3, f3, f3'⟩ := CS_chg (S := S.rem) (w' := wset (wset S.w (24 + 26 * i) DB) (19 + 26 * i) st) (M2 := M2) C1 hT hi (fun k hk => (wset_ne (by omega)).trans (wset_ne (by omega))) ⟨(wset_ne (by omega)).trans (wset_ne (by omega)), (wset_ne (by omega)).trans (wset_ne (by omega)), fun _ => hop⟩ hwf' (fun b b1 b2 => g1 b b1) (g2 0 (by decide) (by decide)) (by rw [g2 11 (by decide) (by decide), hbr1]; exact hbr01) g3 g4 (st + 1)
        have hMs : MS S (lm_i M3 711 15 0) := MS_t0 (MS_fr (m := m) (fun b k hb _ => by rw [f3 b (by omega), f1 b (by omega)]) hM)
        obtain ⟨M4, e4, C4, r4, f4⟩ := m211 hMs hC.2.2.2.1.1
        have hrow := row_set (m := M4) (k := 16 + 26 * i + 8) (v := DB) C4.2.2.1
        rw [show 16 + 26 * i + 8 = 24 + 26 * i by omega] at hrow
        obtain ⟨M5, e5, w5, r5, f5⟩ := m235 (m := lm_i M4 712 (24 + 26 * i) (nI DB)) (w := wset S.w (24 + 26 * i) DB) hrow (by rw [wset_ne (by omega)]; exact hw.2.2.2.1) (i := i) (by omega) st (S.w 0)
        have C5 : MS (S.rem.setw (wnote (wset (wset S.w (24 + 26 * i) DB) (19 + 26 * i) st) (st + 1) i (S.w 0))) M5 := MS_up (fun b k hb hne _ => by rw [f5 b hne, lm_i_ne hne]) w5 C4
        have f45 : ∀ b, b ≠ 711 → b ≠ 712 → b ≠ 714 → M5.1 b = M3.1 b := fun b h1 h2 h3 => by
          rw [f5 b h2, lm_i_ne h2]; exact funext fun k => by rw [f4 b k (by omega), lm_i_ne h1]
        refine OP_w (m1 := M3) (m2 := M5) (vs := vs) (.inl (nI DB)) (hcls.trans ?_) C3 ⟨by rw [f3 4 (by omega), f1 4 (by omega)], by rw [f3 5 (by omega), f1 5 (by omega)], by rw [f3 711 (by omega), f1 711 (by omega)], by rw [r3, r1]⟩ ((hmod2 M3 (MS_ml hMs)).trans ?_) C5 (fun b hb => f45 b (by omega) (by omega) (by omega)) (by rw [f5 711 (by decide), lm_i_ne (by decide), f4 711 14 (by omega), lm_i_ns (by omega)]) (by rw [r5]; exact r4) hl hc hm
        · have e81 : lt_ev (d + 29) 81 [.inr (.inr (some (0 + 81))), .inr (.inr (some (0 + 13)))] m = some (none, M1) := e1 (d + 25)
          rw [e81, lt_cV_s, hmv.2.2.1, hmv.2.1]
          have e3 := e3 (d + 26)
          by_cases c : k = w_un S.w i
          · rw [hM2, if_pos c, show st = 2 by rw [hst, if_pos c]] at e3
            rw [if_neg (by rw [sp_eqn (by omega) (by omega)]; simp [c]), q_3, e3, lt_cV_s, hz.mpr c]
            rfl
          · have e10 : M3.1 (0 + 13 + 3 + 5 + 3 * i) 10 = nI DB := by rw [f3' _ (by omega)]; exact g5 c
            rw [hM2, if_neg c, show st = 4 by rw [hst, if_neg c]] at e3
            rw [if_pos (by rw [sp_eqn (by omega) (by omega)]; exact c), lt_gd_t hsA1, p25 (d + 27) _ _ hsA1 M1, lt_cI_s, c25 hnR1 hN bkd, hbr1, pk_sub (by omega), pk_mul]
            by_cases cb : w_br S.w i = 0
            · have eDB : (w_un S.w i - k) * S.N.2.2.2.2 (w_kd S.w i) = DB := by rw [hDB, cb]; omega
              rw [if_pos (by rw [cb]; rfl), eDB, E120 (d + 28) _ _ hq, lt_cV_s, q_5, e3, lt_cV_s, e10]
            · have eDB : 2 * ((w_un S.w i - k) * S.N.2.2.2.2 (w_kd S.w i)) = DB := by rw [hDB, show w_br S.w i = 1 by omega]; omega
              rw [if_neg (by rw [sp_eq0 (by omega)]; exact cb), q_2, pk_mul, eDB, E120 (d + 28) _ _ hq, lt_cV_s, q_5, e3, lt_cV_s, e10]
        · have hml4 : ml S.N S.w 711 M4 := MS_ml (S := S.rem) C4
          have h00 : (lm_i M4 712 (24 + 26 * i) (nI DB)).1 (711 + 1) (0 : Int32).toNatClampNeg = nI (S.w 0) := by
            rw [show (0 : Int32).toNatClampNeg = 0 by decide, lm_i_ns (by omega)]; exact C4.2.2.1 0 (by omega)
          have hdu : M4.1 (711 + 6) (nI (w_kd S.w i)).toNatClampNeg = nI (S.N.2.2.2.2 (w_kd S.w i)) := by rw [nI_clamp (by omega)]; exact hml4.2.2.2.2.1 _ bkd
          have eDB : (nI (w_un S.w i) - nI k) * nI (S.N.2.2.2.2 (w_kd S.w i)) * ((1 : Int32) + nI (w_br S.w i)) = nI DB := by
            rw [pk_sub (by omega), pk_mul, q_1, nI_add, pk_mul, hDB]
          rw [c1, if_pos (by decide), e4 (d + 28), lt_cV_s, m198_un (d + 28) sy hml4 (by omega), lt_cI_s, m198_kd (d + 28) sy hml4 (by omega), lt_cI_s, lt_gd_t (sp_gd (by omega) (by omega)), m198_br (d + 28) sy hml4 (by omega), lt_cI_s, hdu, eDB, q_8, m228 (d + 28) (by omega) (by omega), lt_cV_s, show 16 + 26 * i + 8 = 24 + 26 * i by omega]
          by_cases c : k = w_un S.w i
          · have e5 := e5 (d + 27)
            rw [show st = 2 by rw [hst, if_pos c]] at e5
            rw [if_neg (by rw [hz.mpr c]; decide), lt_gd_t (by decide), h00, q_2, e5, lt_cV_s]
          · have e5 := e5 (d + 27)
            rw [show st = 4 by rw [hst, if_neg c]] at e5
            rw [if_pos (by rw [sp_eq0 (by omega)]; exact fun q => c (hz.mp q)), lt_gd_t (by decide), h00, q_4, e5, lt_cV_s]
      · refine OP_m (Nat.le_succ T) (.inl (-2)) hr0 (hcls.trans ?_) ((hmod2 m hs.t0.ml).trans ?_)
        · rw [if_neg (by rw [q_1, sp_eqn (by omega) (by omega)]; exact c1)]
        · rw [if_neg (by rw [q_1, sp_eqn (by omega) (by omega)]; exact c1)]
  · refine OP_m (Nat.le_succ T) (.inl (-1)) hr0 ?_ ?_
    · refine (E119 (d + 29) 0 _ _ sx m).trans ?_
      rw [p114 (d + 27) _ _ sL m, lt_cR_s, e, lt_nl_n]
    · refine (E234 (d + 29) 711 _ _ sy m).trans ?_
      rw [m231 (d + 27) sy hs.t0.ml hw, lt_cI_s, sp_i0 (by omega) hx, if_pos (by decide)]
end CHG

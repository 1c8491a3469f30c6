/-! ===== hours ===== -/
section HO
variable {dist wl : DT} {T : Nat} {S : ST} {N : NT} {w : Nat → Nat} {m m' M M2 : lt_m} {vs : List Int32}
theorem ch_beyond (hw : wfL N w) : ∀ j, j < w 2 → w 0 < w_ch w j := by
  intro j hj
  have h0 := hw.1
  obtain ⟨-, -, -, -, -, -, -, -, -, -, -, -, -, -, -, -, -, a17, a18⟩ := hw.2.2.2.2.2 j hj
  unfold w_ch
  split
  · next q => have := a17 q; omega
  · split
    · next q => have := (a18 q).2; omega
    · omega
theorem op_hours (d : Nat) (hT : T + 40 < 2 ^ 30) (hr : RR dist wl T m) (x : Int32) : OP dist wl d T (T + 40) 124 239 [.inl x] m := by
  have hr0 := hr
  obtain ⟨N, w, vs, hs, hl, hc, hm⟩ := hr
  obtain ⟨S, rfl, rfl, hC, hM⟩ := RS_split hs
  have hw := hs.wfL
  have hN := hs.wfN
  have h99 := hw.1
  have hcl := hs.cl
  have g0 : (0 : Int32) ≤ 0 ∧ (0 : Int32).toNatClampNeg < 626 := by decide
  have e0 : (0 : Int32).toNatClampNeg = 0 := by decide
  have i1 : (1 : Int64).toInt = 1 := by decide
  have i9 : (999 : Int64).toInt = 999 := by decide
  have bad : ¬ (1 ≤ x.toInt ∧ x.toInt ≤ 999) → OP dist wl d T (T + 40) 124 239 [.inl x] m := fun hx => by
    refine OP_m (Nat.le_add_right T 40) (.inl (-1)) hr0 ?_ ?_
    · refine (E124 (d + 29) 0 _ sx m).trans ?_
      by_cases c : x < 1
      · rw [if_pos c]
      · rw [if_neg c, if_pos]
        have e1 : (1 : Int32).toInt = 1 := by decide
        have e9 : (999 : Int32).toInt = 999 := by decide
        rw [Int32.lt_iff_toInt_lt, e1] at c
        rw [Int32.lt_iff_toInt_lt, e9]
        omega
    · refine (E239 (d + 29) 711 _ sy m).trans ?_
      rw [k181 (d + 28), lt_cI_s, sp_tt, i1, i9, if_neg hx, if_pos rfl]
  rcases pk_ix x (n := 1000) (by omega) with c | c | ⟨n, hn, rfl⟩
  · refine bad ?_
    have e1 : (0 : Int32).toInt = 0 := by decide
    rw [Int32.lt_iff_toInt_lt, e1] at c
    omega
  · refine bad ?_
    rw [Int32.le_iff_toInt_le, nI_toInt (by omega)] at c
    omega
  by_cases c0 : n = 0
  · refine bad ?_
    subst c0
    rw [nI_toInt (by omega)]
    omega
  have hcls : lt_ev (d + 30) 124 [.inr (.inr (some 0)), .inl (nI n)] m = _ := E124 (d + 29) 0 _ sx m
  rw [if_neg (by rw [q_1, sp_ltn (by omega) (by omega)]; omega), if_neg (by rw [q_999, sp_ltn (by omega) (by omega)]; omega), hcl.1, nI_add] at hcls
  have hx1 : 1 ≤ (nI n).toInt ∧ (nI n).toInt ≤ 999 := by rw [nI_toInt (by omega)]; omega
  have hmod : ∀ M : lt_m, ml S.N S.w 711 (lm_i M 711 15 0) → lt_ev (d + 30) 239 [.inr (.inr (some 711)), .inl (nI n)] M = _ := fun M h => by
    refine (E239 (d + 29) 711 _ sy M).trans ?_
    rw [k181 (d + 28), lt_cI_s, sp_tt, i1, i9, if_pos hx1, if_neg (by decide), lt_gd_t g0, e0, show (lm_i M 711 15 0).1 (711 + 1) 0 = nI (S.w 0) from h.1 0 (by omega), nI_add]
  by_cases c9 : S.w 0 + n ≤ 99999
  · have c9' : nI (S.w 0 + n) ≤ (99999 : Int32) := by
      rw [show (99999 : Int32) = nI 99999 from rfl, sp_len (by omega) (by omega)]; exact c9
    rw [if_pos c9'] at hcls
    obtain ⟨M1, e1, C1, r1, f1⟩ := k81 hC
    have hL1 : LED S.N S.w 13 T M1 := C1.2.2.1
    have hn1 : nmR 13 M1 := C1.2.2.2.2.1
    obtain ⟨M3, e3, cl3, bk3, nm3, r3, f3⟩ := k125 (u := S.w 0 + n) (L := 13) sL hT hw (by omega) (nI n) 40 0 S.w 0 none M1 (by omega) (evo_rf hw) hL1.1 hL1.2.1 hn1 (by omega)
    have f13 : ∀ b, b < 13 ∨ 81 ≤ b → M3.1 b = M1.1 b := fun b hb => f3 b (by omega)
    have hMs : MS S (lm_i M3 711 15 0) := MS_t0 (MS_fr (m := m) (fun b k hb _ => by rw [f13 b (by omega), f1 b (by omega)]) hM)
    obtain ⟨M4, e4, C4, r4, f4⟩ := m211 hMs hC.2.2.2.1.1
    have hid : wset S.w 0 (S.w 0 + 0) = S.w := wset_id rfl
    obtain ⟨wF, M5, e5, l5, a5, v5, i5, r5, f5⟩ := m239 hN hw (n := n) (by omega) c9 n 0 S.w 0 M4 (by omega) (by omega) (evo_rf hw) (by rw [hid]; exact MS_ml (S := S.rem) C4) (ch_beyond hw)
    rw [i5] at cl3 bk3
    have hwF : wfL S.N (wset wF 0 (S.w 0 + n)) := evo_fin v5 hw hN (by omega) c9 a5
    have C3 : CS dist wl (T + 40) (S.rem.setw (wset wF 0 (S.w 0 + n))) M3 := CS_led (S := S.rem) (by omega) (fun b hb hne => f3 b (by omega)) (by rw [r3]; exact ⟨rfl, rfl⟩) ⟨cl3, bk3, hwF⟩ nm3 C1
    have C5 : MS (S.rem.setw (wset wF 0 (S.w 0 + n))) M5 := MS_up (fun b k hb hne _ => by rw [f5 b hne]) l5.1 C4
    have f45 : ∀ b, b ≠ 711 → b ≠ 712 → b ≠ 714 → M5.1 b = M3.1 b := fun b h1 h2 h3 => by
      rw [f5 b h2]; exact funext fun k => by rw [f4 b k (by omega), lm_i_ne h1]
    refine OP_w (m1 := M3) (m2 := M5) (vs := vs) (.inl (nI (pcN (0 ||| (itW S.N (S.w 0 + n) 40 S.w).2) 24))) (hcls.trans ?_) C3 ⟨by rw [f13 4 (by omega), f1 4 (by omega)], by rw [f13 5 (by omega), f1 5 (by omega)], by rw [f13 711 (by omega), f1 711 (by omega)], by rw [r3, r1]⟩ ((hmod M3 (MS_ml hMs)).trans ?_) C5 (fun b hb => f45 b (by omega) (by omega) (by omega)) (by rw [f5 711 (by decide), f4 711 14 (by omega), lm_i_ns (by omega)]) (by rw [r5]; exact r4) hl hc hm
    · have e81 : lt_ev (d + 29) 81 [.inr (.inr (some (0 + 81))), .inr (.inr (some (0 + 13)))] m = some (none, M1) := e1 (d + 25)
      have e125 : lt_ev (d + 29) 125 [.inr (.inr (some (0 + 13))), .inl (nI n)] M1 = some (some (.inl (nI (pcN (0 ||| (itW S.N (S.w 0 + n) 40 S.w).2) 24))), M3) := by
        refine (E125 (d + 28) (0 + 13) _ sL M1).trans ?_
        rw [show M1.1 (0 + 13) 4 = nI (S.w 0) from hL1.1.1, nI_add]
        exact e3 (d + 25)
      rw [e81, lt_cV_s, e125, lt_cI_s]
    · rw [if_pos c9', e4 (d + 28), lt_cV_s]
      exact e5 (d + 26)
  · have c9' : ¬ nI (S.w 0 + n) ≤ (99999 : Int32) := by
      rw [show (99999 : Int32) = nI 99999 from rfl, sp_len (by omega) (by omega)]; exact c9
    rw [if_neg c9'] at hcls
    refine OP_m (Nat.le_add_right T 40) (.inl (-1)) hr0 hcls ((hmod m hs.t0.ml).trans ?_)
    rw [if_neg c9']
end HO

/-! ===== acts that start: between the texts ===== -/
def told (S : ST) (tx : Nat → Nat) (tk : Nat) : ST := ST.mk S.N S.w tx tk S.z S.D S.l S.pw S.kb S.kw
theorem lgc_eq (x : Int64) : lg_cmp x x = 0 := by
  unfold lg_cmp
  simp
theorem goW_lo {w : Nat → Nat} {t g u sh s k j : Nat} {r : Nat → Nat} (h1 : ¬ (16 + 26 * w 2 ≤ j ∧ j < 42 + 26 * w 2)) (h2 : j ≠ 2) (h3 : j ≠ 3) (h4 : j < 536) : goW w t g u sh s k r j = w j := by
  unfold goW
  rw [wnote_lo h4 h3, st_o h1 h2]
theorem goW_in {w : Nat → Nat} {t g u sh s k f : Nat} {r : Nat → Nat} (hw : w 2 < 20) (hf : f < 26) : goW w t g u sh s k r (16 + 26 * w 2 + f) = stF t g u sh (w 0 + 2 * s + 24) k (w 0) r f := by
  unfold goW
  rw [wnote_lo (by omega) (by omega), st_f hf]
theorem goW_2 {w : Nat → Nat} {t g u sh s k : Nat} {r : Nat → Nat} : goW w t g u sh s k r 2 = w 2 + 1 := by
  unfold goW
  rw [wn2, st_2]
theorem goW_tm {w : Nat → Nat} {t g u sh s k : Nat} {r : Nat → Nat} (hw : w 2 < 20) : w_tm (goW w t g u sh s k r) (w 2) = w 0 + 2 * s + 24 := by
  show goW w t g u sh s k r (21 + 26 * w 2) = _
  rw [show 21 + 26 * w 2 = 16 + 26 * w 2 + 5 by omega, goW_in hw (by omega)]; rfl
theorem goW_sp {w : Nat → Nat} {t g u sh s k : Nat} {r : Nat → Nat} (hw : w 2 < 20) : w_sp (goW w t g u sh s k r) (w 2) = 1 := by
  show goW w t g u sh s k r (22 + 26 * w 2) = _
  rw [show 22 + 26 * w 2 = 16 + 26 * w 2 + 6 by omega, goW_in hw (by omega)]; rfl
theorem goW_lg {w : Nat → Nat} {t g u sh s k : Nat} {r : Nat → Nat} (hw : w 2 < 20) : w_lg (goW w t g u sh s k r) (w 2) = k := by
  show goW w t g u sh s k r (25 + 26 * w 2) = _
  rw [show 25 + 26 * w 2 = 16 + 26 * w 2 + 9 by omega, goW_in hw (by omega)]; rfl
theorem goW_rt {w : Nat → Nat} {t g u sh s k j : Nat} {r : Nat → Nat} (hw : w 2 < 20) (hj : j < k) (hk : k ≤ 8) : w_rt (goW w t g u sh s k r) (w 2) j = r j := by
  have e : w_rt (goW w t g u sh s k r) (w 2) j = w_rt (startW w (w 2) (stF t g u sh (w 0 + 2 * s + 24) k (w 0) r)) (w 2) j := by
    unfold goW
    exact wnote_lo (by omega) (by omega)
  rw [e]
  exact st_rt hj hk
theorem goW_left {N : NT} {w : Nat → Nat} {t g u sh s k : Nat} {r : Nat → Nat} (hw : w 2 < 20) (h2 : 2 ≤ k) (h8 : k ≤ 8) (h : rtOK N.2.2.1 N.1 k r s) : w_left N (goW w t g u sh s k r) (w 2) = s := by
  unfold w_left
  rw [goW_sp hw, goW_lg hw, h.2.2]
  refine sumN_congr fun j hj => ?_
  rw [goW_rt hw (by omega) h8, goW_rt hw (by omega) h8, show 1 + j - 1 = j by omega, show 1 + j = j + 1 by omega]
theorem wn_last {w : Nat → Nat} {a b c : Nat} (h3 : w 3 ≤ 30) : 0 < wnote w a b c 3 ∧ wnote w a b c (536 + 3 * (wnote w a b c 3 - 1)) = a ∧ wnote w a b c (537 + 3 * (wnote w a b c 3 - 1)) = b := by
  rw [wnote_3 h3]
  by_cases c30 : w 3 = 30
  · rw [show min (w 3 + 1) 30 = 30 by omega]
    refine ⟨by omega, ?_, ?_⟩
    · unfold wnote
      rw [if_pos c30, if_neg (by omega), if_pos (by omega)]
    · unfold wnote
      rw [if_pos c30, if_neg (by omega), if_neg (by omega), if_pos (by omega)]
  · rw [show min (w 3 + 1) 30 = w 3 + 1 by omega]
    refine ⟨by omega, ?_, ?_⟩
    · unfold wnote
      rw [if_neg c30, if_pos (by omega)]
    · unfold wnote
      rw [if_neg c30, if_neg (by omega), if_pos (by omega)]
section ACT
variable {K : lk_K} {q0 : Option ts_V} {x2 x3 x5 x6 : Int32} {N0 : NT} {tr k : Nat} {S : ST} {vs : List Int32} {m : lt_m} {td n : Nat} {tx : Nat → Nat} {tk : Nat}
theorem seg_H (hI : lwI N0 tr k S) (h : cP (100 * k) S vs m) (hg : 1 < N0.2.1) (htd : td < tr) (x11 x12 x13 x14 x15 x16 x17 : Int32) (q20 : Option Nat) (o4 o21 o22 o23 o24 o25 o26 o27 : Option ts_V)
    (fin : ∀ (vs : List Int32) (m : lt_m), cP (100 * k) S vs m → rch (K 543 [q0, some (.inr (.inr (some 0))), some (.inl x2), some (.inl (nI tr)), o4, some (.inl x5), some (.inl x6), some (.inl (nI (S.w 2))), some (.inl (nI S.D)), some (.inl (nI (S.w 0))), some (.inl (nI (S.w 3))), some (.inl (x11)), some (.inl (x12)), some (.inl (x13)), some (.inl (x14)), some (.inl (x15)), some (.inl (x16)), some (.inl (x17)), some (.inl (nI td)), some (.inl (nI (1 + 3 * n))), some (.inr (.inr q20)), some (.inl (nI (canN N0 S.w td 1))), o22, o23, o24, o25, o26, o27] [] m)) :
    rch (lt_rk SH K 13 YW 534 [q0, some (.inr (.inr (some 0))), some (.inl x2), some (.inl (nI tr)), o4, some (.inl x5), some (.inl x6), some (.inl (nI (S.w 2))), some (.inl (nI S.D)), some (.inl (nI (S.w 0))), some (.inl (nI (S.w 3))), some (.inl (x11)), some (.inl (x12)), some (.inl (x13)), some (.inl (x14)), some (.inl (x15)), some (.inl (x16)), some (.inl (x17)), some (.inl (nI td)), some (.inl (nI (1 + 3 * n))), some (.inr (.inr q20)), o21, o22, o23, o24, o25, o26, o27] [] m) := by
  have hN0 := hI.1
  subst hN0
  obtain ⟨m', e, h'⟩ := q_can 1 h (t := td) (g := 1) (by rw [hI.2.1]; exact htd) hg
  have e' : lt_ev 13 147 [.inr (.inr (some 0)), .inl (nI td), .inl (1 : Int32)] m = some (some (.inl (nI (canN S.N S.w td 1))), m') := e
  rw [EH, e', lt_cI_s]
  exact fin _ _ h'
theorem seg_I (hI : lwI N0 tr k S) (h : cP (100 * k) (told S tx tk) vs m) {kk s : Nat} {r : Nat → Nat} (hx : rtN N0.2.2.1 N0.1 tx tk 8 0 (fun _ => 0) 0 0 = .inr (kk, r, s)) (x11 x12 x13 x14 x15 x16 x17 : Int32) (q20 : Option Nat) (o4 o22 o23 o24 o25 o26 o27 : Option ts_V)
    (fin : ∀ (dt : Nat) (vs : List Int32) (m : lt_m), dt < 2 ^ 31 → cP (100 * k) (told S tx 0) vs m → rch (K 572 [q0, some (.inr (.inr (some 0))), some (.inl x2), some (.inl (nI tr)), o4, some (.inl x5), some (.inl x6), some (.inl (nI (S.w 2))), some (.inl (nI S.D)), some (.inl (nI (S.w 0))), some (.inl (nI (S.w 3))), some (.inl (x11)), some (.inl (x12)), some (.inl (x13)), some (.inl (x14)), some (.inl (x15)), some (.inl (x16)), some (.inl (x17)), some (.inl (nI td)), some (.inl (nI (1 + 3 * n))), some (.inr (.inr q20)), some (.inl (nI (canN N0 S.w td 1))), some (.inl (nI dt)), some (.inr (.inl (nI s).toInt64)), none, some (.inr (.inl (nI (S.w 0 + 2 * s + 24)).toInt64)), none, o27] [] m)) :
    rch (lt_rk SI K 13 YW 552 [q0, some (.inr (.inr (some 0))), some (.inl x2), some (.inl (nI tr)), o4, some (.inl x5), some (.inl x6), some (.inl (nI (S.w 2))), some (.inl (nI S.D)), some (.inl (nI (S.w 0))), some (.inl (nI (S.w 3))), some (.inl (x11)), some (.inl (x12)), some (.inl (x13)), some (.inl (x14)), some (.inl (x15)), some (.inl (x16)), some (.inl (x17)), some (.inl (nI td)), some (.inl (nI (1 + 3 * n))), some (.inr (.inr q20)), some (.inl (nI (canN N0 S.w td 1))), o22, o23, o24, o25, o26, o27] [] m) := by
  have hN0 := hI.1
  subst hN0
  have hN := h.wfN
  obtain ⟨a2, a8, hok⟩ := rtN_ok 8 0 _ 0 0 _ _ _ rfl (Nat.zero_le _) ⟨fun j hj => absurd hj (Nat.not_lt_zero j), fun j hj => absurd hj (Nat.not_lt_zero _), rfl⟩ hx
  have hsb := rt_sb hN a8 hok
  obtain ⟨m', e, h'⟩ := q_detour 1 h hx
  have e' : lt_ev 13 160 [.inr (.inr (some 0))] m = some (some (.inl (nI (s - dsN S.N.2.2.1 S.N.1 (r 0) (r (kk - 1))))), m') := e
  have r0 : lt_ev 13 175 [.inr (.inr (some 0)), .inl (0 : Int32)] m' = some (some (.inr (.inl (nI s).toInt64)), m') := q_row 1 h' (j := 0) rfl
  have r1 : lt_ev 13 175 [.inr (.inr (some 0)), .inl (1 : Int32)] m' = some (some (.inr (.inl (nI (S.w 0 + 2 * s + 24)).toInt64)), m') := q_row 1 h' (j := 1) rfl
  rw [EI, e', lt_cI_s, r0, lt_cL_s, r1, lt_cL_s]
  exact fin _ _ _ (Nat.lt_of_le_of_lt (Nat.sub_le _ _) (by omega)) h'
theorem seg_J (hI : lwI N0 tr k S) (fin : goes1301 K q0 x2 (nI tr) x5 x6 N0 tr k S) (hk : k < 26) (h : cP (100 * k) (told S tx tk) vs m) (hg : 1 < N0.2.1) (htd : td < tr) (hn : n < 64) {kk s dt : Nat} {r : Nat → Nat} (hdt : dt < 2 ^ 31) (hx : rtN N0.2.2.1 N0.1 tx tk 8 0 (fun _ => 0) 0 0 = .inr (kk, r, s)) (x11 x12 x13 x14 x15 x16 x17 : Int32) (q20 : Option Nat) (o4 o27 : Option ts_V) :
    rch (lt_rk SJ K 13 YW 581 [q0, some (.inr (.inr (some 0))), some (.inl x2), some (.inl (nI tr)), o4, some (.inl x5), some (.inl x6), some (.inl (nI (S.w 2))), some (.inl (nI S.D)), some (.inl (nI (S.w 0))), some (.inl (nI (S.w 3))), some (.inl (x11)), some (.inl (x12)), some (.inl (x13)), some (.inl (x14)), some (.inl (x15)), some (.inl (x16)), some (.inl (x17)), some (.inl (nI td)), some (.inl (nI (1 + 3 * n))), some (.inr (.inr q20)), some (.inl (nI (canN N0 S.w td 1))), some (.inl (nI dt)), some (.inr (.inl (nI s).toInt64)), none, some (.inr (.inl (nI (S.w 0 + 2 * s + 24)).toInt64)), none, o27] [] m) := by
  have hN0 := hI.1
  subst hN0
  have hN := h.wfN
  have hw : wfL S.N S.w := h.wfL
  have h20 := hw.2.2.1
  have h8 := h.D8
  have h30 : S.w 3 ≤ 30 := hw.2.2.2.1
  have hI' : lwI S.N tr k (told S tx 0) := ⟨rfl, hI.2.1, hI.2.2.1, hI.2.2.2.1, rfl⟩
  have h99 := canN_le (N := S.N) (w := S.w) (t := td) (g := 1)
  obtain ⟨a2, a8, hok⟩ := rtN_ok 8 0 _ 0 0 _ _ _ rfl (Nat.zero_le _) ⟨fun j hj => absurd hj (Nat.not_lt_zero j), fun j hj => absurd hj (Nat.not_lt_zero _), rfl⟩ hx
  have hsb := rt_sb hN a8 hok
  have htd' : td < S.w 1 := by rw [hI.2.1]; exact htd
  have hcan : shN ((1 + 3 * n) * (told S tx tk).N.2.2.2.2 1) ((told S tx tk).w (5 + 2 * td)) ≤ (told S tx tk).w (4 + 2 * td) - w_used (told S tx tk).w td ↔ 1 + 3 * n ≤ canN S.N S.w td 1 := can_in hN hw htd' hg (u := 1 + 3 * n) (by omega)
  obtain ⟨m', hq⟩ := q_starts 1 (by omega) h hx (t := td) (g := 1) (u := 1 + 3 * n) htd' hg ⟨by omega, by omega⟩
  have pn : ∀ {vs m}, cP (100 * k) (told S tx 0) vs m → pst S.N tr k S.D (S.w 0) (S.w 2) (S.w 3) 0 m := fun h => pst_0 h (by omega) hI' rfl rfl
  have hdt0 : ¬ nI dt < 0 := nI_pos hdt
  by_cases c20 : S.w 2 = 20
  · rw [if_pos (show (told S tx tk).w 2 = 20 from c20)] at hq
    obtain ⟨e, h'⟩ := hq
    have e' : lt_ev 13 100 [.inr (.inr (some 0)), .inl (nI td), .inl (1 : Int32), .inl (nI (1 + 3 * n))] m = some (some (.inl (-2)), m') := e
    rw [EJ, e', lt_cI_s, if_pos (by decide), EJ_602, if_neg hdt0, if_neg (fun q => q (by rw [c20]; rfl)), EJ_637, if_pos rfl, if_pos rfl]
    exact fin _ _ _ ⟨_, _, _, _, _, _, _, _, _, _, _, _, _, _, _, _, _, rfl⟩ (pn h')
  · rw [if_neg (show ¬ (told S tx tk).w 2 = 20 from c20)] at hq
    have hw20 : S.w 2 < 20 := by omega
    have hc20 : ¬ nI (S.w 2) = (20 : Int32) := by
      intro q
      exact c20 ((nI_eq (by omega) (by omega)).mp (q.trans (show (20 : Int32) = nI 20 from rfl)))
    by_cases cs : 1 + 3 * n ≤ canN S.N S.w td 1
    · rw [if_pos (hcan.mpr cs)] at hq
      obtain ⟨e, h'⟩ := hq
      have e' : lt_ev 13 100 [.inr (.inr (some 0)), .inl (nI td), .inl (1 : Int32), .inl (nI (1 + 3 * n))] m = some (some (.inl (nI (S.w 2))), m') := e
      obtain ⟨W, hW⟩ : ∃ W, W = goW S.w td 1 (1 + 3 * n) (shN ((1 + 3 * n) * S.N.2.2.2.2 1) (S.w (5 + 2 * td))) s kk r := ⟨_, rfl⟩
      have h' : cP (100 * k + 1) ((told S tx 0).rem.setw W) vs m' := by rw [hW]; exact h'
      have W2 : W 2 = S.w 2 + 1 := by rw [hW]; exact goW_2
      have hi : S.w 2 < ((told S tx 0).rem.setw W).w 2 := by show S.w 2 < W 2; omega
      obtain ⟨m1, e1, h1⟩ := q_left 1 h' hi
      have e1' : lt_ev 13 132 [.inr (.inr (some 0)), .inl (nI (S.w 2))] m' = some (some (.inl (nI s)), m1) := by
        have el : w_left S.N W (S.w 2) = s := by rw [hW]; exact goW_left hw20 a2 a8 hok
        rw [← el]
        exact e1
      have e2 : lt_ev 13 129 [.inr (.inr (some 0)), .inl (nI (S.w 2)), .inl (6 : Int32)] m1 = some (some (.inl (nI (S.w 0 + 2 * s + 24))), m1) := by
        have el : w_tm W (S.w 2) = S.w 0 + 2 * s + 24 := by rw [hW]; exact goW_tm hw20
        rw [← el]
        exact q_mv 1 h1 (k := 6) hi (by omega) (by omega)
      have e3 : lt_ev 13 129 [.inr (.inr (some 0)), .inl (nI (S.w 2)), .inl (7 : Int32)] m1 = some (some (.inl (1 : Int32)), m1) := by
        have el : w_sp W (S.w 2) = 1 := by rw [hW]; exact goW_sp hw20
        have := q_mv 1 h1 (k := 7) hi (by omega) (by omega)
        exact this.trans (congrArg (fun z => some (some (Sum.inl (nI z)), m1)) el)
      have hb := wn_last (w := startW S.w (S.w 2) (stF td 1 (1 + 3 * n) (shN ((1 + 3 * n) * S.N.2.2.2.2 1) (S.w (5 + 2 * td))) (S.w 0 + 2 * s + 24) kk (S.w 0) r)) (a := 0) (b := S.w 2) (c := S.w 0) (by rw [st_o (by omega) (by omega)]; exact h30)
      have hW' : W = wnote (startW S.w (S.w 2) (stF td 1 (1 + 3 * n) (shN ((1 + 3 * n) * S.N.2.2.2.2 1) (S.w (5 + 2 * td))) (S.w 0 + 2 * s + 24) kk (S.w 0) r)) 0 (S.w 2) (S.w 0) := hW
      rw [← hW'] at hb
      obtain ⟨b1, b2⟩ := q_book 1 (by omega) h1 hb.1
      have e4 : lt_ev 13 163 [.inr (.inr (some 0)), .inl (0 : Int32), .inl (0 : Int32)] m1 = some (some (.inl (0 : Int32)), m1) := b1.trans (congrArg (fun z => some (some (Sum.inl (nI z)), m1)) hb.2.1)
      have e5 : lt_ev 13 163 [.inr (.inr (some 0)), .inl (0 : Int32), .inl (1 : Int32)] m1 = some (some (.inl (nI (S.w 2))), m1) := b2.trans (congrArg (fun z => some (some (Sum.inl (nI z)), m1)) hb.2.2)
      rw [EJ, e', lt_cI_s, if_neg (nI_pos (by omega)), EJ_602, if_neg hdt0, if_pos hc20, if_pos ((nI_leI (by omega) (by omega)).mpr cs), EJ_637, if_pos rfl, if_neg (by decide), e1', lt_cI_s, if_neg (fun q => q (lgc_eq _)), e2, lt_cI_s, if_neg (fun q => q (lgc_eq _)), e3, lt_cI_s, if_neg (fun q => q rfl), e4, lt_cI_s, if_neg (fun q => q rfl), e5, lt_cI_s, if_pos rfl]
      exact fin _ _ _ ⟨_, _, _, _, _, _, _, _, _, _, _, _, _, _, _, _, _, rfl⟩ (pst_d (S := told S tx 0) (by omega) hI' h8 h1 (by rw [hW]; exact goW_lo (by omega) (by omega) (by omega) (by omega)) (by rw [hW]; exact J_goes hw hI.2.2.1 hw20) (by rw [hW, goW_lo (by omega) (by omega) (by omega) (by omega)]; have := hI.2.2.2.1; omega))
    · rw [if_neg (fun q => cs (hcan.mp q))] at hq
      obtain ⟨e, h'⟩ := hq
      have e' : lt_ev 13 100 [.inr (.inr (some 0)), .inl (nI td), .inl (1 : Int32), .inl (nI (1 + 3 * n))] m = some (some (.inl (-3)), m') := e
      rw [EJ, e', lt_cI_s, if_pos (by decide), EJ_602, if_neg hdt0, if_pos hc20, if_neg (fun q => cs ((nI_leI (by omega) (by omega)).mp q)), EJ_637, if_pos rfl, if_pos rfl]
      exact fin _ _ _ ⟨_, _, _, _, _, _, _, _, _, _, _, _, _, _, _, _, _, rfl⟩ (pn h')
end ACT

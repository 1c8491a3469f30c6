/-! ===== trader, starts, detour, end, sign, net ===== -/
section CPS
variable {T : Nat} {S : ST} {vs : List Int32} {m m' : lt_m}
def trW (w : Nat → Nat) (s l : Nat) : Nat → Nat := wset (wset (wset w (4 + 2 * w 1) s) (5 + 2 * w 1) l) 1 (w 1 + 1)
theorem q_trader (d : Nat) (h : cP T S vs m) {s l : Nat} (hsb : s ≤ 999999) (hlb : l ≤ 3) (c : S.w 1 < 6) : ∃ m', lt_ev (d + 12) 78 [.inr (.inr (some 0)), .inl (nI s), .inl (nI l)] m = some (some (.inl (nI (S.w 1))), m') ∧ cP T (S.rem.setw (trW S.w s l)) vs m' := by
  have hC := h.1
  have hw := h.wfL
  have h6 := hw.2.1
  have h20 := hw.2.2.1
  have hcl := h.cl
  have hcls : lt_ev (d + 12) 78 [.inr (.inr (some 0)), .inl (nI s), .inl (nI l)] m = _ := E78 (d + 11) 0 _ _ sx m
  have ey : lt_ev (d + 10 + 1) 79 [.inl (nI s)] m = some (some (.inl 1), m) := by
    rcases k79 (d + 10) (nI s) m with ⟨_, _, -, ey⟩ | ⟨hy, -⟩
    · exact ey
    · rcases hy with hy | hy
      · exact absurd hy (nI_pos (by omega))
      · rw [sp_len (by omega) (by omega)] at hy; omega
  have ez : lt_ev (d + 10 + 1) 80 [.inl (nI l)] m = some (some (.inl 1), m) := by
    rcases k80 (d + 10) (nI l) m with ⟨_, _, -, ey⟩ | ⟨hy, -⟩
    · exact ey
    · rcases hy with hy | hy
      · exact absurd hy (nI_pos (by omega))
      · rw [sp_len (by omega) (by omega)] at hy; omega
  rw [ey, lt_cI_s, if_neg (by decide), ez, lt_cI_s, if_pos (by decide), hcl.2.1, if_pos (by rw [q_6, sp_ltn (by omega) (by omega)]; exact c)] at hcls
  obtain ⟨M1, e1, C1, r1, f1⟩ := k81 hC
  have hcl1 : cl S.N S.w (0 + 13) M1 := C1.2.2.1.1
  obtain ⟨n, hn⟩ : ∃ n, n = S.w 1 := ⟨_, rfl⟩
  obtain ⟨w', hw'⟩ : ∃ w', w' = wset (wset (wset S.w (4 + 2 * n) s) (5 + 2 * n) l) 1 (n + 1) := ⟨_, rfl⟩
  have hfin : w' = trW S.w s l := by rw [hw', hn]; rfl
  have q4 : ∀ j, w' (4 + 2 * j) = if j = n then s else S.w (4 + 2 * j) := fun j => by
    rw [hw', wset_ne (by omega), wset_ne (by omega)]
    by_cases q : j = n
    · rw [q, wset_eq, if_pos rfl]
    · rw [wset_ne (by omega), if_neg q]
  have q5 : ∀ j, w' (5 + 2 * j) = if j = n then l else S.w (5 + 2 * j) := fun j => by
    rw [hw', wset_ne (by omega)]
    by_cases q : j = n
    · rw [q, wset_eq, if_pos rfl]
    · rw [wset_ne (by omega), wset_ne (by omega), if_neg q]
  have qo : ∀ k, k ≠ 1 → (k < 4 ∨ 16 ≤ k) → w' k = S.w k := fun k k1 hk => by rw [hw', wset_ne k1, wset_ne (by omega), wset_ne (by omega)]
  obtain ⟨M3, hM3⟩ : ∃ M3, M3 = lm_i (lm_i (lm_i M1 14 n (nI s)) 15 n (nI l)) 13 5 (nI (n + 1)) := ⟨_, rfl⟩
  have C3 : CS dsD wlD T (S.rem.setw w') M3 := by
    refine CS_tr (n' := n + 1) C1 (by omega) (by show S.w 1 ≤ n + 1; omega) (by rw [hw', wset_eq]) qo (fun b b1 b2 b3 => by rw [hM3, lm_i_ne b1, lm_i_ne b3, lm_i_ne b2]) (by rw [hM3, lm_i_ns (by omega), lm_i_ne (by decide), lm_i_ne (by decide)]) (by rw [hM3]; exact lm_i_eq) (by rw [hM3, lm_i_ns (by omega), lm_i_ne (by decide), lm_i_ne (by decide)]) (fun j hj => ?_) (by rw [hM3]; rfl) (fun j hj => ?_)
    · have x14 : M3.1 14 = (lm_i M1 14 n (nI s)).1 14 := by rw [hM3, lm_i_ne (show 14 ≠ 13 by decide), lm_i_ne (show 14 ≠ 15 by decide)]
      have x15 : M3.1 15 = (lm_i (lm_i M1 14 n (nI s)) 15 n (nI l)).1 15 := by rw [hM3, lm_i_ne (show 15 ≠ 13 by decide)]
      rw [q4, q5, x14, x15]
      by_cases q : j = n
      · subst q
        rw [lm_i_eq, lm_i_eq, if_pos rfl, if_pos rfl]; exact ⟨rfl, rfl⟩
      · have := hcl1.2.2.2.1 j (show j < S.w 1 by omega)
        rw [lm_i_ns (by omega), lm_i_ns (by omega), lm_i_ne (by decide), if_neg q, if_neg q]; exact this
    · rw [q4, q5]
      by_cases q : j = n
      · subst q
        rw [if_pos rfl, if_pos rfl]
        refine ⟨hsb, hlb, ?_⟩
        have : w_used S.w j = 0 := by
          unfold w_used
          refine sumN_zero fun i hi => if_neg fun q => ?_
          have := (hw.2.2.2.2.2 i hi).1
          omega
        show w_used S.w j ≤ s
        omega
      · rw [if_neg q, if_neg q]; exact hw.2.2.2.2.1 j (by omega)
  have f3 : ∀ b, b < 13 ∨ 81 ≤ b → M3.1 b = M1.1 b := fun b hb => by rw [hM3, lm_i_ne (by omega), lm_i_ne (by omega), lm_i_ne (by omega)]
  refine ⟨M3, hcls.trans ?_, by rw [← hfin]; exact C3, h.2.1, rwC_eq (by rw [f3 4 (by omega), f1 4 (by omega)]) (by rw [f3 5 (by omega), f1 5 (by omega)]) h.2.2⟩
  have e81 : lt_ev (d + 11) 81 [.inr (.inr (some (0 + 81))), .inr (.inr (some (0 + 13)))] m = some (none, M1) := e1 (d + 7)
  have e5 : (lm_i (lm_i M1 14 n (nI s)) 15 n (nI l)).1 (0 + 13) 5 = nI n := by
    rw [lm_i_ne (by decide), lm_i_ne (by decide), hn]; exact hcl1.2.1
  have e13 : M3.1 (0 + 13) 5 = nI (n + 1) := by rw [hM3]; exact lm_i_eq
  rw [e81, lt_cV_s, E87 (d + 10) (0 + 13) _ _ sL M1, show M1.1 (0 + 13) 5 = nI n by rw [hn]; exact hcl1.2.1, k88 (d + 8) (by omega), lt_cV_s, e5, nI_1, show lm_i (lm_i (lm_i M1 14 n (nI s)) 15 n (nI l)) (0 + 13) 5 (nI (n + 1)) = M3 from hM3.symm, e13, lt_cI_s, q_1, pk_sub (by omega), Nat.add_sub_cancel, hn]
theorem rt_sb {N : NT} (hN : wfN N) {k s : Nat} {r : Nat → Nat} (h8 : k ≤ 8) (h : rtOK N.2.2.1 N.1 k r s) : s ≤ 693 := by
  obtain ⟨hok1, hok2, hok3⟩ := h
  rw [hok3]
  have := sumN_bound (n := k - 1) (c := 99) (f := fun j => N.2.2.1 (r j) (r (j + 1))) (fun j hj => hN.2.2.2.1 _ _ (hok1 j (by omega)) (hok1 (j + 1) (by omega)))
  have : (k - 1) * 99 ≤ 7 * 99 := Nat.mul_le_mul_right _ (by omega)
  omega
/-- starts: a good route -/
def goW (w : Nat → Nat) (t g u sh s k : Nat) (r : Nat → Nat) : Nat → Nat := wnote (startW w (w 2) (stF t g u sh (w 0 + 2 * s + 24) k (w 0) r)) 0 (w 2) (w 0)
theorem q_starts (d : Nat) (hT : T < 2 ^ 30) (h : cP T S vs m) {k s : Nat} {r : Nat → Nat} (hx : rtN S.N.2.2.1 S.N.1 S.tx S.tk 8 0 (fun _ => 0) 0 0 = .inr (k, r, s)) {t g u : Nat} (ht : t < S.w 1) (hg : g < S.N.2.1) (hu : 1 ≤ u ∧ u ≤ 999) : ∃ m', (if S.w 2 = 20 then lt_ev (d + 12) 100 [.inr (.inr (some 0)), .inl (nI t), .inl (nI g), .inl (nI u)] m = some (some (.inl (-2)), m') ∧ cP T S.rd vs m' else if shN (u * S.N.2.2.2.2 g) (S.w (5 + 2 * t)) ≤ S.w (4 + 2 * t) - w_used S.w t then lt_ev (d + 12) 100 [.inr (.inr (some 0)), .inl (nI t), .inl (nI g), .inl (nI u)] m = some (some (.inl (nI (S.w 2))), m') ∧ cP (T + 1) (S.rd.rem.setw (goW S.w t g u (shN (u * S.N.2.2.2.2 g) (S.w (5 + 2 * t))) s k r)) vs m' else lt_ev (d + 12) 100 [.inr (.inr (some 0)), .inl (nI t), .inl (nI g), .inl (nI u)] m = some (some (.inl (-3)), m') ∧ cP T S.rd vs m') := by
  have hC := h.1
  have hw := h.wfL
  have hN := h.wfN
  have h99 := hw.1
  have h6 := hw.2.1
  have h20 := hw.2.2.1
  have bg := hN.2.2.1
  obtain ⟨htk, -, htx⟩ := hC.2.1
  obtain ⟨M1, e1, C1, f1, x1⟩ := rd_C hC h.sA h.nR hN
  have hA1 : ts_sh M1.2.2.1 = (0, 5) := by rw [f1.2]; exact h.sA
  have hn1 : nR S.N M1.2.2.1 M1 := by
    obtain ⟨⟨A, B, n1, n2, n3, n4, n5, -⟩, -⟩ := C1
    rw [n1]; exact n5
  have hcl1 : cl S.N S.w (0 + 13) M1 := C1.2.2.1.1
  have e101 : lt_ev (d + 11) 101 [.inr (.inr (some (0 + 6))), .inr (.inr (some (0 + 1))), .inr (.inr (some m.2.2.1))] m = some (none, M1) := e1 (d + 7)
  have hcls : lt_ev (d + 12) 100 [.inr (.inr (some 0)), .inl (nI t), .inl (nI g), .inl (nI u)] m = _ := E100 (d + 11) 0 _ _ _ sx m
  rw [e101, lt_cV_s, p38 (d + 10) (0 + 1) s_1 M1, lt_cI_s] at hcls
  have hrd : cP T S.rd vs M1 := ⟨C1, h.2.1, rwC_eq (f1.1 4 (by omega) (by omega) (by omega) (by omega)) (f1.1 5 (by omega) (by omega) (by omega) (by omega)) h.2.2⟩
  rw [hx] at x1
  simp only at x1
  obtain ⟨k2, k8, hok⟩ := rtN_ok 8 0 (fun _ => 0) 0 0 k r s rfl (Nat.zero_le _) ⟨fun j hj => absurd hj (Nat.not_lt_zero j), fun j hj => absurd hj (Nat.not_lt_zero _), rfl⟩ hx
  have hsb := rt_sb hN k8 hok
  obtain ⟨hok1, hok2, hok3⟩ := hok
  have ev : v38 M1 (0 + 1) = 0 := c38g x1.1
  have eg : v103 M1 M1.2.2.1 (nI g) = 1 := by
    rcases c103 hn1 hN (nI g) with ⟨_, _, -, ey⟩ | ⟨hy, -⟩
    · exact ey
    · rcases hy with hy | hy
      · exact absurd hy (nI_pos (by omega))
      · rw [sp_len (by omega) (by omega)] at hy; omega
  rw [ev, if_pos rfl, p90 (d + 10) _ _ sL M1, lt_cI_s, q_trd hrd ht, if_neg (by decide), lt_gd_t hA1, p103 (d + 10) _ _ hA1 M1, lt_cI_s, eg, if_neg (by decide)] at hcls
  have bt := hw.2.2.2.2.1 t ht
  have bdu := hN.2.2.2.2.2.2.2 g hg
  rw [if_neg (by rw [q_1, sp_ltn (by omega) (by omega)]; omega), if_pos (by rw [q_999, sp_len (by omega) (by omega)]; omega), p104 (d + 9) _ sL M1, lt_cR_s] at hcls
  have e104 : v104 M1 (0 + 13) = if S.w 2 = 20 then none else some (0 + 13 + 3 + 5 + 3 * S.w 2) := by
    unfold v104 v105
    rw [hcl1.2.2.1, if_neg (nI_pos (by omega)), nI_clamp (by omega)]
    by_cases c : S.w 2 = 20
    · rw [if_pos (by rw [q_20, sp_len (by omega) (by omega)]; omega), if_pos c]
    · rw [if_neg (by rw [q_20, sp_len (by omega) (by omega)]; omega), if_neg c]
  by_cases c20 : S.w 2 = 20
  · refine ⟨M1, ?_⟩
    rw [if_pos c20]
    refine ⟨hcls.trans ?_, hrd⟩
    rw [e104, if_pos c20, lt_nl_n]
  have hn20 : S.w 2 < 20 := by omega
  have hqs : ts_sh (0 + 13 + 3 + 5 + 3 * S.w 2) = (0, 4) := sh_mv sL hn20
  have hprod : u * S.N.2.2.2.2 g ≤ 999 * 999 := Nat.mul_le_mul (by omega) bdu.2
  obtain ⟨sh, hsh⟩ : ∃ sh, sh = shN (u * S.N.2.2.2.2 g) (S.w (5 + 2 * t)) := ⟨_, rfl⟩
  have hshb : sh ≤ 999 * 999 + 9 := by
    have := shN_le (v := u * S.N.2.2.2.2 g) (l := S.w (5 + 2 * t))
    omega
  rw [e104, if_neg c20, lt_nl_s, lt_gd_t hA1, p25 (d + 9) _ _ hA1 M1, lt_cI_s, c25 hn1 hN hg, p95 (d + 9) _ _ sL M1, lt_cI_s, c95 hcl1 hw ht, pk_mul, k106 (d + 9) bt.2.1 (by omega), lt_cI_s, ← hsh, k96 (d + 8) sL hcl1 hw ht, lt_cI_s] at hcls
  rw [← hsh]
  by_cases cf : sh ≤ S.w (4 + 2 * t) - w_used S.w t
  · rw [if_pos (by rw [sp_len (by omega) (by omega)]; exact cf)] at hcls
    obtain ⟨M3, e3, C3, r3, g3⟩ := k81 C1
    have hfit : w_used S.w t + sh ≤ S.w (4 + 2 * t) := by have := bt.2.2; omega
    obtain ⟨Ma, Mb, Mc, a1, a2, a3, a4, a5, a6, a7, a8, a9⟩ := k_start (S := S.rd.rem) (u := u) (sh := sh) (s := s) C3 hT hN hn20 ht hg ⟨by omega, by omega⟩ hsb ⟨k2, k8⟩ hok1 hok2 hfit (by rw [g3 6 (by omega)]; exact x1.2.1) (by rw [g3 6 (by omega)]; exact x1.2.2.1) (fun j hj => by rw [g3 7 (by omega)]; exact x1.2.2.2 j hj)
    have fc : ∀ b, b < 13 ∨ 695 ≤ b → Mc.1 b = M1.1 b := fun b hb => by rw [a9 b (by omega), g3 b (by omega)]
    refine ⟨Mc, ?_⟩
    rw [if_neg c20, if_pos cf]
    refine ⟨hcls.trans ?_, a7, h.2.1, rwC_eq (by rw [fc 4 (by omega)]) (by rw [fc 5 (by omega)]) hrd.2.2⟩
    have e81 : lt_ev (d + 11) 81 [.inr (.inr (some (0 + 81))), .inr (.inr (some (0 + 13)))] M1 = some (none, M3) := e3 (d + 7)
    have e109 : lt_ev (d + 11) 109 [.inr (.inr (some (0 + 13 + 3 + 5 + 3 * S.w 2))), .inr (.inr (some (0 + 6))), .inl (nI (S.w 0))] Ma = some (none, Mb) := a3 (d + 8)
    have a2' : Ma.1 (0 + 13) 4 = nI (S.w 0) := a2
    have a4' : Mb.1 (0 + 13) 6 = nI (S.w 2) := a4
    have a6' : Mc.1 (0 + 13 + 3 + 5 + 3 * S.w 2) 0 = nI (S.w 2) := a6
    have a1' : lt_ev (d + 11) 108 [.inr (.inr (some (0 + 13 + 3 + 5 + 3 * S.w 2))), .inl (nI t), .inl (nI g), .inl (nI u), .inl (nI (u * S.N.2.2.2.2 g)), .inl (nI sh)] M3 = some (none, Ma) := a1 (d + 10)
    have a5' : lt_ev (d + 11) 111 [.inr (.inr (some (0 + 13))), .inl 0, .inr (.inr (some (0 + 13 + 3 + 5 + 3 * S.w 2)))] (lm_i Mb (0 + 13) 6 (nI (S.w 2 + 1))) = some (none, Mc) := a5 (d + 8)
    rw [e81, lt_cV_s, lt_gd_t hqs, a1', lt_cV_s, a2', e109, lt_cV_s, a4', nI_1, a5', lt_cV_s, a6']
  · rw [if_neg (by rw [sp_len (by omega) (by omega)]; exact cf)] at hcls
    refine ⟨M1, ?_⟩
    rw [if_neg c20, if_neg cf]
    exact ⟨hcls, hrd⟩
/-- detour: a good route -/
theorem q_detour (d : Nat) (h : cP T S vs m) {k s : Nat} {r : Nat → Nat} (hx : rtN S.N.2.2.1 S.N.1 S.tx S.tk 8 0 (fun _ => 0) 0 0 = .inr (k, r, s)) : ∃ m', lt_ev (d + 12) 160 [.inr (.inr (some 0))] m = some (some (.inl (nI (s - dsN S.N.2.2.1 S.N.1 (r 0) (r (k - 1))))), m') ∧ cP T S.rd [nI s, nI (S.w 0 + 2 * s + 24)] m' := by
  have hC := h.1
  have hw := h.wfL
  have hN := h.wfN
  have hn2 := hN.2.1
  have h99 := hw.1
  obtain ⟨htk, -, htx⟩ := hC.2.1
  obtain ⟨M1, e1, C1, f1, x1⟩ := rd_C hC h.sA h.nR hN
  have e101 : lt_ev (d + 11) 101 [.inr (.inr (some (0 + 6))), .inr (.inr (some (0 + 1))), .inr (.inr (some m.2.2.1))] m = some (none, M1) := e1 (d + 7)
  have hcls : lt_ev (d + 12) 160 [.inr (.inr (some 0))] m = _ := E160 (d + 11) 0 sx m
  rw [e101, lt_cV_s, p38 (d + 10) (0 + 1) s_1 M1, lt_cI_s] at hcls
  rw [hx] at x1
  simp only at x1
  obtain ⟨k2, k8, hok⟩ := rtN_ok 8 0 (fun _ => 0) 0 0 k r s rfl (Nat.zero_le _) ⟨fun j hj => absurd hj (Nat.not_lt_zero j), fun j hj => absurd hj (Nat.not_lt_zero _), rfl⟩ hx
  have hds := rt_ds hok (by omega)
  have hsb := rt_sb hN k8 hok
  obtain ⟨hok1, hok2, hok3⟩ := hok
  have ev : v38 M1 (0 + 1) = 0 := c38g x1.1
  have hcl1 : cl S.N S.w (0 + 13) M1 := C1.2.2.1.1
  have e110 : v110 M1 6 (nI (S.w 0)) = nI (S.w 0 + 2 * s + 24) := by
    unfold v110
    rw [x1.2.2.1, q_2, q_24, pk_mul, nI_add, nI_add]
  obtain ⟨M2, hM2⟩ : ∃ M2, M2 = radd (radd (rclr M1) 0 (nI s)) 1 (nI (S.w 0 + 2 * s + 24)) := ⟨_, rfl⟩
  have h74 : ∀ d, lt_ev (d + 4) 74 [.inr (.inr (some 0)), .inl (nI s), .inl (nI (S.w 0 + 2 * s + 24))] M1 = some (none, M2) := fun d => by rw [hM2]; exact k74 d
  have fm : same M1 M2 := by rw [hM2]; exact same_tr same_rclr (same_tr same_radd same_radd)
  have fo : ∀ b, b ≠ 4 → b ≠ 5 → M2.1 b = M1.1 b := fun b b1 b2 => by rw [hM2]; unfold radd rclr; rw [lm_i_ne b1, lm_i_ne b2, lm_i_ne b1, lm_i_ne b2, lm_i_ne b1]
  have r2 : M2.2 = M1.2 := by rw [hM2]; rfl
  have rc : rwC [nI s, nI (S.w 0 + 2 * s + 24)] M2 := by rw [hM2]; exact rwC_add (vs := [nI s]) (rwC_add (vs := []) (rwC_clr M1))
  have C2 : CS dsD wlD T S.rd M2 := CS_fr (fun b k hb hk => fm.2.2 b k hk) ⟨fm.1, fm.2.1⟩ C1
  have hA1 : ts_sh M1.2.2.1 = (0, 5) := by rw [f1.2]; exact h.sA
  have hrs1 : nR S.N M2.2.2.1 M2 ∧ AR S.N M2.2.2.1 (dsN S.N.2.2.1 S.N.1) M2 := by
    obtain ⟨⟨A, B, n1, n2, n3, n4, n5, n6, n7⟩, -⟩ := C2
    rw [n1]
    exact ⟨n5, fun a b ha hb => n7.1 a b ha hb⟩
  have hA2 : ts_sh M2.2.2.1 = (0, 5) := by rw [r2]; exact hA1
  refine ⟨M2, hcls.trans ?_, C2, by simp, rc⟩
  have v3 : v102 M2 6 (nI 0) = nI (r 0) := by
    unfold v102
    rw [fo 6 (by omega) (by omega), x1.2.1, if_neg (by decide), if_neg (by rw [sp_len (by omega) (by omega)]; omega), c16 (by omega) (by omega), fo 7 (by omega) (by omega)]
    exact x1.2.2.2 0 (by omega)
  have v4 : v102 M2 6 (nI k - 1) = nI (r (k - 1)) := by
    rw [c102 (r := r) (by omega) (by rw [fo 6 (by omega) (by omega)]; exact x1.2.1) (fun j hj => by rw [fo 7 (by omega) (by omega)]; exact x1.2.2.2 j hj), if_neg (by omega)]
  have a6 : (M1.1 (0 + 6) 2) = nI s := x1.2.2.1
  have a61 : (M2.1 (0 + 6) 1) = nI k := by rw [show (0 + 6 : Nat) = 6 from rfl, fo 6 (by omega) (by omega)]; exact x1.2.1
  have a62 : (M2.1 (0 + 6) 2) = nI s := by rw [show (0 + 6 : Nat) = 6 from rfl, fo 6 (by omega) (by omega)]; exact x1.2.2.1
  have e110' : v110 M1 (0 + 6) (nI (S.w 0)) = nI (S.w 0 + 2 * s + 24) := e110
  have v3' : v102 M2 (0 + 6) (0 : Int32) = nI (r 0) := v3
  have v4' : v102 M2 (0 + 6) (nI k - 1) = nI (r (k - 1)) := v4
  rw [ev, if_pos rfl, hcl1.1, p110 (d + 10) (0 + 6) _ s_6 M1, lt_cI_s, e110', a6, h74 (d + 7), lt_cV_s, p102 (d + 9) (0 + 6) _ s_6 M2, lt_cI_s, v3', a61, p102 (d + 9) (0 + 6) _ s_6 M2, lt_cI_s, v4', lt_gd_t hA2, p18 (d + 9) _ _ _ hA2 M2, lt_cI_s, c18 hrs1.1 hN hrs1.2 (hok1 0 (by omega)) (hok1 (k - 1) (by omega)), a62, pk_sub hds]
/-- end -/
theorem q_end (d : Nat) (h : cP T S vs m) {n : Nat} (hn : n ≤ S.tk) : ∃ m', lt_ev (d + 12) 28 [.inr (.inr (some 0)), .inl (nI n)] m = some (some (.inl 1), m') ∧ cP T (ST.mk S.N S.w S.tx n S.z S.D S.l S.pw S.kb S.kw) vs m' := by
  obtain ⟨t1, t2, t4⟩ := h.1.2.1
  have hv : v27 m (0 + 1 + 1) = nI S.tk := t2
  refine ⟨lm_i m 2 1 (nI n), (E28 (d + 11) 0 _ sx m).trans ?_, CS_tx (fun b b1 b2 b3 => lm_i_ne b1) rfl (by omega) lm_i_eq (fun j hj => by rw [lm_i_ne (by decide)]; exact t4 j (by omega)) h.1, h.2.1, rwC_eq (lm_i_ne (by decide)) (lm_i_ne (by decide)) h.2.2⟩
  rw [if_neg (nI_pos (by omega)), p27 (d + 10) (0 + 1 + 1) s2 m, lt_cI_s, hv, if_pos (by rw [sp_len (by omega) (by omega)]; omega)]
  have e20 : lt_ev (d + 11) 20 [.inr (.inr (some (0 + 1 + 1))), .inl (nI n)] m = some (none, lm_i m 2 1 (nI n)) := by
    refine (E20 (d + 10) (0 + 1 + 1) _ s2 m).trans ?_
    rw [if_neg (nI_pos (by omega)), show m.1 (0 + 1 + 1) 1 = nI S.tk from t2, if_neg (by rw [sp_ltn (by omega) (by omega)]; omega)]
  rw [e20, lt_cV_s]
/-- sign -/
theorem q_sign (d : Nat) (h : cP T S vs m) (x : Int32) (c : S.tk + 4 ≤ 200) : ∃ m', lt_ev (d + 12) 26 [.inr (.inr (some 0)), .inl x] m = some (some (.inl (nI (S.tk + 4))), m') ∧ cP T (ST.mk S.N S.w (sgT x S.tk S.tx) (S.tk + 4) S.z S.D S.l S.pw S.kb S.kw) vs m' := by
  obtain ⟨t1, t2, t4⟩ := h.1.2.1
  have hv : v27 m (0 + 1 + 1) = nI S.tk := t2
  have hcls : lt_ev (d + 12) 26 [.inr (.inr (some 0)), .inl x] m = _ := E26 (d + 11) 0 _ sx m
  have hle : nI (S.tk + 4) ≤ nI 200 := nI_le c (by decide)
  rw [p27 (d + 10) (0 + 1 + 1) s2 m, lt_cI_s, hv, q_4, nI_add, q_200, if_pos hle] at hcls
  obtain ⟨p1, p2, p3, p4⟩ := sgC_p (x := x) (tx := S.tx) t2 (fun j hj => (t4 j hj).2) 4
  obtain ⟨MC, hMC⟩ : ∃ MC, MC = sgC x S.tk m 4 := ⟨_, rfl⟩
  rw [← hMC] at p1 p2 p3 p4
  have hT : ∀ j, j < S.tk + 4 → sgT x S.tk S.tx j < 256 := fun j hj => by
    unfold sgT
    split
    · next q => exact (t4 j q).1
    · exact (sgB_e x _).1
  have C1 : CS dsD wlD T (ST.mk S.N S.w (sgT x S.tk S.tx) (S.tk + 4) S.z S.D S.l S.pw S.kb S.kw) MC := CS_tx (fun b b1 b2 b3 => p4 b b1 b2) p3 c p1 (fun j hj => ⟨hT j hj, p2 j hj⟩) h.1
  refine ⟨MC, hcls.trans ?_, C1, h.2.1, rwC_eq (p4 4 (by decide) (by decide)) (p4 5 (by decide) (by decide)) h.2.2⟩
  rw [show (24 : Int32) = cn24 0 by decide]
  refine lp_it (F := fun k (_ : Unit) => L26_25 (d + 11) 0 x (cn24 k) (sgC x S.tk m k)) 4 ?_ ?_ ()
  · intro k _ hk
    refine ⟨(), ?_⟩
    obtain ⟨g1, -, -, -⟩ := sgC_p (x := x) (tx := S.tx) t2 (fun j hj => (t4 j hj).2) k
    have e23 : lt_ev (d + 11) 23 [.inr (.inr (some (0 + 1 + 1))), .inl (nI (sgB x k))] (sgC x S.tk m k) = some (none, sgC x S.tk m (k + 1)) := by
      refine (E23 (d + 10) (0 + 1 + 1) _ s2 _).trans ?_
      rw [show (sgC x S.tk m k).1 (0 + 1 + 1) 1 = nI (S.tk + k) from g1, if_neg (by rw [q_200, sp_len (by omega) (by omega)]; omega), k17 (d + 9) (a := 0 + 1 + 1 + 1) (n := 200) (sf_of s2 0 (by decide) (by decide)) (by omega) (by decide), lt_cV_s, show (lm_i (sgC x S.tk m k) (0 + 1 + 1 + 1) (S.tk + k) (nI (sgB x k))).1 (0 + 1 + 1) 1 = nI (S.tk + k) by rw [lm_i_ne (by decide)]; exact g1, nI_1]
      rfl
    rw [E26_25 _ _ _ _ sx, if_neg (cn_p hk).1, (sgB_e x k).2, e23, lt_cV_s, cn24_s hk]
  · intro _
    rw [E26_25 _ _ _ _ sx, if_pos (by decide), ← hMC, p27 (d + 10) (0 + 1 + 1) s2 MC, lt_cI_s]
    unfold v27
    rw [show MC.1 (0 + 1 + 1) 1 = nI (S.tk + 4) from p1]
/-- net: a good text -/
theorem q_net (d : Nat) (h : cP T S vs m) {N' : NT} {q : Nat} (hnt : ntP S.tx S.tk = .inr (N', q)) : ∃ m', lt_ev (d + 12) 29 [.inr (.inr (some 0))] m = some (some (.inl (nI N'.1)), m') ∧ cP T (ST.mk N' (fun _ => 0) S.tx 0 (nI q) 0 S.l S.pw 0 S.kw) [] m' := by
  have hC := h.1
  have hC0 := hC
  obtain ⟨⟨A, B, n1, n2, n3, n4, n5, n6, n7⟩, ⟨t1, t2, t4⟩, q3, ⟨i1, i2, i3, i5, i6, i7, i8, i10⟩, i11, i12, i13⟩ := hC0
  have hB : ts_sh B = (0, 5) := by
    rcases n3 with ⟨-, rfl⟩ | ⟨-, rfl⟩ <;> decide +kernel
  have hB2 : 13 ≤ B := by omega
  have hB6 : ∃ s, s ≤ 200 ∧ m.1 (B + 6) 1 = nI s := by
    obtain ⟨-, -, -, -, s, t, hs1, ht1, h701, h709⟩ := n7
    rcases n3 with ⟨-, rfl⟩ | ⟨-, rfl⟩
    · exact ⟨t, ht1, h709⟩
    · exact ⟨s, hs1, h701⟩
  obtain ⟨s, hs2, h6⟩ := hB6
  have s1 : ts_sh (0 + 1) = (0, 6) := s_1
  obtain ⟨M1, e1, f1, r1, x1⟩ := k30 (tx := S.tx) (tk := S.tk) hB hB2 ⟨t1, t2, t4⟩ hs2 h6
  have hcls : lt_ev (d + 12) 29 [.inr (.inr (some 0))] m = (lt_cI (lt_ev (d + 11) 38 [.inr (.inr (some (0 + 1)))] M1) (fun v1 m2 => (if v1 = 0 then (lt_cV (lt_ev (d + 11) 53 [.inr (.inr (some (0 + 13)))] (lm_net (lm_draft m2 (m2.2.2.1)) (m2.2.2.2.1))) (fun m3 => (lt_cV (lt_ev (d + 11) 55 [.inr (.inr (some (0 + 81)))] m3) (fun m4 => (lt_cV (lt_ev (d + 11) 56 [.inr (.inr (some (0 + 4)))] m4) (fun m5 => (lt_gd (ts_sh (m5.2.2.1) = (0, 5)) (some (some (.inl (m5.1 (m5.2.2.1) 6)), m5))))))))) else (lt_cI (lt_ev (d + 11) 52 [.inr (.inr (some (0 + 1)))] m2) (fun v2 m6 => (some (some (.inl v2), m6))))))) := by
    refine (E29 (d + 11) 0 sx m).trans ?_
    have e1' : lt_ev (d + 11) 30 [.inr (.inr (some B)), .inr (.inr (some (0 + 1)))] m = some (none, M1) := e1 (d + 3)
    rw [n2, lt_gd_t hB, e1', lt_cV_s]
  rw [hnt] at x1
  obtain ⟨x2, x3, x4, x5, x6⟩ : M1.1 1 2 = -1 ∧ nR N' B M1 ∧ M1.1 B 7 = nI q ∧ AR N' B (dsN N'.2.2.1 N'.1) M1 ∧ CT B (wtx N') M1 := x1
  obtain ⟨hwf, hlen, hz⟩ := ntP_ok hnt
  obtain ⟨Ms, hMe⟩ : ∃ Ms, Ms = lm_net (lm_draft M1 (M1.2.2.1)) (M1.2.2.2.1) := ⟨_, rfl⟩
  have hs1 : Ms.1 = M1.1 := by rw [hMe]; rfl
  have hs2' : Ms.2.1 = m.2.1 ∧ Ms.2.2.1 = B ∧ Ms.2.2.2.1 = A := by
    rw [hMe]
    refine ⟨by show M1.2.1 = _; rw [f1.2], by show M1.2.2.2.1 = _; rw [f1.2]; exact n2, by show M1.2.2.1 = _; rw [f1.2]; exact n1⟩
  obtain ⟨M3, e3, y4, y5, y6, y7, yb, yk, y8, y9⟩ := k53 Ms
  obtain ⟨M5, hM5⟩ : ∃ M5, M5 = lm_i (lm_i (lm_i M3 81 4 0) 81 2 0) 4 1 0 := ⟨_, rfl⟩
  have o5 : ∀ b, b ≠ 81 → b ≠ 4 → M5.1 b = M3.1 b := fun b h1 h2 => by rw [hM5, lm_i_ne h2, lm_i_ne h1, lm_i_ne h1]
  have o35 : ∀ b, ¬ (13 ≤ b ∧ b < 82) → b ≠ 4 → M5.1 b = M1.1 b := fun b h1 h2 => by rw [o5 b (by omega) h2, y8 b (by omega), hs1]
  have r5 : M5.2 = Ms.2 := by rw [hM5]; exact y9
  have hnm : nmR 13 M5 := fun i hi => by
    have := i11 i hi
    rw [o5 (13 + 3 + 5 + 3 * i) (by omega) (by omega), yk i hi 0 (by omega), yk i hi 11 (by omega), hs1, f1.1 (13 + 3 + 5 + 3 * i) (by omega) (by omega) (by omega)]
    exact this
  have hled : LED N' (fun _ => 0) 13 T M5 := LED_0 (by rw [o5 13 (by decide) (by decide)]; exact y4) (by rw [o5 13 (by decide) (by decide)]; exact y5) (by rw [o5 13 (by decide) (by decide)]; exact y6) (fun i hi => by rw [o5 (13 + 3 + 5 + 3 * i) (by omega) (by omega)]; exact y7 i hi) (by rw [o5 17 (by decide) (by decide)]; exact yb) hnm
  have hBr : ∀ b, B ≤ b → b < B + 8 → M5.1 b = M1.1 b := fun b b1 b2 => o35 b (by omega) (by omega)
  have C1 : CS dsD wlD T (ST.mk N' (fun _ => 0) S.tx 0 (nI q) 0 S.l S.pw 0 S.kw) M5 := by
    refine CS_net n2 hwf (by rw [o35 2 (by omega) (by omega)]; exact r1) (by rw [r5]; exact hs2'.2.1) (by rw [r5, n1]; exact hs2'.2.2) (nR_fr hBr x3) (by rw [hBr B (by omega) (by omega)]; exact x4) (fun a b ha hb => by rw [hBr (B + 4) (by omega) (by omega)]; exact x5 a b ha hb) ⟨by rw [hBr (B + 6) (by omega) (by omega)]; exact x6.1, fun j v hj => by rw [hBr (B + 6 + 1) (by omega) (by omega)]; exact x6.2 j v hj⟩ (by omega) (fun b b1 b2 b3 => by rw [o35 b (by omega) (by omega), f1.1 b (by omega) (by omega) b3]) hled hnm ?_ ?_ ?_ hC
    · rw [hM5, lm_i_ne (by decide), lm_i_ns (by omega), lm_i_eq]
    · rw [hM5, lm_i_ne (by decide), lm_i_ns (by omega), lm_i_ns (by omega), y8 81 (by omega), hs1, f1.1 81 (by omega) (by omega) (by omega)]
    · rw [hM5, lm_i_ne (by decide), lm_i_eq]
  have n6' : M5.1 B 6 = nI N'.1 := by rw [hBr B (by omega) (by omega)]; exact x3.1
  refine ⟨M5, hcls.trans ?_, C1, Nat.zero_le _, by rw [hM5]; exact lm_i_eq, fun j v hj => by simp at hj⟩
  have e3' := e3 (d + 9)
  have s81' : ts_sh (0 + 81) = (0, 1) := s81
  have s4 : ts_sh (0 + 4) = (0, 8) := sf_of sx 1 (by decide) (by decide)
  rw [p38 (d + 10) _ s1 M1, lt_cI_s, show v38 M1 (0 + 1) = 0 from c38g x2, if_pos rfl, ← hMe, e3', lt_cV_s, E55 (d + 10) _ s81' M3, lt_cV_s, E56 (d + 10) _ s4 _, lt_cV_s]
  show lt_gd (ts_sh ((lm_i (lm_i (lm_i M3 81 4 0) 81 2 0) 4 1 0).2.2.1) = (0, 5)) (some (some (.inl ((lm_i (lm_i (lm_i M3 81 4 0) 81 2 0) 4 1 0).1 ((lm_i (lm_i (lm_i M3 81 4 0) 81 2 0) 4 1 0).2.2.1) 6)), lm_i (lm_i (lm_i M3 81 4 0) 81 2 0) 4 1 0)) = _
  rw [← hM5, show M5.2.2.1 = B by rw [r5]; exact hs2'.2.1, lt_gd_t hB, n6']
end CPS

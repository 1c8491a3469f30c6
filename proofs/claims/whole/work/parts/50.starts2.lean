/-! ===== starts ===== -/
section OS
variable {dist wl : DT} {T : Nat} {m : lt_m}
theorem op_starts (d : Nat) (hT : T < 2 ^ 30) (hr : RR dist wl T m) (x y z : Int32) : OP dist wl d T (T + 1) 100 223 [.inl x, .inl y, .inl z] m := by
  obtain ⟨N, w, vs, hs, hl, hc, hm⟩ := hr
  obtain ⟨S, rfl, rfl, hC, hM⟩ := RS_split hs
  have hw := hs.wfL
  have hN := hs.wfN
  have h99 := hw.1
  have h6 := hw.2.1
  have h20 := hw.2.2.1
  have bg := hN.2.2.1
  obtain ⟨htk, -, htx⟩ := hC.2.1
  obtain ⟨M1, e1, C1, f1, x1⟩ := rd_C hC hs.sA hs.nR hN
  have hMs : MS S (lm_i M1 711 15 0) := MS_t0 (MS_fr (m := m) (fun b k hb _ => by rw [f1.1 b (by omega) (by omega) (by omega) (by omega)]) hM)
  obtain ⟨M2, e2, C2, f2, x2⟩ := rd_M hMs htk (fun j hj => (htx j hj).1) hN
  have hA1 : ts_sh M1.2.2.1 = (0, 5) := by rw [f1.2]; exact hs.sA
  have hn1 : nR S.N M1.2.2.1 M1 := by
    obtain ⟨⟨A, B, n1, n2, n3, n4, n5, -⟩, -⟩ := C1
    rw [n1]; exact n5
  have hcl1 : cl S.N S.w (0 + 13) M1 := C1.2.2.1.1
  have hml2 : ml S.N S.w 711 M2 := MS_ml (S := S.rd) C2
  have e101 : lt_ev (d + 29) 101 [.inr (.inr (some (0 + 6))), .inr (.inr (some (0 + 1))), .inr (.inr (some m.2.2.1))] m = some (none, M1) := e1 (d + 25)
  have hcls : lt_ev (d + 30) 100 [.inr (.inr (some 0)), .inl x, .inl y, .inl z] m = _ := E100 (d + 29) 0 _ _ _ sx m
  rw [e101, lt_cV_s, p38 (d + 28) (0 + 1) s_1 M1, lt_cI_s] at hcls
  have hmod : lt_ev (d + 30) 223 [.inr (.inr (some 711)), .inl x, .inl y, .inl z] M1 = _ := E223 (d + 29) 711 _ _ _ sy M1
  rw [e2 (d + 25), lt_cV_s] at hmod
  have fin : ∀ v, lt_ev (d + 30) 100 [.inr (.inr (some 0)), .inl x, .inl y, .inl z] m = some (some v, M1) → lt_ev (d + 30) 223 [.inr (.inr (some 711)), .inl x, .inl y, .inl z] M1 = some (some v, M2) → OP dist wl d T (T + 1) 100 223 [.inl x, .inl y, .inl z] m := fun v h1 h2 => by
    refine OP_w (S' := S.rd) (vs := vs) v h1 (CS_mono (Nat.le_succ T) C1) ⟨f1.1 4 (by omega) (by omega) (by omega) (by omega), f1.1 5 (by omega) (by omega) (by omega) (by omega), by rw [f1.1 711 (by omega) (by omega) (by omega) (by omega)], by rw [f1.2]⟩ h2 C2 (fun b hb => ?_) ?_ ?_ hl hc hm
    · rw [show M2.1 b = (lm_i M1 711 15 0).1 b from funext fun k => f2.1 b k (by omega), lm_i_ne (by omega)]
    · rw [f2.1 711 14 (by omega), lm_i_ns (by omega)]
    · rw [f2.2]; rfl
  cases hx : rtN S.N.2.2.1 S.N.1 S.tx S.tk 8 0 (fun _ => 0) 0 0 with
  | inl e =>
    rw [hx] at x1 x2
    simp only at x1 x2
    have ev : v38 M1 (0 + 1) = 1 := c38b (e := e) x1 x2.1
    have e52 : v52 M1 (0 + 1) = (-21 : Int32) - nI e := by unfold v52; rw [show M1.1 (0 + 1) 2 = nI e from x1]
    refine fin (.inl ((-21 : Int32) - nI e)) (hcls.trans ?_) (hmod.trans ?_)
    · rw [ev, if_neg (by decide), p52 (d + 28) (0 + 1) s_1 M1, lt_cI_s, e52]
    · rw [x2.2, if_neg (by have := x2.1; rw [sp_m1 (by omega)]; exact not_false)]
  | inr q =>
    obtain ⟨k, r, s⟩ := q
    rw [hx] at x1 x2
    simp only at x1 x2
    obtain ⟨k2, k8, hok1, hok2, hok3⟩ := rtN_ok 8 0 (fun _ => 0) 0 0 k r s rfl (Nat.zero_le _) ⟨fun j hj => absurd hj (Nat.not_lt_zero j), fun j hj => absurd hj (Nat.not_lt_zero _), rfl⟩ hx
    have hsb : s ≤ 693 := by
      rw [hok3]
      have := sumN_bound (n := k - 1) (c := 99) (f := fun j => S.N.2.2.1 (r j) (r (j + 1))) (fun j hj => hN.2.2.2.1 _ _ (hok1 j (by omega)) (hok1 (j + 1) (by omega)))
      have : (k - 1) * 99 ≤ 7 * 99 := Nat.mul_le_mul_right _ (by omega)
      omega
    have ev : v38 M1 (0 + 1) = 0 := c38g x1.1
    rw [ev, if_pos rfl, p90 (d + 28) _ _ sL M1, lt_cI_s] at hcls
    rw [x2.1, if_pos rfl, m213 (d + 27) sy hml2 hw, lt_cI_s] at hmod
    rcases c90 hcl1 hw x with ⟨t, ht, rfl, et⟩ | ⟨hxb, et⟩
    · rw [et, if_neg (by decide), lt_gd_t hA1, p103 (d + 28) _ _ hA1 M1, lt_cI_s] at hcls
      rw [sp_i1 ht (by omega), if_neg (by decide), m226 (d + 27) sy hml2 hN, lt_cI_s] at hmod
      have bt := hw.2.2.2.2.1 t ht
      rcases c103 hn1 hN y with ⟨g, hg, rfl, eg⟩ | ⟨hyb, eg⟩
      · rw [eg, if_neg (by decide)] at hcls
        rw [sp_i1 hg (by omega), if_neg (by decide), k181 (d + 28), lt_cI_s, sp_tt, show (1 : Int64).toInt = 1 by decide, show (999 : Int64).toInt = 999 by decide] at hmod
        have bdu := hN.2.2.2.2.2.2.2 g hg
        have badu : ¬ (1 ≤ z.toInt ∧ z.toInt ≤ 999) → OP dist wl d T (T + 1) 100 223 [.inl (nI t), .inl (nI g), .inl z] m := fun hz => by
          refine fin (.inl (-1)) (hcls.trans ?_) (hmod.trans ?_)
          · by_cases c : z < 1
            · rw [if_pos c]
            · rw [if_neg c, if_neg]
              have e1 : (1 : Int32).toInt = 1 := by decide
              have e9 : (999 : Int32).toInt = 999 := by decide
              rw [Int32.lt_iff_toInt_lt, e1] at c
              rw [Int32.le_iff_toInt_le, e9]
              omega
          · rw [if_neg hz, if_neg (by decide)]
        rcases pk_ix z (n := 1000) (by omega) with c | c | ⟨u, hu, rfl⟩
        · refine badu ?_
          have e1 : (0 : Int32).toInt = 0 := by decide
          rw [Int32.lt_iff_toInt_lt, e1] at c
          omega
        · refine badu ?_
          rw [Int32.le_iff_toInt_le, nI_toInt (by omega)] at c
          omega
        by_cases u0 : u = 0
        · refine badu ?_
          subst u0
          rw [nI_toInt (by omega)]
          omega
        have hz1 : 1 ≤ (nI u).toInt ∧ (nI u).toInt ≤ 999 := by rw [nI_toInt (by omega)]; omega
        have g2 : (0 : Int32) ≤ 2 ∧ (2 : Int32).toNatClampNeg < 626 := by decide
        rw [if_neg (by rw [q_1, sp_ltn (by omega) (by omega)]; omega), if_pos (by rw [q_999, sp_len (by omega) (by omega)]; omega), p104 (d + 27) _ sL M1, lt_cR_s] at hcls
        rw [if_pos hz1, if_pos (by decide), lt_gd_t g2, w2_at hml2] at hmod
        have e104 : v104 M1 (0 + 13) = if S.w 2 = 20 then none else some (0 + 13 + 3 + 5 + 3 * S.w 2) := by
          unfold v104 v105
          rw [hcl1.2.2.1, if_neg (nI_pos (by omega)), nI_clamp (by omega)]
          by_cases c : S.w 2 = 20
          · rw [if_pos (by rw [q_20, sp_len (by omega) (by omega)]; omega), if_pos c]
          · rw [if_neg (by rw [q_20, sp_len (by omega) (by omega)]; omega), if_neg c]
        by_cases c20 : S.w 2 = 20
        · refine fin (.inl (-2)) (hcls.trans ?_) (hmod.trans ?_)
          · rw [e104, if_pos c20, lt_nl_n]
          · rw [c20, if_neg (fun q => q rfl)]
        have hn20 : S.w 2 < 20 := by omega
        have hqs : ts_sh (0 + 13 + 3 + 5 + 3 * S.w 2) = (0, 4) := sh_mv sL hn20
        have hprod : u * S.N.2.2.2.2 g ≤ 999 * 999 := Nat.mul_le_mul (by omega) bdu.2
        obtain ⟨sh, hsh⟩ : ∃ sh, sh = shN (u * S.N.2.2.2.2 g) (S.w (5 + 2 * t)) := ⟨_, rfl⟩
        have hshb : sh ≤ 999 * 999 + 9 := by
          have := shN_le (v := u * S.N.2.2.2.2 g) (l := S.w (5 + 2 * t))
          omega
        have hdu2 : M2.1 (711 + 6) (nI g).toNatClampNeg = nI (S.N.2.2.2.2 g) := by rw [nI_clamp (by omega)]; exact hml2.2.2.2.2.1 g hg
        rw [e104, if_neg c20, lt_nl_s, lt_gd_t hA1, p25 (d + 27) _ _ hA1 M1, lt_cI_s, c25 hn1 hN hg, p95 (d + 27) _ _ sL M1, lt_cI_s, c95 hcl1 hw ht, pk_mul, k106 (d + 27) bt.2.1 (by omega), lt_cI_s, ← hsh, k96 (d + 26) sL hcl1 hw ht, lt_cI_s] at hcls
        rw [if_pos (by rw [q_20, sp_eqn (by omega) (by omega)]; exact c20), m218 (d + 28) sy hml2 (by omega), lt_cI_s, lt_gd_t (sp_gd (by omega) (by omega)), hdu2, pk_mul, m227 (d + 28) bt.2.1 (by omega), lt_cI_s, ← hsh, m219 (d + 24) sy hml2 hw ht, lt_cI_s] at hmod
        by_cases cf : sh ≤ S.w (4 + 2 * t) - w_used S.w t
        · rw [if_pos (by rw [sp_len (by omega) (by omega)]; exact cf)] at hcls hmod
          obtain ⟨M3, e3, C3, r3, g3⟩ := k81 C1
          have hfit : w_used S.w t + sh ≤ S.w (4 + 2 * t) := by have := bt.2.2; omega
          obtain ⟨Ma, Mb, Mc, a1, a2, a3, a4, a5, a6, a7, a8, a9⟩ := k_start (S := S.rd.rem) (u := u) (sh := sh) (s := s) C3 hT hN hn20 ht hg ⟨by omega, by omega⟩ hsb ⟨k2, k8⟩ hok1 hok2 hfit (by rw [g3 6 (by omega)]; exact x1.2.1) (by rw [g3 6 (by omega)]; exact x1.2.2.1) (fun j hj => by rw [g3 7 (by omega)]; exact x1.2.2.2 j hj)
          have fc : ∀ b, b < 13 ∨ 695 ≤ b → Mc.1 b = M1.1 b := fun b hb => by rw [a9 b (by omega), g3 b (by omega)]
          have hMc : MS S (lm_i Mc 711 15 0) := MS_t0 (MS_fr (m := m) (fun b k hb _ => by rw [fc b (by omega), f1.1 b (by omega) (by omega) (by omega) (by omega)]) hM)
          obtain ⟨Md, ed, Cd, fd, xd⟩ := rd_M hMc htk (fun j hj => (htx j hj).1) hN
          rw [hx] at xd
          simp only at xd
          obtain ⟨Me, ee, Ce, re, fe⟩ := m211 Cd hC.2.2.2.1.1
          have hmld : ml S.N S.w 711 Md := MS_ml (S := S.rd) Cd
          obtain ⟨Mf, ef, wf, rf, ff⟩ := m_start (m := Me) (w := S.w) (n := S.w 2) (t := t) (g := g) (u := u) (sh := sh) (k := k) (s := s) (h := S.w 0) (r := r) Ce.2.2.1 hn20 rfl rfl k8 hw.2.2.2.1 (by rw [fe 711 26 (by omega)]; exact xd.2.1) (by rw [fe 711 27 (by omega)]; exact xd.2.2.1) (fun j hj => by rw [fe 723 j (by omega)]; exact xd.2.2.2 j hj)
          have Cf : MS (S.rd.rem.setw (wnote (startW S.w (S.w 2) (stF t g u sh (S.w 0 + 2 * s + 24) k (S.w 0) r)) 0 (S.w 2) (S.w 0))) Mf := MS_up (fun b k hb hne _ => by rw [ff b hne]) wf Ce
          have hmod2 : lt_ev (d + 30) 223 [.inr (.inr (some 711)), .inl (nI t), .inl (nI g), .inl (nI u)] Mc = _ := E223 (d + 29) 711 _ _ _ sy Mc
          have hdu3 : Md.1 (711 + 6) (nI g).toNatClampNeg = nI (S.N.2.2.2.2 g) := by rw [nI_clamp (by omega)]; exact hmld.2.2.2.2.1 g hg
          have e2n : Me.1 (711 + 1) (2 : Int32).toNatClampNeg = nI (S.w 2) := by rw [show (2 : Int32).toNatClampNeg = 2 by decide]; exact Ce.2.2.1 2 (by omega)
          rw [ed (d + 25), lt_cV_s, xd.1, if_pos rfl, m213 (d + 27) sy hmld hw, lt_cI_s, sp_i1 ht (by omega), if_neg (by decide), m226 (d + 27) sy hmld hN, lt_cI_s, sp_i1 hg (by omega), if_neg (by decide), k181 (d + 28), lt_cI_s, sp_tt, show (1 : Int64).toInt = 1 by decide, show (999 : Int64).toInt = 999 by decide, if_pos hz1, if_pos (by decide), lt_gd_t g2, w2_at hmld, if_pos (by rw [q_20, sp_eqn (by omega) (by omega)]; exact c20), m218 (d + 28) sy hmld (by omega), lt_cI_s, lt_gd_t (sp_gd (by omega) (by omega)), hdu3, pk_mul, m227 (d + 28) bt.2.1 (by omega), lt_cI_s, ← hsh, m219 (d + 24) sy hmld hw ht, lt_cI_s, if_pos (by rw [sp_len (by omega) (by omega)]; exact cf), ee (d + 28), lt_cV_s, lt_gd_t g2, lt_gd_t g2, lt_gd_t g2, e2n, nI_1, show (2 : Int32).toNatClampNeg = 2 by decide] at hmod2
          have f12 : ∀ b, b < 711 → Mf.1 b = Mc.1 b := fun b hb => by
            rw [ff b (by omega), show Me.1 b = Md.1 b from funext fun k => fe b k (by omega), show Md.1 b = (lm_i Mc 711 15 0).1 b from funext fun k => fd.1 b k (by omega), lm_i_ne (by omega)]
          refine OP_w (S' := S.rd.rem.setw (wnote (startW S.w (S.w 2) (stF t g u sh (S.w 0 + 2 * s + 24) k (S.w 0) r)) 0 (S.w 2) (S.w 0))) (m1 := Mc) (m2 := Mf) (vs := vs) (.inl (nI (S.w 2))) (hcls.trans ?_) a7 ⟨by rw [fc 4 (by omega), f1.1 4 (by omega) (by omega) (by omega) (by omega)], by rw [fc 5 (by omega), f1.1 5 (by omega) (by omega) (by omega) (by omega)], by rw [fc 711 (by omega), f1.1 711 (by omega) (by omega) (by omega) (by omega)], by rw [a8, r3, f1.2]⟩ (hmod2.trans ?_) Cf f12 ?_ ?_ hl hc hm
          · have e81 : lt_ev (d + 29) 81 [.inr (.inr (some (0 + 81))), .inr (.inr (some (0 + 13)))] M1 = some (none, M3) := e3 (d + 25)
            have e109 : lt_ev (d + 29) 109 [.inr (.inr (some (0 + 13 + 3 + 5 + 3 * S.w 2))), .inr (.inr (some (0 + 6))), .inl (nI (S.w 0))] Ma = some (none, Mb) := a3 (d + 26)
            have a2' : Ma.1 (0 + 13) 4 = nI (S.w 0) := a2
            have a4' : Mb.1 (0 + 13) 6 = nI (S.w 2) := a4
            have a6' : Mc.1 (0 + 13 + 3 + 5 + 3 * S.w 2) 0 = nI (S.w 2) := a6
            have a1' : lt_ev (d + 29) 108 [.inr (.inr (some (0 + 13 + 3 + 5 + 3 * S.w 2))), .inl (nI t), .inl (nI g), .inl (nI u), .inl (nI (u * S.N.2.2.2.2 g)), .inl (nI sh)] M3 = some (none, Ma) := a1 (d + 28)
            have a5' : lt_ev (d + 29) 111 [.inr (.inr (some (0 + 13))), .inl 0, .inr (.inr (some (0 + 13 + 3 + 5 + 3 * S.w 2)))] (lm_i Mb (0 + 13) 6 (nI (S.w 2 + 1))) = some (none, Mc) := a5 (d + 26)
            rw [e81, lt_cV_s, lt_gd_t hqs, a1', lt_cV_s, a2', e109, lt_cV_s, a4', nI_1, a5', lt_cV_s, a6']
          · exact ef (d + 28)
          · rw [ff 711 (by decide), fe 711 14 (by omega), fd.1 711 14 (by omega), lm_i_ns (by omega)]
          · rw [rf, re, fd.2]; rfl
        · rw [if_neg (by rw [sp_len (by omega) (by omega)]; exact cf)] at hcls hmod
          exact fin (.inl (-3)) hcls hmod
      · refine fin (.inl (-1)) (hcls.trans ?_) (hmod.trans ?_)
        · rw [eg, if_pos rfl]
        · rw [sp_i0 (by omega) hyb, if_pos rfl]
    · refine fin (.inl (-1)) (hcls.trans ?_) (hmod.trans ?_)
      · rw [et, if_pos rfl]
      · rw [sp_i0 (by omega) hxb, if_pos rfl]
end OS

/-! ===== detour ===== -/
theorem rt_ds {H : Nat → Nat → Nat} {n k s : Nat} {r : Nat → Nat} (h : rtOK H n k r s) (hk : 0 < k) : dsN H n (r 0) (r (k - 1)) ≤ s := by
  obtain ⟨h1, h2, h3⟩ := h
  have key : ∀ j i, i + j = k - 1 → sumN (fun t => H (r t) (r (t + 1))) i + dsN H n (r i) (r (k - 1)) ≤ sumN (fun t => H (r t) (r (t + 1))) (k - 1) := by
    intro j
    induction j with
    | zero => intro i hi; have hi : i = k - 1 := hi; subst hi; rw [ds_self]; exact Nat.le_refl _
    | succ j ih =>
      intro i hi
      have a := ih (i + 1) (by omega)
      have b := ds_E (b := r (k - 1)) (h1 (i + 1) (by omega)) (h2 i (by omega))
      simp only [sumN] at a
      omega
  have := key (k - 1) 0 (by omega)
  rw [h3]
  simp only [sumN] at this
  omega
section DT2
variable {wl : DT} {T : Nat} {m : lt_m}
theorem op_detour (d : Nat) (hr : RR dsD wl T m) : OP dsD wl d T T 160 263 [] m := by
  obtain ⟨N, w, vs, hs, hl, hc, hm⟩ := hr
  obtain ⟨S, rfl, rfl, hC, hM⟩ := RS_split hs
  have hw := hs.wfL
  have hN := hs.wfN
  have hn2 := hN.2.1
  have h99 := hw.1
  obtain ⟨htk, -, htx⟩ := hC.2.1
  obtain ⟨M1, e1, C1, f1, x1⟩ := rd_C hC hs.sA hs.nR hN
  have e101 : lt_ev (d + 29) 101 [.inr (.inr (some (0 + 6))), .inr (.inr (some (0 + 1))), .inr (.inr (some m.2.2.1))] m = some (none, M1) := e1 (d + 25)
  have hcls : lt_ev (d + 30) 160 [.inr (.inr (some 0))] m = _ := E160 (d + 29) 0 sx m
  rw [e101, lt_cV_s, p38 (d + 28) (0 + 1) s_1 M1, lt_cI_s] at hcls
  have hmod : ∀ M, MS S (lm_i M 711 15 0) → ∃ M3, MS S.rd M3 ∧ mfr (lm_i M 711 15 0) M3 ∧ (match rtN S.N.2.2.1 S.N.1 S.tx S.tk 8 0 (fun _ => 0) 0 0 with
    | .inl e => e ≤ 200 ∧ M3.1 711 18 = nI e
    | .inr (k, r, s) => M3.1 711 18 = -1 ∧ M3.1 711 26 = nI k ∧ M3.1 711 27 = nI s ∧ ∀ j, j < k → M3.1 723 j = nI (r j)) ∧ lt_ev (d + 29) 224 [.inr (.inr (some 711))] (lm_i M 711 15 0) = some (none, M3) := fun M h => by
    obtain ⟨M3, e3, C3, f3, x3⟩ := rd_M h htk (fun j hj => (htx j hj).1) hN
    exact ⟨M3, C3, f3, x3, e3 (d + 25)⟩
  cases hx : rtN S.N.2.2.1 S.N.1 S.tx S.tk 8 0 (fun _ => 0) 0 0 with
  | inl e =>
    have hMs : MS S (lm_i M1 711 15 0) := MS_t0 (MS_fr (m := m) (fun b k hb _ => by rw [f1.1 b (by omega) (by omega) (by omega) (by omega)]) hM)
    obtain ⟨M2, C2, f2, x2, e2⟩ := hmod M1 hMs
    rw [hx] at x1 x2
    simp only at x1 x2
    have ev : v38 M1 (0 + 1) = 1 := c38b (e := e) x1 x2.1
    have e52 : v52 M1 (0 + 1) = (-21 : Int32) - nI e := by unfold v52; rw [show M1.1 (0 + 1) 2 = nI e from x1]
    refine OP_w (S' := S.rd) (vs := vs) (m1 := M1) (m2 := M2) (.inl ((-21 : Int32) - nI e)) (hcls.trans ?_) C1 ⟨f1.1 4 (by omega) (by omega) (by omega) (by omega), f1.1 5 (by omega) (by omega) (by omega) (by omega), by rw [f1.1 711 (by omega) (by omega) (by omega) (by omega)], by rw [f1.2]⟩ ((E263 (d + 29) 711 sy M1).trans ?_) C2 (fun b hb => ?_) ?_ ?_ hl hc hm
    · rw [ev, if_neg (by decide), p52 (d + 28) (0 + 1) s_1 M1, lt_cI_s, e52]
    · rw [e2, lt_cV_s, x2.2, if_neg (by have := x2.1; rw [sp_m1 (by omega)]; exact not_false)]
    · rw [show M2.1 b = (lm_i M1 711 15 0).1 b from funext fun k => f2.1 b k (by omega), lm_i_ne (by omega)]
    · rw [f2.1 711 14 (by omega), lm_i_ns (by omega)]
    · rw [f2.2]; rfl
  | inr q =>
    obtain ⟨k, r, s⟩ := q
    rw [hx] at x1
    simp only at x1
    obtain ⟨k2, k8, hok⟩ := rtN_ok 8 0 (fun _ => 0) 0 0 k r s rfl (Nat.zero_le _) ⟨fun j hj => absurd hj (Nat.not_lt_zero j), fun j hj => absurd hj (Nat.not_lt_zero _), rfl⟩ hx
    have hds := rt_ds hok (by omega)
    obtain ⟨hok1, hok2, hok3⟩ := hok
    have hsb : s ≤ 693 := by
      rw [hok3]
      have := sumN_bound (n := k - 1) (c := 99) (f := fun j => S.N.2.2.1 (r j) (r (j + 1))) (fun j hj => hN.2.2.2.1 _ _ (hok1 j (by omega)) (hok1 (j + 1) (by omega)))
      have : (k - 1) * 99 ≤ 7 * 99 := Nat.mul_le_mul_right _ (by omega)
      omega
    have ev : v38 M1 (0 + 1) = 0 := c38g x1.1
    have hcl1 : cl S.N S.w (0 + 13) M1 := C1.2.2.1.1
    have e110 : v110 M1 6 (nI (S.w 0)) = nI (S.w 0 + 2 * s + 24) := by
      unfold v110
      rw [x1.2.2.1, q_2, q_24, pk_mul, nI_add, nI_add]
    obtain ⟨M2, hM2⟩ : ∃ M2, M2 = radd (radd (rclr M1) 0 (nI s)) 1 (nI (S.w 0 + 2 * s + 24)) := ⟨_, rfl⟩
    have h74 : ∀ d, lt_ev (d + 4) 74 [.inr (.inr (some 0)), .inl (nI s), .inl (nI (S.w 0 + 2 * s + 24))] M1 = some (none, M2) := fun d => by rw [hM2]; exact k74 d
    have fm : same M1 M2 := by rw [hM2]; exact same_tr same_rclr (same_tr same_radd same_radd)
    have fo : ∀ b, b ≠ 4 → b ≠ 5 → M2.1 b = M1.1 b := fun b b1 b2 => by rw [hM2]; unfold radd rclr; rw [lm_i_ne b1, lm_i_ne b2, lm_i_ne b1, lm_i_ne b2, lm_i_ne b1]
    have r2 : M2.2 = M1.2 := by rw [hM2]; rfl
    have rc : rwC [nI s, nI (S.w 0 + 2 * s + 24)] M2 := by rw [hM2]; exact rwC_add (vs := [nI s]) (rwC_add (vs := []) (rwC_clr M1))
    have C2 : CS dsD wl T S.rd M2 := CS_fr (fun b k hb hk => fm.2.2 b k hk) ⟨fm.1, fm.2.1⟩ C1
    have hMs : MS S (lm_i M2 711 15 0) := MS_t0 (MS_fr (m := m) (fun b k hb _ => by rw [fo b (by omega) (by omega), f1.1 b (by omega) (by omega) (by omega) (by omega)]) hM)
    obtain ⟨M3, C3, f3, x3, e3⟩ := hmod M2 hMs
    rw [hx] at x3
    simp only at x3
    obtain ⟨M4, e4, t4, f4⟩ := m201 (w := S.w) hN (hok1 (k - 1) (by omega)) (MS_ml (S := S.rd) C3)
    obtain ⟨M5, hM5⟩ : ∃ M5, M5 = rtel (rtel (rzer M4) 0 (nI s).toInt64) 1 (nI (S.w 0 + 2 * s + 24)).toInt64 := ⟨_, rfl⟩
    have f5 : ∀ b k, ¬ (b = 711 ∧ k = 14) → M5.1 b k = M4.1 b k := fun b k hb => by rw [hM5]; unfold rtel rzer; rw [lm_i_ns hb, lm_l_1, lm_i_ns hb, lm_l_1, lm_i_ns hb]
    have low : ∀ b, b < 711 → M5.1 b = M2.1 b := fun b hb => funext fun j => by
      rw [f5 b j (by omega), f4.1 b (by omega), f3.1 b j (by omega), lm_i_ns (by omega)]
    have hA1 : ts_sh M1.2.2.1 = (0, 5) := by rw [f1.2]; exact hs.sA
    have hrs1 : nR S.N M2.2.2.1 M2 ∧ AR S.N M2.2.2.1 (dsN S.N.2.2.1 S.N.1) M2 := by
      obtain ⟨⟨A, B, n1, n2, n3, n4, n5, n6, n7⟩, -⟩ := C2
      rw [n1]
      exact ⟨n5, fun a b ha hb => n7.1 a b ha hb⟩
    have hA2 : ts_sh M2.2.2.1 = (0, 5) := by rw [r2]; exact hA1
    have rf0 : rfN S.N.2.2.1 S.N.1 (r (k - 1)) (r 0) = dsN S.N.2.2.1 S.N.1 (r 0) (r (k - 1)) := by unfold rfN; rw [if_pos (by omega)]
    refine ⟨.inl (nI (s - dsN S.N.2.2.1 S.N.1 (r 0) (r (k - 1)))), M2, M5, hcls.trans ?_, (E263 (d + 29) 711 sy M2).trans ?_, ⟨S.N, S.w, [nI s, nI (S.w 0 + 2 * s + 24)], ?_, by simp, ?_, ?_⟩⟩
    · have v3 : v102 M2 6 (nI 0) = nI (r 0) := by
        unfold v102
        rw [fo 6 (by omega) (by omega), x1.2.1, if_neg (by decide), if_neg (by rw [sp_len (by omega) (by omega)]; omega), c16 (by omega) (by omega), fo 7 (by omega) (by omega)]
        exact x1.2.2.2 0 (by omega)
      have v4 : v102 M2 6 (nI k - 1) = nI (r (k - 1)) := by
        rw [c102 (r := r) (by omega) (by rw [fo 6 (by omega) (by omega)]; exact x1.2.1) (fun j hj => by rw [fo 7 (by omega) (by omega)]; exact x1.2.2.2 j hj), if_neg (by omega)]
      have a6 : (M1.1 (0 + 6) 2) = nI s := x1.2.2.1
      have a61 : (M2.1 (0 + 6) 1) = nI k := by rw [show (0 + 6 : Nat) = 6 from rfl, fo 6 (by omega) (by omega)]; exact x1.2.1
      have a62 : (M2.1 (0 + 6) 2) = nI s := by rw [show (0 + 6 : Nat) = 6 from rfl, fo 6 (by omega) (by omega)]; exact x1.2.2.1
      have e110' : v110 M1 (0 + 6) (nI (S.w 0)) = nI (S.w 0 + 2 * s + 24) := e110
      have v3' : v102 M2 (0 + 6) (0 : Int32) = nI (r 0) := v3
      have v4' : v102 M2 (0 + 6) (nI k - 1) = nI (r (k - 1)) := v4
      rw [ev, if_pos rfl, hcl1.1, p110 (d + 28) (0 + 6) _ s_6 M1, lt_cI_s, e110', a6, h74 (d + 25), lt_cV_s, p102 (d + 27) (0 + 6) _ s_6 M2, lt_cI_s, v3', a61, p102 (d + 27) (0 + 6) _ s_6 M2, lt_cI_s, v4', lt_gd_t hA2, p18 (d + 27) _ _ _ hA2 M2, lt_cI_s, c18 hrs1.1 hN hrs1.2 (hok1 0 (by omega)) (hok1 (k - 1) (by omega)), a62, pk_sub hds]
    · have a0 : (0 : Int32).toNatClampNeg = 0 := by decide
      have m3k : M3.1 (711 + 12) (k - 1) = nI (r (k - 1)) := x3.2.2.2 (k - 1) (by omega)
      have h202a := m202 (m := rzer M4) (d + 28) (k := 0) (x := (nI s).toInt64) rfl (by decide)
      have h202b := m202 (m := rtel (rzer M4) 0 (nI s).toInt64) (d + 28) (k := 1) (x := (nI (S.w 0 + 2 * s + 24)).toInt64) (by unfold rtel; exact lm_i_eq) (by decide)
      have z27 : (lm_i M4 711 14 (0 : Int32)).1 711 27 = nI s := by rw [lm_i_ns (by omega), f4.1 711 (by decide)]; exact x3.2.2.1
      have y0 : (rtel (rzer M4) 0 (nI s).toInt64).1 (711 + 1) 0 = nI (S.w 0) := by
        show (rtel (rzer M4) 0 (nI s).toInt64).1 712 0 = _
        unfold rtel rzer
        rw [lm_i_ne (by decide), lm_l_1, lm_i_ne (by decide), f4.1 712 (by decide)]
        exact C3.2.2.1 0 (by omega)
      have y27 : (rtel (rzer M4) 0 (nI s).toInt64).1 711 27 = nI s := by
        unfold rtel
        rw [lm_i_ns (by omega), lm_l_1]
        exact z27
      have w27 : M5.1 711 27 = nI s := by rw [f5 711 27 (by omega), f4.1 711 (by decide)]; exact x3.2.2.1
      have w0 : M5.1 (711 + 12) 0 = nI (r 0) := by rw [show (711 + 12 : Nat) = 723 from rfl, f5 723 0 (by omega), f4.1 723 (by decide)]; exact x3.2.2.2 0 (by omega)
      have wt : M5.1 (711 + 13) (r 0) = nI (dsN S.N.2.2.1 S.N.1 (r 0) (r (k - 1))) := by
        rw [show (711 + 13 : Nat) = 724 from rfl, f5 724 _ (by omega), ← rf0]
        exact t4 (r 0) (hok1 0 (by omega))
      have b0 := hok1 0 (by omega)
      rw [e3, lt_cV_s, x3.1, if_pos rfl, x3.2.1, q_1, pk_sub (by omega), lt_gd_t (sp_gd (by omega) (by omega)), nI_clamp (by omega), m3k, e4 (d + 27), lt_cV_s, z27, show lm_i M4 711 14 (0 : Int32) = rzer M4 from rfl, h202a, lt_cV_s, lt_gd_t (by decide), a0, y0, y27, q_2, q_24, pk_mul, nI_add, nI_add, h202b, lt_cV_s, ← hM5, lt_gd_t (by decide), w0, lt_gd_t (sp_gd (by omega) (by omega)), nI_clamp (by omega), w27, wt, pk_sub hds]
    · refine RS_join (S := S.rd) (CS_fr (m := M2) (fun b j hb hk => by rw [low b hb]) (by rw [hM5]; show M4.2.2.1 = _ ∧ M4.2.2.2.1 = _; rw [f4.2, f3.2]; exact ⟨rfl, rfl⟩) C2) (MS_fr (m := M3) (fun b j hb hk => ?_) C3)
      rw [f5 b j (by rintro ⟨rfl, rfl⟩; exact absurd hk (by decide)), f4.1 b (by rintro rfl; exact absurd hk (by unfold scr; simp))]
    · exact ⟨by rw [low 4 (by omega)]; exact rc.1, fun j v hj => by rw [low 5 (by omega)]; exact rc.2 j v hj⟩
    · rw [hM5]; exact rwM_tel (vs := [nI s]) (rwM_tel (vs := []) (rwM_zer M4))
end DT2

/-! ===== fits: the reference; the call ===== -/
section FR2
variable {dist wl : DT} {N : NT} {w : Nat → Nat} {T k : Nat} {m : lt_m} {gs us sh : Nat → Nat}
theorem ml_o {M : lt_m} (h : ∀ b, b ≠ 726 → M.1 b = m.1 b) (hm : ml N w 711 m) : ml N w 711 M := by
  obtain ⟨h0, h1, h2, h3, h4, h5⟩ := hm
  exact ⟨by rw [h (711 + 1) (by omega)]; exact h0, by rw [h 711 (by omega)]; exact h1, by rw [h 711 (by omega)]; exact h2, by rw [h (711 + 4) (by omega)]; exact h3, by rw [h (711 + 6) (by omega)]; exact h4, by rw [h (711 + 5) (by omega)]; exact h5⟩
theorem m261s (hN : wfN N) (hw : wfL N w) {t : Nat} (ht : t < w 1) (hk : k ≤ 8) (hok : ldOK N.2.1 k gs us) (hml : ml N w 711 m) (h36 : m.1 711 36 = nI k) (h7 : ∀ j, j < k → m.1 727 j = nI (gs j) ∧ m.1 725 j = nI (us j)) (hsh : ∀ j, sh j = shN (us j * N.2.2.2.2 (gs j)) (w (5 + 2 * t))) : ∃ M, (∀ d, L261_37 (d + 5) 711 (nI t) 0 m = L261_93 (d + 5) 711 (nI t) (nI (bsM us sh k (w (4 + 2 * t) - w_used w t) 0).1) (nI (bsM us sh k (w (4 + 2 * t) - w_used w t) 0).2.1) (nI (bsM us sh k (w (4 + 2 * t) - w_used w t) 0).2.2) (nI 1) none none none M) ∧ (∀ b, b ≠ 726 → M.1 b = m.1 b) ∧ M.2 = m.2 ∧ ∀ j, j < k → M.1 726 j = nI (sh j) := by
  have h6 := hw.2.1
  have bt := hw.2.2.2.2.1 t ht
  have hpd : ∀ i, i < k → us i * N.2.2.2.2 (gs i) ≤ 999 * 999 := fun i hi => Nat.mul_le_mul (hok i hi).2.2 (hN.2.2.2.2.2.2.2 _ (hok i hi).1).2
  have bg := hN.2.2.1
  have shares : ∀ r i m', i + r = k → (∀ b, b ≠ 726 → m'.1 b = m.1 b) → m'.2 = m.2 → (∀ j, j < i → m'.1 726 j = nI (sh j)) → ∃ M, (∀ d, L261_37 (d + 5) 711 (nI t) (nI i) m' = L261_93 (d + 5) 711 (nI t) 0 0 0 1 none none none M) ∧ (∀ b, b ≠ 726 → M.1 b = m.1 b) ∧ M.2 = m.2 ∧ ∀ j, j < k → M.1 726 j = nI (sh j) := by
    intro r
    induction r with
    | zero =>
      intro i m' hi hf hr hj
      have hi : i = k := hi
      subst hi
      refine ⟨m', fun d => ?_, hf, hr, hj⟩
      rw [E261_37 _ _ _ _ sy, hf 711 (by omega), h36, if_pos (by rw [sp_len (by omega) (by omega)]; exact Nat.le_refl _)]
    | succ r ih =>
      intro i m' hi hf hr hj
      have hi2 : i < k := by omega
      have hml' := ml_o hf hml
      have hp := hpd i hi2
      have hgi := (hok i hi2).1
      obtain ⟨M, e1, f1, r1, j1⟩ := ih (i + 1) (lm_i m' 726 i (nI (sh i))) (by omega) (fun b hb => by rw [lm_i_ne hb]; exact hf b hb) hr (fun j hj2 => by
        by_cases e : j = i
        · subst e; exact lm_i_eq
        · rw [lm_i_ns (by omega)]; exact hj j (by omega))
      refine ⟨M, fun d => ?_, f1, r1, j1⟩
      have a727 : m'.1 (711 + 16) i = nI (gs i) := by rw [hf (711 + 16) (by omega)]; exact (h7 i hi2).1
      have a725 : m'.1 (711 + 14) i = nI (us i) := by rw [hf (711 + 14) (by omega)]; exact (h7 i hi2).2
      have adu : m'.1 (711 + 6) (gs i) = nI (N.2.2.2.2 (gs i)) := hml'.2.2.2.2.1 _ hgi
      rw [E261_37 _ _ _ _ sy, hf 711 (by omega), h36, if_neg (by rw [sp_len (by omega) (by omega)]; omega), m218 (d + 4) sy hml' (by omega), lt_cI_s, lt_gd_t (sp_gd (by omega) (by omega)), lt_gd_t (sp_gd (by omega) (by omega)), nI_clamp (show i < 2 ^ 31 by omega), a727, a725, lt_gd_t (sp_gd (by omega) (by omega)), nI_clamp (show gs i < 2 ^ 31 by omega), adu, pk_mul, m227 (d + 4) bt.2.1 (by omega), lt_cI_s, ← hsh, lt_gd_t (sp_gd' (by omega) (by omega)), nI_1]
      exact e1 d
  obtain ⟨M, e1, f1, r1, j1⟩ := shares k 0 m (by omega) (fun _ _ => rfl) rfl (fun j hj => absurd hj (Nat.not_lt_zero _))
  exact ⟨M, e1, f1, r1, j1⟩
theorem m261b (hN : wfN N) (hw : wfL N w) {t : Nat} (ht : t < w 1) (hk : k ≤ 8) (hu : ∀ i, i < k → us i ≤ 999) (hs : ∀ i, i < k → sh i ≤ 998010) (hml : ml N w 711 m) (h36 : m.1 711 36 = nI k) (h5 : ∀ j, j < k → m.1 725 j = nI (us j)) (h6s : ∀ j, j < k → m.1 726 j = nI (sh j)) : ∀ r n o6 o7 o8, n + r = 2 ^ k - 1 → ∃ p6 p7 p8, ∀ d, L261_93 (d + 6) 711 (nI t) (nI (bsM us sh k (w (4 + 2 * t) - w_used w t) n).1) (nI (bsM us sh k (w (4 + 2 * t) - w_used w t) n).2.1) (nI (bsM us sh k (w (4 + 2 * t) - w_used w t) n).2.2) (nI (n + 1)) o6 o7 o8 m = L261_93 (d + 6) 711 (nI t) (nI (bsM us sh k (w (4 + 2 * t) - w_used w t) (2 ^ k - 1)).1) (nI (bsM us sh k (w (4 + 2 * t) - w_used w t) (2 ^ k - 1)).2.1) (nI (bsM us sh k (w (4 + 2 * t) - w_used w t) (2 ^ k - 1)).2.2) (nI (2 ^ k)) p6 p7 p8 m := by
  have hpk : 2 ^ k ≤ 2 ^ 8 := Nat.pow_le_pow_right (by omega) hk
  have hpk1 : 0 < 2 ^ k := Nat.two_pow_pos k
  have bt := hw.2.2.2.2.1 t ht
  obtain ⟨free, hfr⟩ : ∃ free, free = w (4 + 2 * t) - w_used w t := ⟨_, rfl⟩
  rw [← hfr]
  intro r
  induction r with
  | zero =>
    intro n o6 o7 o8 hn
    have hn : n = 2 ^ k - 1 := hn
    subst hn
    exact ⟨o6, o7, o8, fun d => by rw [show 2 ^ k - 1 + 1 = 2 ^ k by omega]⟩
  | succ r ih =>
    intro n o6 o7 o8 hn
    obtain ⟨b1, b2, b3⟩ := bsM_le (free := free) hu hs n
    have k1 : k * 999 ≤ 8 * 999 := Nat.mul_le_mul_right _ hk
    have k2 : k * 998010 ≤ 8 * 998010 := Nat.mul_le_mul_right _ hk
    obtain ⟨U, hU⟩ : ∃ U, U = tgM us (n + 1) k := ⟨_, rfl⟩
    obtain ⟨V, hV⟩ : ∃ V, V = tgM sh (n + 1) k := ⟨_, rfl⟩
    have bU : U ≤ k * 999 := by rw [hU]; exact tgM_le hu
    have bV : V ≤ k * 998010 := by rw [hV]; exact tgM_le hs
    have hbs : bsM us sh k free (n + 1) = if V ≤ free ∧ ((bsM us sh k free n).2.1 < U ∨ U = (bsM us sh k free n).2.1 ∧ V < (bsM us sh k free n).2.2) then (n + 1, U, V) else bsM us sh k free n := by rw [hU, hV]; rfl
    obtain ⟨p6, p7, p8, e2⟩ := ih (n + 1) (some (.inl (nI U))) (some (.inl (nI V))) (some (.inl (nI k))) (by omega)
    refine ⟨p6, p7, p8, fun d => ?_⟩
    have inner : ∀ x2 x3 x4, L261_113 (d + 6) 711 (nI t) x2 x3 x4 (nI (n + 1)) 0 0 0 m = L261_113 (d + 6) 711 (nI t) x2 x3 x4 (nI (n + 1)) (nI U) (nI V) (nI k) m := fun x2 x3 x4 => by
      rw [hU, hV]
      refine lp_it (F := fun i (_ : Unit) => L261_113 (d + 6) 711 (nI t) x2 x3 x4 (nI (n + 1)) (nI (sumN (fun i => if (n + 1).testBit i = true then us i else 0) i)) (nI (sumN (fun i => if (n + 1).testBit i = true then sh i else 0) i)) (nI i) m) k ?_ ?_ ()
      · intro i _ hi
        refine ⟨(), ?_⟩
        have a725 : m.1 (711 + 14) i = nI (us i) := h5 i hi
        have a726 : m.1 (711 + 15) i = nI (sh i) := h6s i hi
        rw [E261_113 _ _ _ _ _ _ _ _ _ _ sy, h36, if_neg (by rw [sp_len (by omega) (by omega)]; omega), m207 (d + 5) (by omega) (by omega), lt_cI_s]
        simp only [sumN]
        by_cases c : (n + 1).testBit i = true
        · rw [if_pos c, if_neg (by decide), lt_gd_t (sp_gd (by omega) (by omega)), nI_clamp (by omega), a725, E261_145 _ _ _ _ _ _ _ _ _ _ _ _ sy, m207 (d + 5) (by omega) (by omega), lt_cI_s, if_pos c, if_neg (by decide), lt_gd_t (sp_gd (by omega) (by omega)), nI_clamp (by omega), a726, nI_add, nI_add, nI_1, if_pos c, if_pos c]
        · rw [if_neg c, if_pos rfl, E261_145 _ _ _ _ _ _ _ _ _ _ _ _ sy, m207 (d + 5) (by omega) (by omega), lt_cI_s, if_neg c, if_pos rfl, nI_1, if_neg c, if_neg c, sp_add0, sp_add0]
          rfl
      · intro _
        rfl
    rw [E261_93 _ _ _ _ _ _ _ _ _ _ sy, h36, sp_bit (by omega), if_neg (by rw [sp_len (by omega) (by omega)]; omega), inner, E261_113 _ _ _ _ _ _ _ _ _ _ sy, h36, if_pos (by rw [sp_len (by omega) (by omega)]; exact Nat.le_refl _), m219 (d + 1) sy hml hw ht, lt_cI_s, ← hfr, nI_1]
    have e2' := e2 d
    by_cases c1 : V ≤ free
    · rw [if_neg (by rw [sp_ltn (by omega) (by omega)]; omega)]
      by_cases c2 : U < (bsM us sh k free n).2.1
      · rw [if_neg (by omega)] at hbs
        rw [hbs] at e2'
        rw [if_pos (by rw [sp_ltn (by omega) (by omega)]; exact c2), e2']
      · rw [if_neg (by rw [sp_ltn (by omega) (by omega)]; exact c2)]
        by_cases c3 : U = (bsM us sh k free n).2.1
        · rw [if_neg (by rw [c3]; exact fun q => q rfl)]
          by_cases c4 : V < (bsM us sh k free n).2.2
          · rw [if_pos ⟨c1, Or.inr ⟨c3, c4⟩⟩] at hbs
            rw [hbs] at e2'
            rw [if_pos (by rw [sp_ltn (by omega) (by omega)]; exact c4), e2']
          · rw [if_neg (by omega)] at hbs
            rw [hbs] at e2'
            rw [if_neg (by rw [sp_ltn (by omega) (by omega)]; exact c4), e2']
        · rw [if_pos ⟨c1, Or.inl (by omega)⟩] at hbs
          rw [hbs] at e2'
          rw [if_pos (by rw [sp_eqn (by omega) (by omega)]; exact c3), e2']
    · rw [if_neg (fun q => c1 q.1)] at hbs
      rw [hbs] at e2'
      rw [if_pos (by rw [sp_ltn (by omega) (by omega)]; omega), e2']
end FR2
section OF
variable {dist wl : DT} {T : Nat} {S : ST} {m : lt_m}
theorem op_fits (d : Nat) (hr : RR dist wl T m) (x : Int32) : OP dist wl d T T 155 261 [.inl x] m := by
  obtain ⟨N, w, vs, hs, hl, hc, hm⟩ := hr
  obtain ⟨S, rfl, rfl, hC, hM⟩ := RS_split hs
  have hw := hs.wfL
  have hN := hs.wfN
  have h6 := hw.2.1
  have bg := hN.2.2.1
  obtain ⟨htk, -, htx⟩ := hC.2.1
  obtain ⟨M1, e1, ⟨f1, g1, x1⟩, o1⟩ := k156 (tx := S.tx) (tk := S.tk) hs.sA hs.gA hN hC.2.1 hs.nR
  have C1 : CS dist wl T S.rd M1 := CS_rd (fun b b1 b2 => f1.1 b (by omega) (by omega) (by omega) (by omega) (by omega)) (by rw [f1.2]; exact ⟨rfl, rfl⟩) g1 hC
  have e156 : lt_ev (d + 29) 156 [.inr (.inr (some (0 + 8))), .inr (.inr (some (0 + 1))), .inr (.inr (some m.2.2.1))] m = some (none, M1) := e1 (d + 25)
  have hcls : lt_ev (d + 30) 155 [.inr (.inr (some 0)), .inl x] m = _ := E155 (d + 29) 0 _ sx m
  rw [e156, lt_cV_s, p38 (d + 28) (0 + 1) s_1 M1, lt_cI_s] at hcls
  have hmod : ∀ M, MS S (lm_i M 711 15 0) → ∃ M3, MS S.rd M3 ∧ ufr (lm_i M 711 15 0) M3 ∧ (match ldA S.N.2.1 S.tx S.tk with
    | .inl e => e ≤ 200 ∧ M3.1 711 18 = nI e
    | .inr (k, gs, us) => M3.1 711 18 = -1 ∧ M3.1 711 36 = nI k ∧ ∀ j, j < k → M3.1 727 j = nI (gs j) ∧ M3.1 725 j = nI (us j)) ∧ lt_ev (d + 29) 262 [.inr (.inr (some 711))] (lm_i M 711 15 0) = some (none, M3) := fun M h => by
    obtain ⟨M3, e3, f3, g3, x3⟩ := m262 (w := S.w) (tx := S.tx) (tk := S.tk) hN htk h.2.1.1 (fun j hj => ⟨(htx j hj).1, h.2.1.2 j hj⟩) (MS_ml h)
    refine ⟨M3, MS_rd (fun b k h1 h2 h3 => f3.1 b k ?_) g3 h, f3, x3, e3 (d + 26)⟩
    rintro (rfl | rfl | ⟨rfl, q⟩)
    · exact absurd h3 (by unfold scr; simp)
    · exact absurd h3 (by unfold scr; simp)
    · rcases q with rfl | rfl | rfl | rfl | rfl
      · exact h2 ⟨rfl, rfl⟩
      · exact absurd h3 (by decide)
      · exact absurd h3 (by decide)
      · exact absurd h3 (by decide)
      · exact absurd h3 (by decide)
  have hMs : MS S (lm_i M1 711 15 0) := MS_t0 (MS_fr (m := m) (fun b k hb _ => by rw [f1.1 b (by omega) (by omega) (by omega) (by omega) (by omega)]) hM)
  obtain ⟨M2, C2, f2, x2, e2⟩ := hmod M1 hMs
  have fin : ∀ v, lt_ev (d + 30) 155 [.inr (.inr (some 0)), .inl x] m = some (some v, M1) → lt_ev (d + 30) 261 [.inr (.inr (some 711)), .inl x] M1 = some (some v, M2) → OP dist wl d T T 155 261 [.inl x] m := fun v h1 h2 => by
    refine OP_w (S' := S.rd) (vs := vs) v h1 C1 ⟨f1.1 4 (by omega) (by omega) (by omega) (by omega) (by omega), f1.1 5 (by omega) (by omega) (by omega) (by omega) (by omega), by rw [f1.1 711 (by omega) (by omega) (by omega) (by omega) (by omega)], by rw [f1.2]⟩ h2 C2 (fun b hb => ?_) ?_ ?_ hl hc hm
    · rw [show M2.1 b = (lm_i M1 711 15 0).1 b from funext fun k => f2.1 b k (by omega), lm_i_ne (by omega)]
    · rw [f2.1 711 14 (by omega), lm_i_ns (by omega)]
    · rw [f2.2]; rfl
  cases hx : ldA S.N.2.1 S.tx S.tk with
  | inl e =>
    rw [hx] at x1 x2
    simp only at x1 x2
    have ev : v38 M1 (0 + 1) = 1 := c38b (e := e) x1 x2.1
    have e52 : v52 M1 (0 + 1) = (-21 : Int32) - nI e := by unfold v52; rw [show M1.1 (0 + 1) 2 = nI e from x1]
    refine fin (.inl ((-21 : Int32) - nI e)) (hcls.trans ?_) ((E261 (d + 29) 711 _ sy M1).trans ?_)
    · rw [ev, if_neg (by decide), p52 (d + 28) (0 + 1) s_1 M1, lt_cI_s, e52]
    · rw [e2, lt_cV_s, x2.2, if_neg (by have := x2.1; rw [sp_m1 (by omega)]; exact not_false)]
  | inr q =>
    obtain ⟨k, gs, us⟩ := q
    obtain ⟨k8, hok⟩ := o1 k gs us hx
    rw [hx] at x1
    simp only at x1
    have ev : v38 M1 (0 + 1) = 0 := c38g x1.1
    have hcl1 : cl S.N S.w (0 + 13) M1 := C1.2.2.1.1
    have hml2 : ml S.N S.w 711 M2 := MS_ml (S := S.rd) C2
    rw [ev, if_pos rfl, p90 (d + 28) _ _ sL M1, lt_cI_s] at hcls
    have hn1 : nR S.N M1.2.2.1 M1 := by
      obtain ⟨⟨A, B, n1, n2, n3, n4, n5, -⟩, -⟩ := C1
      rw [n1]; exact n5
    have hA1 : ts_sh M1.2.2.1 = (0, 5) := by rw [f1.2]; exact hs.sA
    have hg1 : 13 ≤ M1.2.2.1 := by rw [f1.2]; exact hs.gA
    rcases c90 hcl1 hw x with ⟨t, ht, rfl, et⟩ | ⟨hxb, et⟩
    · have bt := hw.2.2.2.2.1 t ht
      obtain ⟨sh, hsh⟩ : ∃ sh : Nat → Nat, sh = fun j => shN (us j * S.N.2.2.2.2 (gs j)) (S.w (5 + 2 * t)) := ⟨_, rfl⟩
      have hshj : ∀ j, sh j = shN (us j * S.N.2.2.2.2 (gs j)) (S.w (5 + 2 * t)) := fun j => by rw [hsh]
      obtain ⟨R, hR⟩ : ∃ R, R = bsM us sh k (S.w (4 + 2 * t) - w_used S.w t) (2 ^ k - 1) := ⟨_, rfl⟩
      have hpd : ∀ i, i < k → us i * S.N.2.2.2.2 (gs i) ≤ 999 * 999 := fun i hi => Nat.mul_le_mul (hok i hi).2.2 (hN.2.2.2.2.2.2.2 _ (hok i hi).1).2
      have hs8 : ∀ i, i < k → sh i ≤ 998010 := fun i hi => by
        have a := hpd i hi
        have b := shN_le (v := us i * S.N.2.2.2.2 (gs i)) (l := S.w (5 + 2 * t))
        rw [hshj]
        omega
      obtain ⟨M4, e4, y4, y5, y6, f4, r4⟩ := k157 (A := M1.2.2.1) (free := S.w (4 + 2 * t) - w_used S.w t) hA1 hg1 hN hn1 bt.2.1 k8 hok (by omega) x1.2.1 x1.2.2 hshj
      rw [← hR] at y4 y5 y6
      have y4' : M4.1 (0 + 8) 4 = nI R.1 := y4
      have y5' : M4.1 (0 + 8) 5 = nI R.2.1 := y5
      have y6' : M4.1 (0 + 8) 6 = nI R.2.2 := y6
      have C4 : CS dist wl T S.rd M4 := CS_fr (m := M1) (fun b j hb hj => by rw [f4 b (by rintro rfl; exact absurd hj (by unfold scr; simp)) (by rintro rfl; exact absurd hj (by unfold scr; simp))]) (by rw [r4]; exact ⟨rfl, rfl⟩) C1
      obtain ⟨M5, hM5⟩ : ∃ M5, M5 = radd (radd (rclr M4) 0 (nI R.2.1)) 1 (nI R.2.2) := ⟨_, rfl⟩
      have e74 : lt_ev (d + 29) 74 [.inr (.inr (some 0)), .inl (nI R.2.1), .inl (nI R.2.2)] M4 = some (none, M5) := by rw [hM5]; exact k74 (d + 25)
      have f5s : same M4 M5 := by rw [hM5]; exact same_tr same_rclr (same_tr same_radd same_radd)
      have f5 : ∀ b, b ≠ 4 → b ≠ 5 → M5.1 b = M4.1 b := fun b b1 b2 => by rw [hM5]; unfold radd rclr; rw [lm_i_ne b1, lm_i_ne b2, lm_i_ne b1, lm_i_ne b2, lm_i_ne b1]
      have r5 : M5.2 = M4.2 := by rw [hM5]; rfl
      have rc5 : rwC [nI R.2.1, nI R.2.2] M5 := by rw [hM5]; exact rwC_add (vs := [nI R.2.1]) (rwC_add (vs := []) (rwC_clr M4))
      have C5 : CS dist wl T S.rd M5 := CS_fr (fun b j hb hk => f5s.2.2 b j hk) ⟨f5s.1, f5s.2.1⟩ C4
      have hi5 : ∀ b, 711 ≤ b → M5.1 b = m.1 b := fun b hb => by rw [f5 b (by omega) (by omega), f4 b (by omega) (by omega), f1.1 b (by omega) (by omega) (by omega) (by omega) (by omega)]
      have hMs5 : MS S (lm_i M5 711 15 0) := MS_t0 (MS_fr (m := m) (fun b j hb _ => by rw [hi5 b hb]) hM)
      obtain ⟨M6, C6, f6, x6, e6⟩ := hmod M5 hMs5
      rw [hx] at x6
      simp only at x6
      have hml6 : ml S.N S.w 711 M6 := MS_ml (S := S.rd) C6
      obtain ⟨M7, e7, f7, r7, j7⟩ := m261s hN hw ht k8 hok hml6 x6.2.1 x6.2.2 hshj
      obtain ⟨p6, p7, p8, e8⟩ := m261b hN hw ht k8 (fun i hi => (hok i hi).2.2) hs8 (ml_o f7 hml6) (by rw [f7 711 (by omega)]; exact x6.2.1) (fun j hj => by rw [f7 725 (by omega)]; exact (x6.2.2 j hj).2) j7 (2 ^ k - 1) 0 none none none (by omega)
      rw [← hR] at e8
      have hpk : 2 ^ k ≤ 2 ^ 8 := Nat.pow_le_pow_right (by omega) k8
      have h202a := m202 (m := rzer M7) (d + 28) (k := 0) (x := (nI R.2.1).toInt64) rfl (by decide)
      have h202b := m202 (m := rtel (rzer M7) 0 (nI R.2.1).toInt64) (d + 28) (k := 1) (x := (nI R.2.2).toInt64) (by unfold rtel; exact lm_i_eq) (by decide)
      obtain ⟨M8, hM8⟩ : ∃ M8, M8 = rtel (rtel (rzer M7) 0 (nI R.2.1).toInt64) 1 (nI R.2.2).toInt64 := ⟨_, rfl⟩
      have f8 : ∀ b k, ¬ (b = 711 ∧ k = 14) → M8.1 b k = M7.1 b k := fun b k hb => by rw [hM8]; unfold rtel rzer; rw [lm_i_ns hb, lm_l_1, lm_i_ns hb, lm_l_1, lm_i_ns hb]
      have low : ∀ b, b < 711 → M8.1 b = M5.1 b := fun b hb => funext fun j => by
        rw [f8 b j (by omega), f7 b (by omega), f6.1 b j (by omega), lm_i_ns (by omega)]
      refine ⟨.inl (nI R.1), M5, M8, hcls.trans ?_, (E261 (d + 29) 711 _ sy M5).trans ?_, ⟨S.N, S.w, [nI R.2.1, nI R.2.2], ?_, by simp, ?_, ?_⟩⟩
      · have e157 : lt_ev (d + 29) 157 [.inr (.inr (some (0 + 8))), .inr (.inr (some M1.2.2.1)), .inl (nI (S.w (5 + 2 * t))), .inl (nI (S.w (4 + 2 * t) - w_used S.w t))] M1 = some (none, M4) := e4 (d + 25)
        have z4 : M5.1 (0 + 8) 4 = nI R.1 := by rw [f5 (0 + 8) (by omega) (by omega)]; exact y4'
        rw [et, if_pos (by decide), p95 (d + 27) _ _ sL M1, lt_cI_s, c95 hcl1 hw ht, k96 (d + 26) sL hcl1 hw ht, lt_cI_s, e157, lt_cV_s, y5', y6', e74, lt_cV_s, z4]
      · rw [e6, lt_cV_s, x6.1, if_pos rfl, m213 (d + 27) sy hml6 hw, lt_cI_s, sp_i1 ht (by omega), if_pos (by decide), e7 (d + 24)]
        refine (e8 (d + 23)).trans ?_
        rw [E261_93 _ _ _ _ _ _ _ _ _ _ sy, show M7.1 711 36 = nI k by rw [f7 711 (by omega)]; exact x6.2.1, sp_bit (by omega), if_pos (by rw [sp_len (by omega) (by omega)]; exact Nat.le_refl _), show lm_i M7 711 14 (0 : Int32) = rzer M7 from rfl, h202a, lt_cV_s, h202b, lt_cV_s, hM8]
      · refine RS_join (S := S.rd) (CS_fr (m := M5) (fun b j hb hk => by rw [low b hb]) (by rw [hM8]; show M7.2.2.1 = _ ∧ M7.2.2.2.1 = _; rw [r7, f6.2]; exact ⟨rfl, rfl⟩) C5) (MS_fr (m := M6) (fun b j hb hk => ?_) C6)
        rw [f8 b j (by rintro ⟨rfl, rfl⟩; exact absurd hk (by decide)), f7 b (by rintro rfl; exact absurd hk (by unfold scr; simp))]
      · exact ⟨by rw [low 4 (by omega)]; exact rc5.1, fun j v hj => by rw [low 5 (by omega)]; exact rc5.2 j v hj⟩
      · rw [hM8]; exact rwM_tel (vs := [nI R.2.1]) (rwM_tel (vs := []) (rwM_zer M7))
    · rw [hx] at x2
      simp only at x2
      refine fin (.inl (-1)) (hcls.trans ?_) ((E261 (d + 29) 711 _ sy M1).trans ?_)
      · rw [et, if_neg (by decide)]
      · rw [e2, lt_cV_s, x2.1, if_pos rfl, m213 (d + 27) sy hml2 hw, lt_cI_s, sp_i0 (by omega) hxb, if_neg (by decide)]
end OF

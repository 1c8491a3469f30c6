/-! ===== net ===== -/
section ON
variable {T : Nat} {m M : lt_m}
theorem m_cpn {a2 a1 n : Nat} {F : Int32 → lt_m → Option lt_r} {K : Option lt_r} {M : lt_m} (hs : ∀ i, i < n → F (nI i) (cpR a2 0 a1 0 i M) = F (nI (i + 1)) (lm_i (cpR a2 0 a1 0 i M) a2 i ((cpR a2 0 a1 0 i M).1 a1 i))) (hne : a1 ≠ a2) (he : F (nI n) (cpR a2 0 a1 0 n M) = K) : F 0 M = K := by
  have key := lp_it (F := fun i (_ : Unit) => F (nI i) (cpR a2 0 a1 0 i M)) (K := K) n (fun i _ hi => ⟨(), by
    have := cpR_s (m := M) (a2 := a2) (o2 := 0) (a1 := a1) (o1 := 0) (n := i) (Or.inl hne)
    rw [Nat.zero_add] at this
    rw [hs i hi, this]⟩) (fun _ => he) ()
  have key : F 0 (cpR a2 0 a1 0 0 M) = K := key
  rw [cpR_0] at key
  exact key
/-- the reference takes the NET it has read -/
theorem m182c {N : NT} {q : Nat} (hN : wfN N) (hz : ∀ x y, ¬ (x < N.1 ∧ y < N.1) → N.2.2.1 x y = 0) (h : ndM N q m) : ∃ M, (∀ d, L182_55 d 711 0 (lm_i (lm_i (lm_i m 711 8 (nI N.1)) 711 9 (nI q)) 711 10 (nI N.2.1)) = some (some (.inl (nI N.1)), M)) ∧ (∀ b k, b < 711 → M.1 b k = m.1 b k) ∧ M.2 = m.2 ∧ M.1 711 14 = 0 ∧ ∀ (tx : Nat → Nat) (l : Nat) (pw : Nat → Nat → Nat) (kw : Nat → Nat), m.1 711 12 = 0 → MS (ST.mk N (fun _ => 0) tx 0 (nI q) 0 l pw 0 kw) M := by
  obtain ⟨-, h19, h720, h22, h721, h24, h722⟩ := h
  have hn := hN.2.1
  have hg6 := hN.2.2.1
  obtain ⟨M7, hM7⟩ : ∃ M7, M7 = lm_i (lm_i (lm_i m 711 8 (nI N.1)) 711 9 (nI q)) 711 10 (nI N.2.1) := ⟨_, rfl⟩
  rw [← hM7]
  have g8 : M7.1 711 8 = nI N.1 := by rw [hM7, lm_i_ns (by omega), lm_i_ns (by omega), lm_i_eq]
  have g10 : M7.1 711 10 = nI N.2.1 := by rw [hM7, lm_i_eq]
  have g9 : M7.1 711 9 = nI q := by rw [hM7, lm_i_ns (by omega), lm_i_eq]
  have go : ∀ b, b ≠ 711 → M7.1 b = m.1 b := fun b hb => by rw [hM7, lm_i_ne hb, lm_i_ne hb, lm_i_ne hb]
  obtain ⟨P1, hP1⟩ : ∃ P, P = cpR 715 0 720 0 N.1 M7 := ⟨_, rfl⟩
  obtain ⟨P2, hP2⟩ : ∃ P, P = cpR 716 0 721 0 144 P1 := ⟨_, rfl⟩
  obtain ⟨P3, hP3⟩ : ∃ P, P = cpR 717 0 722 0 N.2.1 P2 := ⟨_, rfl⟩
  obtain ⟨P4, hP4⟩ : ∃ P, P = pR 712 0 (fun _ => 0) 626 P3 := ⟨_, rfl⟩
  have o1 : ∀ b, b ≠ 715 → P1.1 b = M7.1 b := fun b hb => by rw [hP1, cpR_ne hb]
  have o2 : ∀ b, b ≠ 716 → P2.1 b = P1.1 b := fun b hb => by rw [hP2, cpR_ne hb]
  have o3 : ∀ b, b ≠ 717 → P3.1 b = P2.1 b := fun b hb => by rw [hP3, cpR_ne hb]
  have o4 : ∀ b, b ≠ 712 → P4.1 b = P3.1 b := fun b hb => by rw [hP4, pR_ne hb]
  have o14 : ∀ b, ¬ (712 ≤ b ∧ b ≤ 717) → P4.1 b = M7.1 b := fun b hb => by rw [o4 b (by omega), o3 b (by omega), o2 b (by omega), o1 b (by omega)]
  obtain ⟨M9, hM9⟩ : ∃ M9, M9 = lm_i (lm_i (lm_i P4 711 4 0) 711 2 0) 711 14 0 := ⟨_, rfl⟩
  have o9 : ∀ b, b ≠ 711 → M9.1 b = P4.1 b := fun b hb => by rw [hM9, lm_i_ne hb, lm_i_ne hb, lm_i_ne hb]
  have o711 : ∀ k, k ≠ 4 → k ≠ 2 → k ≠ 14 → M9.1 711 k = M7.1 711 k := fun k h1 h2 h3 => by rw [hM9, lm_i_ns (by omega), lm_i_ns (by omega), lm_i_ns (by omega), o14 711 (by omega)]
  refine ⟨M9, fun d => ?_, fun b k hb => by rw [o9 b (by omega), o14 b (by omega), go b (by omega)], by rw [hM9, hP4, hP3, hP2, hP1, hM7]; rfl, by rw [hM9, lm_i_eq], ?_⟩
  · refine m_cpn (a2 := 715) (a1 := 720) (n := N.1) (F := fun i M => L182_55 d 711 i M) (M := M7) ?_ (by decide) ?_
    · intro i hi
      show L182_55 d 711 (nI i) _ = L182_55 d 711 _ _
      rw [E182_55 _ _ _ sy, cpR_ne (by decide), g8, if_neg (by rw [sp_len (by omega) (by omega)]; omega), lt_gd_t (sp_gd (by omega) (by omega)), lt_gd_t (sp_gd (by omega) (by omega)), nI_clamp (by omega), nI_1]
    · show L182_55 d 711 (nI N.1) _ = _
      rw [← hP1, E182_55 _ _ _ sy, show P1.1 711 8 = nI N.1 by rw [o1 711 (by decide)]; exact g8, if_pos (by rw [sp_len (by omega) (by omega)]; exact Nat.le_refl _)]
      refine m_cpn (a2 := 716) (a1 := 721) (n := 144) (F := fun i M => L182_83 d 711 i M) (M := P1) ?_ (by decide) ?_
      · intro i hi
        show L182_83 d 711 (nI i) _ = L182_83 d 711 _ _
        rw [E182_83 _ _ _ sy, show (144 : Int32) = nI 144 from rfl, if_neg (by rw [sp_len (by omega) (by omega)]; omega), lt_gd_t (sp_gd (by omega) (by omega)), lt_gd_t (sp_gd (by omega) (by omega)), nI_clamp (by omega), nI_1]
      · show L182_83 d 711 (nI 144) _ = _
        rw [← hP2, E182_83 _ _ _ sy, if_pos (by decide)]
        refine m_cpn (a2 := 717) (a1 := 722) (n := N.2.1) (F := fun i M => L182_110 d 711 i M) (M := P2) ?_ (by decide) ?_
        · intro i hi
          show L182_110 d 711 (nI i) _ = L182_110 d 711 _ _
          rw [E182_110 _ _ _ sy, cpR_ne (by decide), show P2.1 711 10 = nI N.2.1 by rw [o2 711 (by decide), o1 711 (by decide)]; exact g10, if_neg (by rw [sp_len (by omega) (by omega)]; omega), lt_gd_t (sp_gd (by omega) (by omega)), lt_gd_t (sp_gd (by omega) (by omega)), nI_clamp (by omega), nI_1]
        · show L182_110 d 711 (nI N.2.1) _ = _
          rw [← hP3, E182_110 _ _ _ sy, show P3.1 711 10 = nI N.2.1 by rw [o3 711 (by decide), o2 711 (by decide), o1 711 (by decide)]; exact g10, if_pos (by rw [sp_len (by omega) (by omega)]; exact Nat.le_refl _)]
          have key := lp_it (F := fun i (_ : Unit) => L182_138 d 711 (nI i) (pR 712 0 (fun _ => 0) i P3)) (K := some (some (.inl (nI N.1)), M9)) 626 ?_ ?_ ()
          · have key : L182_138 d 711 0 (pR 712 0 (fun _ => 0) 0 P3) = _ := key
            rw [pR_0] at key
            exact key
          · intro i _ hi
            refine ⟨(), ?_⟩
            have := pR_s (b0 := 712) (off := 0) (r := fun _ => 0) (i := i) (m := P3)
            rw [Nat.zero_add] at this
            have this : lm_i (pR 712 0 (fun _ => 0) i P3) (711 + 1) i 0 = pR 712 0 (fun _ => 0) (i + 1) P3 := this
            rw [E182_138 _ _ _ sy, show (626 : Int32) = nI 626 from rfl, if_neg (by rw [sp_len (by omega) (by omega)]; omega), lt_gd_t (sp_gd hi (by omega)), nI_clamp (by omega), this, nI_1]
          · intro _
            have e8 : M9.1 711 8 = nI N.1 := by rw [o711 8 (by decide) (by decide) (by decide)]; exact g8
            rw [← hP4, E182_138 _ _ _ sy, if_pos (by decide), ← hM9, e8]
  · intro tx l pw kw h12
    have c716 : ∀ k, k < 144 → M9.1 716 k = nI (N.2.2.1 (k / 12) (k % 12)) := fun k hk => by
      rw [o9 716 (by decide), o4 716 (by decide), o3 716 (by decide), hP2, cpR_in (by omega) (by omega), o1 721 (by decide), go 721 (by decide), show 0 + (k - 0) = k by omega]
      exact h721 k hk
    refine ⟨⟨?_, ?_, ?_, fun o ho => ?_, fun g hg => ?_, fun x y hx hy => ?_, fun k hk hnk => ?_⟩, ⟨?_, fun j hj => absurd hj (Nat.not_lt_zero j)⟩, fun k hk => ?_, ⟨?_, fun j hj => absurd hj (Nat.not_lt_zero j)⟩, ?_, fun hk => by cases hk⟩
    · rw [o711 9 (by decide) (by decide) (by decide)]; exact g9
    · rw [o711 8 (by decide) (by decide) (by decide)]; exact g8
    · rw [o711 10 (by decide) (by decide) (by decide)]; exact g10
    · have ho : o < N.1 := ho
      rw [o9 715 (by decide), o4 715 (by decide), o3 715 (by decide), o2 715 (by decide), hP1, cpR_in (by omega) (by omega), go 720 (by decide), show 0 + (o - 0) = o by omega]
      exact h720 o ho
    · have hg : g < N.2.1 := hg
      rw [o9 717 (by decide), o4 717 (by decide), hP3, cpR_in (by omega) (by omega), o2 722 (by decide), o1 722 (by decide), go 722 (by decide), show 0 + (g - 0) = g by omega]
      exact h722 g hg
    · have hx : x < N.1 := hx
      have hy : y < N.1 := hy
      rw [c716 (12 * x + y) (by omega), show (12 * x + y) / 12 = x by omega, show (12 * x + y) % 12 = y by omega]
    · have hnk : ¬ (k / 12 < N.1 ∧ k % 12 < N.1) := hnk
      rw [c716 k hk, hz _ _ hnk]; rfl
    · rw [o711 12 (by decide) (by decide) (by decide), hM7, lm_i_ns (by omega), lm_i_ns (by omega), lm_i_ns (by omega)]; exact h12
    · rw [o9 712 (by decide), hP4, pR_if, if_pos (by omega)]
    · rw [hM9, lm_i_ns (by omega), lm_i_ns (by omega), lm_i_eq]; rfl
    · rw [hM9, lm_i_ns (by omega), lm_i_eq]; rfl
theorem sp_m21 {e : Nat} : (-21 : Int32) - nI e = -21 - nI e := rfl
theorem op_net (d : Nat) (hr : RR dsD wlD T m) : OP dsD wlD d T T 29 182 [] m := by
  obtain ⟨N, w, vs, hs, hl, hc, hm⟩ := hr
  obtain ⟨S, rfl, rfl, hC, hMs⟩ := RS_split hs
  have hC0 := hC
  obtain ⟨⟨A, B, n1, n2, n3, n4, n5, n6, n7⟩, ⟨t1, t2, t4⟩, q3, ⟨i1, i2, i3, i5, i6, i7, i8, i10⟩, i11, i12, i13⟩ := hC0
  have hB : ts_sh B = (0, 5) := by
    rcases n3 with ⟨-, rfl⟩ | ⟨-, rfl⟩ <;> decide +kernel
  have hA : ts_sh A = (0, 5) := by
    rcases n3 with ⟨rfl, -⟩ | ⟨rfl, -⟩ <;> decide +kernel
  have hB2 : 13 ≤ B := by omega
  have hB6 : ∃ s, s ≤ 200 ∧ m.1 (B + 6) 1 = nI s := by
    obtain ⟨-, -, -, -, s, t, hs1, ht1, h701, h709⟩ := n7
    rcases n3 with ⟨-, rfl⟩ | ⟨-, rfl⟩
    · exact ⟨t, ht1, h709⟩
    · exact ⟨s, hs1, h701⟩
  obtain ⟨s, hs2, h6⟩ := hB6
  have s1 : ts_sh (0 + 1) = (0, 6) := s_1
  obtain ⟨M1, e1, f1, r1, x1⟩ := k30 (tx := S.tx) (tk := S.tk) hB hB2 ⟨t1, t2, t4⟩ hs2 h6
  have hcls : lt_ev (d + 30) 29 [.inr (.inr (some 0))] m = (lt_cI (lt_ev (d + 29) 38 [.inr (.inr (some (0 + 1)))] M1) (fun v1 m2 => (if v1 = 0 then (lt_cV (lt_ev (d + 29) 53 [.inr (.inr (some (0 + 13)))] (lm_net (lm_draft m2 (m2.2.2.1)) (m2.2.2.2.1))) (fun m3 => (lt_cV (lt_ev (d + 29) 55 [.inr (.inr (some (0 + 81)))] m3) (fun m4 => (lt_cV (lt_ev (d + 29) 56 [.inr (.inr (some (0 + 4)))] m4) (fun m5 => (lt_gd (ts_sh (m5.2.2.1) = (0, 5)) (some (some (.inl (m5.1 (m5.2.2.1) 6)), m5))))))))) else (lt_cI (lt_ev (d + 29) 52 [.inr (.inr (some (0 + 1)))] m2) (fun v2 m6 => (some (some (.inl v2), m6))))))) := by
    refine (E29 (d + 29) 0 sx m).trans ?_
    have e1' : lt_ev (d + 29) 30 [.inr (.inr (some B)), .inr (.inr (some (0 + 1)))] m = some (none, M1) := e1 (d + 21)
    rw [n2, lt_gd_t hB, e1', lt_cV_s]
  -- the reference begins
  have ref : ∀ M : lt_m, (∀ b, 711 ≤ b → M.1 b = m.1 b) → ∃ M0, (∀ d, lt_ev (d + 30) 182 [.inr (.inr (some 711))] M = (lt_cV (lt_ev (d + 29) 184 [.inr (.inr (some 711))] M0) (fun m2 => (if (m2.1 711 18) = (-1 : Int32) then (lt_let (lm_i (lm_i (lm_i m2 711 8 (m2.1 711 19)) 711 9 ((lm_i m2 711 8 (m2.1 711 19)).1 711 22)) 711 10 ((lm_i (lm_i m2 711 8 (m2.1 711 19)) 711 9 ((lm_i m2 711 8 (m2.1 711 19)).1 711 22)).1 711 24)) (fun m3 => (L182_55 (d + 29) 711 (0 : Int32) m3))) else (some (some (.inl ((-21 : Int32) - (m2.1 711 18))), m2)))))) ∧ rrd S.tx S.tk 0 M0 ∧ M0.1 711 12 = 0 ∧ (∀ b k, ¬ (b = 711 ∧ (k = 12 ∨ 15 ≤ k)) → M0.1 b k = M.1 b k) ∧ M0.2 = M.2 := by
    intro M hM
    obtain ⟨p1, p2⟩ := hMs.2.1
    refine ⟨lm_i (lm_i (lm_i (lm_i (lm_i M 711 15 0) 711 16 (nI S.tk)) 711 12 0) 711 17 0) 711 18 (-1), fun d => ?_, ⟨⟨t1, ?_, fun j hj => ⟨(t4 j hj).1, ?_⟩⟩, Nat.zero_le _, ?_, lm_i_eq⟩, ?_, fun b k hb => ?_, rfl⟩
    · refine (E182 (d + 29) 711 sy M).trans ?_
      rw [E183 (d + 28) 711 sy _, lt_cV_s, show (lm_i M 711 15 (0 : Int32)).1 711 12 = nI S.tk by rw [lm_i_ns (by omega), hM 711 (Nat.le_refl _)]; exact p1]
    · rw [lm_i_ns (by omega), lm_i_ns (by omega), lm_i_ns (by omega), lm_i_eq]
    · rw [lm_i_ne (by decide), lm_i_ne (by decide), lm_i_ne (by decide), lm_i_ne (by decide), lm_i_ne (by decide), hM 718 (by omega)]; exact p2 j hj
    · rw [lm_i_ns (by omega), lm_i_eq]; rfl
    · rw [lm_i_ns (by omega), lm_i_ns (by omega), lm_i_eq]
    · rw [lm_i_ns (by omega), lm_i_ns (by omega), lm_i_ns (by omega), lm_i_ns (by omega), lm_i_ns (by omega)]
  have f711 : ∀ b, 711 ≤ b → M1.1 b = m.1 b := fun b hb => f1.1 b (by omega) (by omega) (by omega)
  cases hnt : ntP S.tx S.tk with
  | inl e =>
    rw [hnt] at x1
    obtain ⟨x2, x3, x4⟩ : e ≤ 200 ∧ M1.1 1 2 = nI e ∧ M1.1 (B + 6) 1 = nI s := x1
    have C1 : CS dsD wlD T S.rd M1 := CS_rdB n2 (fun b b1 b2 b3 => f1.1 b (by omega) (by omega) b3) (by rw [x4, h6]) f1.2 r1 hC
    obtain ⟨M0, e2, h0, z12, f2, g2⟩ := ref M1 f711
    obtain ⟨M2, e3, f3, x5⟩ := m184 h0
    rw [hnt] at x5
    obtain ⟨x5, x6⟩ : e ≤ 200 ∧ M2.1 711 18 = nI e := x5
    have C2 : MS S.rd M2 := MS_rd (fun b k b1 b2 hsc => by
      rcases Nat.lt_or_ge b 719 with q | q
      · have hk : b = 711 → k ≤ 12 := fun hb => by
          subst hb
          rcases Nat.lt_or_ge 12 k with q2 | q2
          · have : scr 711 k = true := by unfold scr; simp; omega
            rw [this] at hsc; cases hsc
          · exact q2
        rw [f3.1 b k (by omega) (by omega), f2 b k (by omega), f711 b b1]
      · have : scr b k = true := by unfold scr; simp; omega
        rw [this] at hsc; cases hsc) (by rw [f3.1 711 12 (by omega) (by omega)]; exact z12) hMs
    refine OP_w (m1 := M1) (m2 := M2) (vs := vs) (.inl ((-21 : Int32) - nI e)) (hcls.trans ?_) C1 ⟨f1.1 4 (by omega) (by omega) (by omega), f1.1 5 (by omega) (by omega) (by omega), by rw [f711 711 (Nat.le_refl _)], by rw [f1.2]⟩ ((e2 d).trans ?_) C2 (fun b hb => funext fun k => by rw [f3.1 b k (by omega) (by omega), f2 b k (by omega)]) (by rw [f3.1 711 14 (by omega) (by omega), f2 711 14 (by omega)]) (by rw [f3.2, g2]) hl hc hm
    · rw [p38 (d + 28) _ s1 M1, lt_cI_s, show v38 M1 (0 + 1) = 1 from c38b x3 x2, if_neg (by decide), E52 (d + 28) _ s1 M1, lt_cI_s, show M1.1 (0 + 1) 2 = nI e from x3]
    · have e3' := e3 (d + 24)
      rw [e3', lt_cV_s, x6, if_neg (by rw [sp_m1 (by omega)]; exact not_false)]
  | inr r =>
    obtain ⟨N', q⟩ := r
    rw [hnt] at x1
    obtain ⟨x2, x3, x4, x5, x6⟩ : M1.1 1 2 = -1 ∧ nR N' B M1 ∧ M1.1 B 7 = nI q ∧ AR N' B (dsN N'.2.2.1 N'.1) M1 ∧ CT B (wtx N') M1 := x1
    obtain ⟨hwf, hlen, hz⟩ := ntP_ok hnt
    obtain ⟨Ms, hMe⟩ : ∃ Ms, Ms = lm_net (lm_draft M1 (M1.2.2.1)) (M1.2.2.2.1) := ⟨_, rfl⟩
    have hs1 : Ms.1 = M1.1 := by rw [hMe]; rfl
    have hs2' : Ms.2.1 = m.2.1 ∧ Ms.2.2.1 = B ∧ Ms.2.2.2.1 = A := by
      rw [hMe]
      refine ⟨by show M1.2.1 = _; rw [f1.2], by show M1.2.2.2.1 = _; rw [f1.2]; exact n2, by show M1.2.2.1 = _; rw [f1.2]; exact n1⟩
    obtain ⟨M3, e3, y4, y5, y6, y7, yb, yk, y8, y9⟩ := k53 Ms
    obtain ⟨M5, hM5⟩ : ∃ M5, M5 = lm_i (lm_i (lm_i M3 81 4 0) 81 2 0) 4 1 0 := ⟨_, rfl⟩
    have o5 : ∀ b, b ≠ 81 → b ≠ 4 → M5.1 b = M3.1 b := fun b h1 h2 => by rw [hM5, lm_i_ne h2, lm_i_ne h1, lm_i_ne h1]
    have o35 : ∀ b, ¬ (13 ≤ b ∧ b < 82) → b ≠ 4 → M5.1 b = M1.1 b := fun b h1 h2 => by rw [o5 b (by omega) h2, y8 b (by omega), hs1]
    have r5 : M5.2 = Ms.2 := by rw [hM5]; exact y9
    have hnm : nmR 13 M5 := fun i hi => by
      have := i11 i hi
      rw [o5 (13 + 3 + 5 + 3 * i) (by omega) (by omega), yk i hi 0 (by omega), yk i hi 11 (by omega), hs1, f1.1 (13 + 3 + 5 + 3 * i) (by omega) (by omega) (by omega)]
      exact this
    have hled : LED N' (fun _ => 0) 13 T M5 := LED_0 (by rw [o5 13 (by decide) (by decide)]; exact y4) (by rw [o5 13 (by decide) (by decide)]; exact y5) (by rw [o5 13 (by decide) (by decide)]; exact y6) (fun i hi => by rw [o5 (13 + 3 + 5 + 3 * i) (by omega) (by omega)]; exact y7 i hi) (by rw [o5 17 (by decide) (by decide)]; exact yb) hnm
    have hBr : ∀ b, B ≤ b → b < B + 8 → M5.1 b = M1.1 b := fun b b1 b2 => o35 b (by omega) (by omega)
    have C1 : CS dsD wlD T (ST.mk N' (fun _ => 0) S.tx 0 (nI q) 0 S.l S.pw 0 S.kw) M5 := by
      refine CS_net n2 hwf (by rw [o35 2 (by omega) (by omega)]; exact r1) (by rw [r5]; exact hs2'.2.1) (by rw [r5, n1]; exact hs2'.2.2) (nR_fr hBr x3) (by rw [hBr B (by omega) (by omega)]; exact x4) (fun a b ha hb => by rw [hBr (B + 4) (by omega) (by omega)]; exact x5 a b ha hb) ⟨by rw [hBr (B + 6) (by omega) (by omega)]; exact x6.1, fun j v hj => by rw [hBr (B + 6 + 1) (by omega) (by omega)]; exact x6.2 j v hj⟩ (by omega) (fun b b1 b2 b3 => by rw [o35 b (by omega) (by omega), f1.1 b (by omega) (by omega) b3]) hled hnm ?_ ?_ ?_ hC
      · rw [hM5, lm_i_ne (by decide), lm_i_ns (by omega), lm_i_eq]
      · rw [hM5, lm_i_ne (by decide), lm_i_ns (by omega), lm_i_ns (by omega), y8 81 (by omega), hs1, f1.1 81 (by omega) (by omega) (by omega)]
      · rw [hM5, lm_i_ne (by decide), lm_i_eq]
    have f5 : ∀ b, 711 ≤ b → M5.1 b = m.1 b := fun b hb => by rw [o35 b (by omega) (by omega), f711 b hb]
    obtain ⟨M0, e2, h0, z12, f2, g2⟩ := ref M5 f5
    obtain ⟨M6, e4, f4, x7⟩ := m184 h0
    rw [hnt] at x7
    have x7 : ndM N' q M6 := x7
    obtain ⟨M9, e9, f9, g9, w14, hMS⟩ := m182c hwf hz x7
    have C2 := hMS S.tx S.l S.pw S.kw (by rw [f4.1 711 12 (by omega) (by omega)]; exact z12)
    have fl : ∀ b, b < 711 → M9.1 b = M5.1 b := fun b hb => funext fun k => by rw [f9 b k hb, f4.1 b k (by omega) (by omega), f2 b k (by omega)]
    have hR : M9.2 = M5.2 := by rw [g9, f4.2, g2]
    have n6' : M5.1 B 6 = nI N'.1 := by rw [hBr B (by omega) (by omega)]; exact x3.1
    refine ⟨.inl (nI N'.1), M5, M9, hcls.trans ?_, (e2 d).trans ?_, N', fun _ => 0, [], RS_join (CS_fr (fun b k hb _ => by rw [fl b hb]) (by rw [hR]; exact ⟨rfl, rfl⟩) C1) C2, Nat.zero_le _, ⟨?_, fun j v hj => by simp at hj⟩, ⟨?_, fun j v hj => by simp at hj⟩⟩
    · have e3' := e3 (d + 27)
      have s81' : ts_sh (0 + 81) = (0, 1) := s81
      have s4 : ts_sh (0 + 4) = (0, 8) := sf_of sx 1 (by decide) (by decide)
      rw [p38 (d + 28) _ s1 M1, lt_cI_s, show v38 M1 (0 + 1) = 0 from c38g x2, if_pos rfl, ← hMe, e3', lt_cV_s, E55 (d + 28) _ s81' M3, lt_cV_s, E56 (d + 28) _ s4 _, lt_cV_s]
      show lt_gd (ts_sh ((lm_i (lm_i (lm_i M3 81 4 0) 81 2 0) 4 1 0).2.2.1) = (0, 5)) (some (some (.inl ((lm_i (lm_i (lm_i M3 81 4 0) 81 2 0) 4 1 0).1 ((lm_i (lm_i (lm_i M3 81 4 0) 81 2 0) 4 1 0).2.2.1) 6)), lm_i (lm_i (lm_i M3 81 4 0) 81 2 0) 4 1 0)) = _
      rw [← hM5, show M5.2.2.1 = B by rw [r5]; exact hs2'.2.1, lt_gd_t hB, n6']
    · have e4' := e4 (d + 24)
      obtain ⟨q18, q19, -, q22, -, q24, -⟩ := x7
      rw [e4', lt_cV_s, if_pos q18]
      show L182_55 (d + 29) 711 0 (lm_i (lm_i (lm_i M6 711 8 (M6.1 711 19)) 711 9 ((lm_i M6 711 8 (M6.1 711 19)).1 711 22)) 711 10 ((lm_i (lm_i M6 711 8 (M6.1 711 19)) 711 9 ((lm_i M6 711 8 (M6.1 711 19)).1 711 22)).1 711 24)) = _
      rw [show (lm_i M6 711 8 (M6.1 711 19)).1 711 22 = nI q by rw [lm_i_ns (by omega)]; exact q22, show (lm_i (lm_i M6 711 8 (M6.1 711 19)) 711 9 (nI q)).1 711 24 = nI N'.2.1 by rw [lm_i_ns (by omega), lm_i_ns (by omega)]; exact q24, q19]
      exact e9 (d + 29)
    · rw [fl 4 (by decide), hM5, lm_i_eq]; rfl
    · rw [w14]; rfl
end ON

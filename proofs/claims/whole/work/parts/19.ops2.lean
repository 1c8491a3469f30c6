/-! ===== more of those that ask ===== -/
theorem pcN_z : ∀ k, pcN 0 k = 0 := by
  intro k
  induction k with
  | zero => rfl
  | succ k ih => simp only [pcN]; rw [show (0 : Nat) / 2 = 0 by decide, ih]
theorem pcN_one (j : Nat) : pcN 1 (1 + j) = 1 := by
  rw [Nat.add_comm]
  simp only [pcN]
  rw [show (1 : Nat) / 2 = 0 by decide, pcN_z]
theorem pcN_bits (p : Nat → Bool) : ∀ n j, pcN (bitsN p n) (n + j) = sumN (fun i => if p i then 1 else 0) n := by
  intro n
  induction n with
  | zero => intro j; exact pcN_z _
  | succ n ih =>
    intro j
    rw [bitsN_succ]
    simp only [sumN]
    have h0 := ih 0
    rw [Nat.add_zero] at h0
    by_cases c : p n = true
    · have := pcN_split 1 (1 + j) n (bitsN p n) (bitsN_lt p n)
      rw [if_pos c, if_pos c, show bitsN p n + 2 ^ n = 2 ^ n * 1 + bitsN p n by omega, show n + 1 + j = n + (1 + j) by omega, this, h0, pcN_one]
    · have := pcN_split 0 (1 + j) n (bitsN p n) (bitsN_lt p n)
      rw [if_neg c, if_neg c, show bitsN p n + 0 = 2 ^ n * 0 + bitsN p n by omega, show n + 1 + j = n + (1 + j) by omega, this, h0, pcN_z]
theorem pcN_bits24 (p : Nat → Bool) {n : Nat} (h : n ≤ 24) : pcN (bitsN p n) 24 = sumN (fun i => if p i then 1 else 0) n := by
  have := pcN_bits p n (24 - n)
  rw [show n + (24 - n) = 24 by omega] at this
  exact this
theorem bitsN_24 (p : Nat → Bool) {n : Nat} (h : n ≤ 24) : bitsN p n < 2 ^ 24 := Nat.lt_of_lt_of_le (bitsN_lt p n) (Nat.pow_le_pow_right (by decide) h)
theorem lt_sw_n {k : Nat} {ks : List (Option lt_r)} {kd : Option lt_r} (h : ks.length < 2 ^ 31) (hk : k < ks.length) : lt_sw (nI k) ks kd = (ks[k]?).getD kd := by
  unfold lt_sw
  rw [nI_toInt (by omega), if_neg (by omega)]
  rfl
theorem lt_sw_o {x : Int32} {n : Nat} {ks : List (Option lt_r)} {kd : Option lt_r} (hn : ks.length = n) (h2 : n < 2 ^ 31) (h : x < 0 ∨ nI n ≤ x) : lt_sw x ks kd = kd := by
  unfold lt_sw
  rw [hn, if_pos]
  rcases h with h | h
  · rw [Int32.lt_iff_toInt_lt, Int32.toInt_zero] at h; exact Or.inl h
  · rw [Int32.le_iff_toInt_le, nI_toInt (by omega)] at h; exact Or.inr (by omega)
theorem s20 {w2 : Nat} (h : w2 ≤ 20) (c : Nat → Prop) [DecidablePred c] (f : Nat → Nat) : sumN (fun i => if c i then f i else 0) w2 = sumN (fun i => if i < w2 ∧ c i then f i else 0) 20 := by
  rw [sumN_ext (a := w2) (b := 20) h (fun i h1 h2 => by rw [if_neg (by omega)])]
  exact sumN_congr fun i hi => by simp [hi]
theorem b20 {w2 : Nat} (h : w2 ≤ 20) (c : Nat → Bool) : bitsN c w2 = bitsN (fun i => decide (i < w2) && c i) 20 := by
  rw [bitsN_ext (a := w2) (b := 20) h (fun i h1 h2 => by simp; omega)]
  exact bitsN_congr fun i hi => by simp [hi]
theorem sp_tt (x : Int32) : x.toInt64.toInt = x.toInt := Int32.toInt_toInt64 x
section OPS
variable {dist wl : NT → Nat → Nat → Nat} {N : NT} {w : Nat → Nat} {T : Nat} {m : lt_m} {vs us : List Int32}
theorem RR_t0 (h : RR dist wl T m) : RR dist wl T (lm_i m 711 15 0) := by
  obtain ⟨N, w, vs, hs, hl, hc, hm⟩ := h
  exact ⟨N, w, vs, hs.t0, hl, rwC_t0 hc, rwM_t0 hm⟩
theorem OP_q {d : Nat} {y z : Nat} {as : List ts_V} (v : ts_V) (hr : RR dist wl T m) (h1 : lt_ev (d + 30) y (.inr (.inr (some 0)) :: as) m = some (some v, m)) (h2 : lt_ev (d + 30) z (.inr (.inr (some 711)) :: as) m = some (some v, lm_i m 711 15 0)) : OP dist wl d T T y z as m := ⟨v, m, _, h1, h2, RR_t0 hr⟩
theorem tell1 (hs : RS dist wl N w T m) (A : Int32) : ∃ M2 R1, (∀ d, lt_ev (d + 3) 75 [.inr (.inr (some 0)), .inl A] m = some (none, M2)) ∧ RS dist wl N w T M2 ∧ RS dist wl N w T (lm_i (lm_i M2 711 15 0) 711 14 0) ∧ (∀ d, lt_ev (d + 1) 202 [.inr (.inr (some 711)), .inr (.inl A.toInt64)] (lm_i (lm_i M2 711 15 0) 711 14 0) = some (none, R1)) ∧ RS dist wl N w T R1 ∧ RR dist wl T R1 := by
  obtain ⟨M2, e2, s2, r2⟩ := k75e 0 A m
  have hs2 := RS_fr s2 hs
  have hz := hs2.t0.z0
  obtain ⟨R1, f1, t1, u1, v1⟩ := m202e 0 A (rwM_z0 (lm_i M2 711 15 0)) (by simp) (rwC_z0 (rwC_t0 r2))
  have hz1 := RS_fr t1 hz
  have e2' : M2 = radd (rclr m) 0 A := by
    have := (k75 0 (m := m) (v := A)).symm.trans e2
    cases this; rfl
  have f1' : R1 = rtel (lm_i (lm_i M2 711 15 0) 711 14 0) 0 A.toInt64 := by
    have := (m202 0 (x := A.toInt64) (rwM_z0 (lm_i M2 711 15 0)).1 (by decide)).symm.trans f1
    cases this; rfl
  exact ⟨M2, R1, fun d => by rw [e2']; exact k75 d, hs2, hz, fun d => by rw [f1']; exact m202 d (rwM_z0 (lm_i M2 711 15 0)).1 (by decide), hz1, ⟨N, w, _, hz1, by simp, v1, u1⟩⟩
theorem tell2 (hs : RS dist wl N w T m) (A B : Int32) : ∃ M2 R1 R2, (∀ d, lt_ev (d + 4) 74 [.inr (.inr (some 0)), .inl A, .inl B] m = some (none, M2)) ∧ RS dist wl N w T M2 ∧ RS dist wl N w T (lm_i (lm_i M2 711 15 0) 711 14 0) ∧ (∀ d, lt_ev (d + 1) 202 [.inr (.inr (some 711)), .inr (.inl A.toInt64)] (lm_i (lm_i M2 711 15 0) 711 14 0) = some (none, R1)) ∧ RS dist wl N w T R1 ∧ (∀ d, lt_ev (d + 1) 202 [.inr (.inr (some 711)), .inr (.inl B.toInt64)] R1 = some (none, R2)) ∧ RS dist wl N w T R2 ∧ RR dist wl T R2 := by
  obtain ⟨M2, e2, s2, r2⟩ := k74e 0 A B m
  have hs2 := RS_fr s2 hs
  have hz := hs2.t0.z0
  obtain ⟨R1, f1, t1, u1, v1⟩ := m202e 0 A (rwM_z0 (lm_i M2 711 15 0)) (by simp) (rwC_z0 (rwC_t0 r2))
  have hz1 := RS_fr t1 hz
  obtain ⟨R2, f2, t2, u2, v2⟩ := m202e 0 B u1 (by simp) v1
  have hz2 := RS_fr t2 hz1
  have e2' : M2 = radd (radd (rclr m) 0 A) 1 B := by
    have := (k74 0 (m := m) (v := A) (u := B)).symm.trans e2
    cases this; rfl
  have f1' : R1 = rtel (lm_i (lm_i M2 711 15 0) 711 14 0) 0 A.toInt64 := by
    have := (m202 0 (x := A.toInt64) (rwM_z0 (lm_i M2 711 15 0)).1 (by decide)).symm.trans f1
    cases this; rfl
  have f2' : R2 = rtel R1 1 B.toInt64 := by
    have := (m202 0 (x := B.toInt64) u1.1 (by simp)).symm.trans f2
    cases this; rfl
  exact ⟨M2, R1, R2, fun d => by rw [e2']; exact k74 d, hs2, hz, fun d => by rw [f1']; exact m202 d (rwM_z0 (lm_i M2 711 15 0)).1 (by decide), hz1, fun d => by rw [f2']; exact m202 d u1.1 (by simp), hz2, ⟨N, w, _, hz2, by simp, v2, u2⟩⟩
/-- the reference's check of a number from 0 to n - 1, when it fails and when it holds -/
theorem m181_t (d : Nat) {n k : Nat} (hk : k ≤ n) (hn : n < 2 ^ 30) {z : Int64} (hz : z.toInt = n) (m : lt_m) : lt_ev (d + 1) 181 [.inr (.inl (nI k).toInt64), .inr (.inl (0 : Int64)), .inr (.inl z)] m = some (some (.inl 1), m) := by
  rw [k181, sp_tt, hz, nI_toInt (by omega), show (0 : Int64).toInt = 0 by decide, if_pos (by omega)]
theorem m181_f (d : Nat) {n : Nat} (hn : n < 2 ^ 30) {x : Int32} (hx : x < 0 ∨ nI (n + 1) ≤ x) {z : Int64} (hz : z.toInt = n) (m : lt_m) : lt_ev (d + 1) 181 [.inr (.inl x.toInt64), .inr (.inl (0 : Int64)), .inr (.inl z)] m = some (some (.inl 0), m) := by
  rw [k181, sp_tt, hz, show (0 : Int64).toInt = 0 by decide, if_neg]
  rcases hx with h | h
  · rw [Int32.lt_iff_toInt_lt, Int32.toInt_zero] at h; omega
  · rw [Int32.le_iff_toInt_le, nI_toInt (by omega)] at h; omega
/-- office -/
theorem m195_c (d : Nat) {a0 : Nat} (h0 : ts_sh a0 = (0, 12)) (h : ml N w a0 m) (hN : wfN N) (hw : wfL N w) {a : Nat} (ha : a < N.1) (x2 : Int32) : L195_32 (d + 4) a0 (nI a) x2 0 0 m = L195_71 (d + 4) a0 (nI a) x2 (nI (sumN (fun b => if decide (0 < N.2.2.1 a b) then 1 else 0) N.1)) (nI 0) 0 m := by
  have bn := hN.2.1
  refine lp_it (F := fun i (_ : Unit) => L195_32 (d + 4) a0 (nI a) x2 (nI (sumN (fun b => if decide (0 < N.2.2.1 a b) then 1 else 0) i)) (nI i) m) N.1 ?_ ?_ ()
  · intro i o hi
    refine ⟨(), ?_⟩
    have hh := hN.2.2.2.1 a i ha hi
    rw [E195_32 _ _ _ _ _ _ h0, h.2.1]
    simp (disch := omega) only [sp_len]
    rw [if_neg (by omega), m194 (d + 3) h0 h hN ha hi, lt_cI_s]
    simp (disch := omega) only [q_0, sp_len, sumN, decide_eq_true_eq]
    by_cases c : 0 < N.2.2.1 a i
    · rw [if_neg (by omega), if_pos c, nI_1, nI_1]
    · rw [if_pos (by omega), if_neg c, nI_1, nI_add]
  · intro o
    rw [E195_32 _ _ _ _ _ _ h0, h.2.1]
    simp (disch := omega) only [sp_len]
    rw [if_pos (Nat.le_refl _)]
    rfl
theorem m195_s (d : Nat) {a0 : Nat} (h0 : ts_sh a0 = (0, 12)) (h : ml N w a0 m) (hN : wfN N) (hw : wfL N w) {a : Nat} (ha : a < N.1) (x2 x3 : Int32) : L195_71 (d + 4) a0 (nI a) x2 x3 (nI 0) 0 m = if ¬ x2 = 0 then (if ¬ x2 = (1 : Int32) then (some (some (.inl (nI (w_seenAt w a))), m)) else (some (some (.inl x3), m))) else (lt_gd (0 ≤ nI a ∧ (nI a).toNatClampNeg < 12) (some (some (.inl (m.1 (a0 + 4) (nI a).toNatClampNeg)), m))) := by
  have h20 := hw.2.2.1
  have bn := hN.2.1
  refine lp_it (F := fun i (_ : Unit) => L195_71 (d + 4) a0 (nI a) x2 x3 (nI (bitsN (fun i => w_goes w i && decide (w_seen w i = a)) i)) (nI i) m) (w 2) ?_ ?_ ()
  · intro i o hi
    refine ⟨(), ?_⟩
    rw [E195_71 _ _ _ _ _ _ _ h0, lt_gd_t g2_ok, w2_at h]
    simp (disch := omega) only [sp_len, bitsN_succ]
    obtain ⟨g1, g2, g3, g4⟩ := wf_sp hw hi
    have hb : w_seen w i < N.1 := wf_rt hw hi (by omega)
    rw [if_neg (by omega), m196 (d + 1) h0 h hw hi, lt_cI_s]
    by_cases c : w_goes w i = true
    · rw [if_pos c, if_neg (by decide), m199 (d + 2) h0 h hw hi, lt_cI_s]
      simp (disch := omega) only [sp_eqn]
      by_cases c2 : w_seen w i = a
      · rw [if_neg (by simp [c2]), if_pos (by simp [c, c2]), sp_bit (by omega), sp_orI (bitsN_lt _ i), nI_1]
      · rw [if_pos c2, if_neg (by simp [c2]), sp_or0, nI_1]; rfl
    · rw [if_neg c, if_pos rfl, if_neg (by simp [c]), sp_or0, nI_1]; rfl
  · intro o
    rw [E195_71 _ _ _ _ _ _ _ h0, lt_gd_t g2_ok, w2_at h, if_pos (by rw [sp_len (by omega) (by omega)]; exact Nat.le_refl _)]
    rfl
theorem op_office (d : Nat) (hr : RR dist wl T m) (x y : Int32) : OP dist wl d T T 58 195 [.inl x, .inl y] m := by
  have hr0 := hr
  obtain ⟨N, w, vs, hs, hl, hc, hm⟩ := hr
  have hN := hs.wfN
  have hw := hs.wfL
  have bn := hN.2.1
  rcases c14 hs.nR hN x with ⟨a, ha, rfl, e⟩ | ⟨hx, e⟩
  · rcases pk_ix y (n := 3) (by decide) with c | c | ⟨k, hk, rfl⟩
    · refine OP_q (.inl (-1)) hr0 ?_ ?_
      · refine (E58 (d + 29) 0 _ _ sx m).trans ?_
        rw [lt_gd_t hs.sA, p14 (d + 28) _ _ hs.sA m, lt_cI_s, e, if_pos (by decide), lt_sw_o (n := 3) rfl (by decide) (Or.inl c)]
      · refine (E195 (d + 29) 711 _ _ sy m).trans ?_
        rw [m193 (d + 27) sy hs.t0.ml hN, lt_cI_s, sp_i1 ha (by omega), if_neg (by decide), m181_f (d + 28) (n := 2) (by decide) (Or.inl c) (by decide), lt_cI_s, if_neg (by decide)]
    · refine OP_q (.inl (-1)) hr0 ?_ ?_
      · refine (E58 (d + 29) 0 _ _ sx m).trans ?_
        rw [lt_gd_t hs.sA, p14 (d + 28) _ _ hs.sA m, lt_cI_s, e, if_pos (by decide), lt_sw_o (n := 3) rfl (by decide) (Or.inr c)]
      · refine (E195 (d + 29) 711 _ _ sy m).trans ?_
        rw [m193 (d + 27) sy hs.t0.ml hN, lt_cI_s, sp_i1 ha (by omega), if_neg (by decide), m181_f (d + 28) (n := 2) (by decide) (Or.inr c) (by decide), lt_cI_s, if_neg (by decide)]
    · have hm : lt_ev (d + 30) 195 [.inr (.inr (some 711)), .inl (nI a), .inl (nI k)] m = if ¬ nI k = 0 then (if ¬ nI k = (1 : Int32) then (some (some (.inl (nI (w_seenAt w a))), lm_i m 711 15 0)) else (some (some (.inl (nI (sumN (fun b => if decide (0 < N.2.2.1 a b) then 1 else 0) N.1))), lm_i m 711 15 0))) else (some (some (.inl (nI (N.2.2.2.1 a))), lm_i m 711 15 0)) := by
        refine (E195 (d + 29) 711 _ _ sy m).trans ?_
        rw [m193 (d + 27) sy hs.t0.ml hN, lt_cI_s, sp_i1 ha (by omega), if_neg (by decide), m181_t (d + 28) (n := 2) (by omega) (by decide) (by decide), lt_cI_s, if_pos (by decide), m195_c (d + 25) sy hs.t0.ml hN hw ha, m195_s (d + 25) sy hs.t0.ml hN hw ha, lt_gd_t (sp_gd (by omega) (by omega)), nI_clamp (by omega), hs.t0.ml.2.2.2.1 a ha]
      have hcl : lt_ev (d + 30) 58 [.inr (.inr (some 0)), .inl (nI a), .inl (nI k)] m = _ := (E58 (d + 29) 0 _ _ sx m)
      rw [lt_gd_t hs.sA, p14 (d + 28) _ _ hs.sA m, lt_cI_s, e, if_pos (by decide), lt_sw_n (by simp) (by simp; omega)] at hcl
      have hk3 : k = 0 ∨ k = 1 ∨ k = 2 := by omega
      rcases hk3 with rfl | rfl | rfl
      · refine OP_q _ hr0 (hcl.trans ?_) (hm.trans (by rw [if_neg (by decide)]))
        refine (lt_gd_t hs.sA).trans ?_
        rw [p21 (d + 27) _ _ hs.sA m, lt_cI_s, c21 hs.nR hN ha]
      · refine OP_q _ hr0 (hcl.trans ?_) (hm.trans (by rw [if_pos (by decide), if_neg (by decide)]))
        refine (lt_gd_t hs.sA).trans ?_
        rw [p59 (d + 26) _ _ hs.sA m, lt_cI_s]
        unfold v59
        rw [c49 hs.nR hN ha, sp_ones m (bitsN_24 _ (by omega)), pcN_bits24 _ (by omega)]
      · refine OP_q _ hr0 (hcl.trans ?_) (hm.trans (by rw [if_pos (by decide), if_pos (by decide)]))
        show lt_cI (lt_ev (d + 29) 61 [.inr (.inr (some (0 + 13))), .inl (nI a)] m) _ = _
        rw [k61 (d + 25) sL hs.cl hN hw (by omega), lt_cI_s]
  · refine OP_q (.inl (-1)) hr0 ?_ ?_
    · refine (E58 (d + 29) 0 _ _ sx m).trans ?_
      rw [lt_gd_t hs.sA, p14 (d + 28) _ _ hs.sA m, lt_cI_s, e, if_neg (by decide)]
    · refine (E195 (d + 29) 711 _ _ sy m).trans ?_
      rw [m193 (d + 27) sy hs.t0.ml hN, lt_cI_s, sp_i0 (by omega) hx, if_pos (by decide)]
/-- worth -/
theorem op_worth (d : Nat) (hr : RR dist wl T m) (x : Int32) : OP dist wl d T T 144 255 [.inl x] m := by
  have hr0 := hr
  obtain ⟨N, w, vs, hs, hl, hc, hm⟩ := hr
  have hN := hs.wfN
  have hw := hs.wfL
  have h20 := hw.2.2.1
  have b1 := hw.2.1
  rcases c90 hs.cl hw x with ⟨t, ht, rfl, e⟩ | ⟨hx, e⟩
  · obtain ⟨f, hf⟩ : ∃ f, f = fun i => if w_of w i = t ∧ w_open w i = true then w_un w i * N.2.2.2.2 (w_kd w i) else 0 := ⟨_, rfl⟩
    obtain ⟨g, hg⟩ : ∃ g, g = fun i => if (w_of w i = t ∧ w_open w i = true) ∧ (w_st w i = 3 ∨ w_st w i = 4) then 1 else 0 := ⟨_, rfl⟩
    have ef : sumN f (w 2) = sumN (fun i => if i < w 2 ∧ (w_of w i = t ∧ w_open w i = true) then w_un w i * N.2.2.2.2 (w_kd w i) else 0) 20 := by rw [hf]; exact s20 h20 _ _
    have eg : sumN g (w 2) = sumN (fun i => if i < w 2 ∧ ((w_of w i = t ∧ w_open w i = true) ∧ (w_st w i = 3 ∨ w_st w i = 4)) then 1 else 0) 20 := by rw [hg]; exact s20 h20 _ _
    obtain ⟨M2, R1, R2, e2, hs2, hz, f1, hz1, f2, hz2, hR⟩ := tell2 hs (nI (sumN f (w 2)) - nI (w_used w t)) (nI (sumN g (w 2)))
    refine ⟨.inl (nI (sumN f (w 2))), M2, R2, ?_, ?_, hR⟩
    · refine (E144 (d + 29) 0 _ sx m).trans ?_
      rw [p90 (d + 28) _ _ sL m, lt_cI_s, e, if_pos (by decide)]
      rw [ef, eg] at e2
      rw [ef]
      refine lp_it (F := fun i o => L144_34 (d + 29) 0 (nI t) (nI (sumN (fun i => if i < w 2 ∧ (w_of w i = t ∧ w_open w i = true) then w_un w i * N.2.2.2.2 (w_kd w i) else 0) i)) (nI (sumN (fun i => if i < w 2 ∧ ((w_of w i = t ∧ w_open w i = true) ∧ (w_st w i = 3 ∨ w_st w i = 4)) then 1 else 0) i)) (nI i) o m) 20 ?_ ?_ none
      · intro i o hi
        refine ⟨some (.inr (.inr (some (0 + 13 + 3 + 5 + 3 * i)))), ?_⟩
        rw [E144_34 _ _ _ _ _ _ _ sx]
        simp (disch := omega) only [q_20, sp_len, nI_clamp]
        rw [if_neg (by omega), lt_gd_t ⟨nI_pos' (by omega), hi⟩, p92 (d + 28) _ _ (sh_mv sL hi) m, lt_cI_s, c92 hs.cl hw hi (by omega)]
        simp only [sumN]
        by_cases c : i < w 2 ∧ w_of w i = t ∧ w_open w i = true
        · obtain ⟨-, -, -, e4, -, -, e7, -⟩ := hs.cl.2.2.2.2.1 i c.1
          have b7 := wf_st hw c.1
          rw [if_pos c, if_neg (by decide), if_pos (show i < w 2 ∧ (w_of w i = t ∧ w_open w i = true) from c), e4, e7]
          simp (disch := omega) only [q_3, q_4, sp_eqn]
          by_cases c3 : w_st w i = 3
          · rw [if_pos c3, if_pos ⟨c.1, c.2, Or.inl c3⟩, nI_add, nI_1, nI_1]
          · rw [if_neg c3]
            by_cases c4 : w_st w i = 4
            · rw [if_neg (by simp [c4]), if_pos ⟨c.1, c.2, Or.inr c4⟩, nI_add, nI_1, nI_1]
            · rw [if_pos c4, if_neg (fun q => by omega), nI_add, nI_1, sp_add0]; rfl
        · rw [if_neg c, if_pos rfl, if_neg (fun q => c q), if_neg (fun q => c ⟨q.1, q.2.1⟩), nI_1]; rfl
      · intro o
        rw [E144_34 _ _ _ _ _ _ _ sx, if_pos (by decide), k91 (d + 27) sL hs.cl hw (by omega), lt_cI_s, e2, lt_cV_s]
    · refine (E255 (d + 29) 711 _ sy M2).trans ?_
      rw [m213 (d + 27) sy hs2.t0.ml hw, lt_cI_s, sp_i1 ht (by omega), if_pos (by decide)]
      refine lp_it (F := fun i (_ : Unit) => L255_22 (d + 29) 711 (nI t) (nI (sumN f i)) (nI (sumN g i)) (nI i) (lm_i M2 711 15 0)) (w 2) ?_ ?_ ()
      · intro i o hi
        refine ⟨(), ?_⟩
        have h := hs2.t0.ml
        have b7 := wf_st hw hi
        have b6 := wf_tr hw hi
        rw [E255_22 _ _ _ _ _ _ sy, lt_gd_t g2_ok, w2_at h]
        simp (disch := omega) only [sp_len]
        rw [if_neg (by omega), m198_of (d + 28) sy h (by omega), lt_cI_s]
        simp (disch := omega) only [sp_eqn, sumN]
        by_cases c1 : w_of w i = t
        · rw [if_neg (by simp [c1]), m215 (d + 26) sy h hw hi, lt_cI_s]
          by_cases c2 : w_open w i = true
          · have v1 : f i = w_un w i * N.2.2.2.2 (w_kd w i) := by rw [hf]; exact if_pos ⟨c1, c2⟩
            rw [if_pos c2, if_pos (by decide), m241 (d + 27) sy h hN hw hi, lt_cI_s, m197 (d + 27) sy h (by omega), lt_cI_s, v1]
            simp (disch := omega) only [q_3, q_4, sp_eqn]
            by_cases c3 : w_st w i = 3
            · have v2 : g i = 1 := by rw [hg]; exact if_pos ⟨⟨c1, c2⟩, Or.inl c3⟩
              rw [if_pos c3, v2, nI_add, nI_1, nI_1]
            · rw [if_neg c3, m197 (d + 27) sy h (by omega), lt_cI_s]
              simp (disch := omega) only [sp_eqn]
              by_cases c4 : w_st w i = 4
              · have v2 : g i = 1 := by rw [hg]; exact if_pos ⟨⟨c1, c2⟩, Or.inr c4⟩
                rw [if_neg (by simp [c4]), v2, nI_add, nI_1, nI_1]
              · have v2 : g i = 0 := by rw [hg]; exact if_neg (by omega)
                rw [if_pos c4, v2, nI_add, nI_1, sp_add0]; rfl
          · have v1 : f i = 0 := by rw [hf]; exact if_neg (fun q => c2 q.2)
            have v2 : g i = 0 := by rw [hg]; exact if_neg (fun q => c2 q.1.2)
            rw [if_neg c2, if_neg (by decide), v1, v2, nI_1]; rfl
        · have v1 : f i = 0 := by rw [hf]; exact if_neg (fun q => c1 q.1)
          have v2 : g i = 0 := by rw [hg]; exact if_neg (fun q => c1 q.1.1)
          rw [if_pos c1, v1, v2, nI_1]; rfl
      · intro o
        rw [E255_22 _ _ _ _ _ _ sy, lt_gd_t g2_ok, w2_at hs2.t0.ml, if_pos (by rw [sp_len (by omega) (by omega)]; exact Nat.le_refl _), m214 (d + 25) sy hz.ml hw (by omega), lt_cI_s, f1, lt_cV_s, f2, lt_cV_s]
  · refine OP_q (.inl (-1)) hr0 ?_ ?_
    · refine (E144 (d + 29) 0 _ sx m).trans ?_
      rw [p90 (d + 28) _ _ sL m, lt_cI_s, e, if_neg (by decide)]
    · refine (E255 (d + 29) 711 _ sy m).trans ?_
      rw [m213 (d + 27) sy hs.t0.ml hw, lt_cI_s, sp_i0 (by omega) hx, if_neg (by decide)]
end OPS

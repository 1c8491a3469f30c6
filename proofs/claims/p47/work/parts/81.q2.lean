/-! ===== owed, can, frees, when, count, book, row ===== -/
section CPS
variable {T : Nat} {S : ST} {vs : List Int32} {m m' : lt_m}
def owN (N : NT) (w : Nat → Nat) (t st : Nat) : Nat := sumN (fun i => if 4 ≤ w_st w i ∧ N.2.2.2.1 (w_seen w i) = t then (if w_st w i = st then w_db w i else 0) else 0) (w 2)
def owC (N : NT) (w : Nat → Nat) (t : Nat) : Nat := sumN (fun i => if 4 ≤ w_st w i ∧ N.2.2.2.1 (w_seen w i) = t then 1 else 0) (w 2)
/-- owed -/
theorem q_owed (d : Nat) (h : cP T S vs m) {t : Nat} (ht : t < 6) : ∃ m', lt_ev (d + 12) 138 [.inr (.inr (some 0)), .inl (nI t)] m = some (some (.inl (nI (owN S.N S.w t 4))), m') ∧ cP T S [nI (owN S.N S.w t 5), nI (owC S.N S.w t)] m' := by
  have hw := h.wfL
  have hN := h.wfN
  have h20 := hw.2.2.1
  have bn := hN.2.1
  obtain ⟨w, hww⟩ : ∃ w, w = S.w := ⟨_, rfl⟩
  obtain ⟨N, hNN⟩ : ∃ N, N = S.N := ⟨_, rfl⟩
  have hcl0 := h.cl
  have hnR := h.nR
  unfold owN owC
  rw [← hww] at hw h20 hcl0 ⊢
  rw [← hNN] at hN hw hcl0 hnR bn ⊢
  obtain ⟨f, hf⟩ : ∃ f, f = fun i => if 4 ≤ w_st w i ∧ N.2.2.2.1 (w_seen w i) = t then (if w_st w i = 4 then w_db w i else 0) else 0 := ⟨_, rfl⟩
  obtain ⟨g, hg⟩ : ∃ g, g = fun i => if 4 ≤ w_st w i ∧ N.2.2.2.1 (w_seen w i) = t then (if w_st w i = 5 then w_db w i else 0) else 0 := ⟨_, rfl⟩
  obtain ⟨k, hk⟩ : ∃ k, k = fun i => if 4 ≤ w_st w i ∧ N.2.2.2.1 (w_seen w i) = t then 1 else 0 := ⟨_, rfl⟩
  rw [← hf, ← hg, ← hk]
  have ef : sumN f (w 2) = sumN (fun i => if i < w 2 ∧ (4 ≤ w_st w i ∧ N.2.2.2.1 (w_seen w i) = t) then (if w_st w i = 4 then w_db w i else 0) else 0) 20 := by rw [hf]; exact s20 h20 _ _
  have eg : sumN g (w 2) = sumN (fun i => if i < w 2 ∧ (4 ≤ w_st w i ∧ N.2.2.2.1 (w_seen w i) = t) then (if w_st w i = 5 then w_db w i else 0) else 0) 20 := by rw [hg]; exact s20 h20 _ _
  have ek : sumN k (w 2) = sumN (fun i => if i < w 2 ∧ (4 ≤ w_st w i ∧ N.2.2.2.1 (w_seen w i) = t) then 1 else 0) 20 := by rw [hk]; exact s20 h20 _ _
  obtain ⟨M2, e2, h2⟩ := q_tell2 h (nI (sumN g (w 2))) (nI (sumN k (w 2)))
  refine ⟨M2, ?_, h2⟩
  refine (E138 (d + 11) 0 _ sx m).trans ?_
  rw [if_neg (nI_pos (by omega)), if_pos (by rw [q_6, sp_ltn (by omega) (by omega)]; omega)]
  rw [eg, ek] at e2
  rw [ef]
  refine lp_it (F := fun i o => L138_36 (d + 11) 0 (nI t) (nI (sumN (fun i => if i < w 2 ∧ (4 ≤ w_st w i ∧ N.2.2.2.1 (w_seen w i) = t) then (if w_st w i = 4 then w_db w i else 0) else 0) i)) (nI (sumN (fun i => if i < w 2 ∧ (4 ≤ w_st w i ∧ N.2.2.2.1 (w_seen w i) = t) then (if w_st w i = 5 then w_db w i else 0) else 0) i)) (nI (sumN (fun i => if i < w 2 ∧ (4 ≤ w_st w i ∧ N.2.2.2.1 (w_seen w i) = t) then 1 else 0) i)) (nI i) o m) 20 ?_ ?_ none
  · intro i o hi
    refine ⟨some (.inr (.inr (some (0 + 13 + 3 + 5 + 3 * i)))), ?_⟩
    have hq := sh_mv sL hi
    rw [E138_36 _ _ _ _ _ _ _ _ sx]
    simp (disch := omega) only [q_20, sp_len, nI_clamp, sumN]
    rw [if_neg (by omega), lt_gd_t ⟨nI_pos' (by omega), hi⟩, p139 (d + 10) _ hq m, lt_cI_s, c139 hcl0 hw hi]
    by_cases c : i < w 2 ∧ 4 ≤ w_st w i
    · obtain ⟨g1, g2, g3, g4⟩ := wf_sp hw c.1
      have hse : w_seen w i < N.1 := wf_rt hw c.1 (by omega)
      have hco : N.2.2.2.1 (w_seen w i) ≤ 5 := hN.2.2.2.2.2.2.1 _ hse
      obtain ⟨-, -, -, -, -, -, e7, -, -, e10, -⟩ := hcl0.2.2.2.2.1 i c.1
      have b7 := wf_st hw c.1
      rw [show (if i < w 2 ∧ 4 ≤ w_st w i then (1 : Int32) else 0) = 1 from if_pos c, if_neg (by decide), p63 (d + 8) _ hq m, lt_cI_s, c63 hcl0 hw c.1, lt_gd_t h.sA, p21 (d + 9) _ _ h.sA m, lt_cI_s, c21 hnR hN hse, e7, e10]
      simp (disch := omega) only [q_4, sp_eqn]
      by_cases c2 : N.2.2.2.1 (w_seen w i) = t
      · have cc : i < w 2 ∧ (4 ≤ w_st w i ∧ N.2.2.2.1 (w_seen w i) = t) := ⟨c.1, c.2, c2⟩
        rw [if_neg (by simp [c2]), if_pos cc, if_pos cc, if_pos cc]
        by_cases c4 : w_st w i = 4
        · rw [if_neg (by simp [c4]), if_pos c4, if_neg (by omega), E138_93 _ _ _ _ _ _ _ _ _ _ hq, e7, if_pos (by rw [q_5, sp_eqn (by omega) (by omega)]; omega), nI_add, nI_1, nI_1, sp_add0]; rfl
        · have c5 : w_st w i = 5 := by omega
          rw [if_pos c4, if_neg c4, if_pos c5, E138_93 _ _ _ _ _ _ _ _ _ _ hq, e7, e10, if_neg (by rw [c5]; decide), sp_add0, nI_1, nI_1, nI_add]; rfl
      · rw [if_pos c2, if_neg (fun q => c2 q.2.2), if_neg (fun q => c2 q.2.2), if_neg (fun q => c2 q.2.2), nI_1]; rfl
    · rw [show (if i < w 2 ∧ 4 ≤ w_st w i then (1 : Int32) else 0) = 0 from if_neg c, if_pos rfl, if_neg (fun q => c ⟨q.1, q.2.1⟩), if_neg (fun q => c ⟨q.1, q.2.1⟩), if_neg (fun q => c ⟨q.1, q.2.1⟩), nI_1]; rfl
  · intro o
    rw [E138_36 _ _ _ _ _ _ _ _ sx, if_pos (by decide), e2 (d + 7), lt_cV_s]
/-- can: how many units of a kind, and their share -/
def canN (N : NT) (w : Nat → Nat) (t g : Nat) : Nat := if w (5 + 2 * t) = 3 then 999 else min 999 (paN (w (5 + 2 * t)) * (w (4 + 2 * t) - w_used w t) / N.2.2.2.2 g)
theorem can_in {N : NT} {w : Nat → Nat} (hN : wfN N) (hw : wfL N w) {t g : Nat} (ht : t < w 1) (hg : g < N.2.1) {u : Nat} (hu : u ≤ 999) : shN (u * N.2.2.2.2 g) (w (5 + 2 * t)) ≤ w (4 + 2 * t) - w_used w t ↔ u ≤ canN N w t g := by
  have bD := hN.2.2.2.2.2.2.2 g hg
  have bl := (hw.2.2.2.2.1 t ht).2.1
  by_cases c : w (5 + 2 * t) = 3
  · rw [canN, if_pos c, c]
    exact ⟨fun _ => hu, fun _ => by show 0 ≤ _; omega⟩
  · rw [canN, if_neg c, shN_iff (by omega), Nat.le_min, Nat.le_div_iff_mul_le (by omega)]
    exact ⟨fun q => ⟨hu, q⟩, fun q => q.2⟩
theorem canN_le {N : NT} {w : Nat → Nat} {t g : Nat} : canN N w t g ≤ 999 := by
  unfold canN
  split <;> omega
theorem q_can (d : Nat) (h : cP T S vs m) {t g : Nat} (ht : t < S.w 1) (hg : g < S.N.2.1) : ∃ m', lt_ev (d + 12) 147 [.inr (.inr (some 0)), .inl (nI t), .inl (nI g)] m = some (some (.inl (nI (canN S.N S.w t g))), m') ∧ cP T S [nI (shN (canN S.N S.w t g * S.N.2.2.2.2 g) (S.w (5 + 2 * t)))] m' := by
  have hN := h.wfN
  have hw := h.wfL
  have h6 := hw.2.1
  have bg := hN.2.2.1
  have e := q_trd h ht
  have e' : v103 m m.2.2.1 (nI g) = 1 := by
    rcases c103 h.nR hN (nI g) with ⟨t', ht', -, e⟩ | ⟨hx, -⟩
    · exact e
    · rcases hx with hx | hx
      · exact absurd hx (nI_pos (by omega))
      · rw [sp_len (by omega) (by omega)] at hx; omega
  obtain ⟨U, hUU⟩ : ∃ U, U = canN S.N S.w t g := ⟨_, rfl⟩
  have bU : U ≤ 999 := by rw [hUU]; exact canN_le
  have hU := hUU
  unfold canN at hU
  rw [← hUU]
  have hcl := h.cl
  have hnR := h.nR
  obtain ⟨w, hww⟩ : ∃ w, w = S.w := ⟨_, rfl⟩
  obtain ⟨N, hNN⟩ : ∃ N, N = S.N := ⟨_, rfl⟩
  rw [← hww] at hw ht h6 hcl hU ⊢
  rw [← hNN] at hN hw hcl hnR bg hg hU ⊢
  obtain ⟨D, hD⟩ : ∃ D, D = N.2.2.2.2 g := ⟨_, rfl⟩
  have bD := hN.2.2.2.2.2.2.2 g hg
  rw [← hD] at bD hU ⊢
  obtain ⟨l, hll⟩ : ∃ l, l = w (5 + 2 * t) := ⟨_, rfl⟩
  have bl := (hw.2.2.2.2.1 t ht).2.1
  rw [← hll] at bl hU ⊢
  obtain ⟨F, hF⟩ : ∃ F, F = w (4 + 2 * t) - w_used w t := ⟨_, rfl⟩
  have bF : F ≤ 999999 := by have := (hw.2.2.2.2.1 t ht).1; omega
  rw [← hF] at hU
  have bUD : U * D ≤ 999 * 999 := Nat.mul_le_mul bU bD.2
  obtain ⟨M2, e2, h2⟩ := q_tell1 h (nI (shN (U * D) l))
  have he : v25 m m.2.2.1 (nI g) = nI D := by rw [c25 hnR hN hg, hD]
  have he2 : v95 m (0 + 13) (nI t) = nI l := by rw [c95 hcl hw ht, hll]
  refine ⟨M2, ?_, h2⟩
  refine (E147 (d + 11) 0 _ _ sx m).trans ?_
  rw [p90 (d + 10) _ _ sL m, lt_cI_s, e, if_neg (by decide), lt_gd_t h.sA, p103 (d + 10) _ _ h.sA m, lt_cI_s, e', if_pos (by decide), lt_gd_t h.sA, p25 (d + 9) _ _ h.sA m, lt_cI_s, he, p95 (d + 9) _ _ sL m, lt_cI_s, he2]
  simp (disch := omega) only [q_3, sp_eqn, sp_le0]
  by_cases c : l = 3
  · rw [if_pos c, q_999, pk_mul, k106 (d + 9) bl (by have := Nat.mul_le_mul_left 999 bD.2; omega), lt_cI_s]
    have : U = 999 := by rw [hU]; exact if_pos c
    rw [this] at e2 ⊢
    rw [e2 (d + 8), lt_cV_s]
  · have hU2 : U = min 999 (paN l * F / D) := by rw [hU]; exact if_neg c
    have hp := paN_pos (l := l) (by omega)
    have hpf : paN l * F ≤ 10 * 999999 := Nat.mul_le_mul hp.2 bF
    have hdv : paN l * F / D ≤ paN l * F := Nat.div_le_self _ _
    have hne : ¬ nI D = (0 : Int32) := by rw [sp_eq0 (by omega)]; omega
    rw [if_neg c, if_neg (by omega), k107 (d + 10) bl, lt_cI_s, k96 (d + 8) sL hcl hw ht, lt_cI_s, ← hF, lt_gd_t hne, pk_mul, pk_div (by omega) (by omega) (by omega), q_999, sp_min (by omega) (by omega), ← hU2, pk_mul, k106 (d + 9) bl (by omega), lt_cI_s, e2 (d + 8), lt_cV_s]
theorem lbs_0 {sh : Nat → Nat} {n v : Nat} {Z : Int} : ∀ s, lbs sh n v Z 0 s = (0, Z, 0)
  | 0 => rfl
  | s + 1 => by
    have e := lbs_0 (sh := sh) (n := n) (v := v) (Z := Z) s
    rw [lbs_z (by rw [e]), e]
/-- frees, when nothing has to be freed -/
theorem q_frees (d : Nat) (h : cP T S vs m) {t : Nat} (ht : t < S.w 1) : ∃ m', lt_ev (d + 12) 148 [.inr (.inr (some 0)), .inl (nI t), .inl (nI (S.w (4 + 2 * t) - w_used S.w t))] m = some (some (.inl (nI 0)), m') ∧ cP T S [nI 0] m' := by
  have hw := h.wfL
  have h20 := hw.2.2.1
  have h6 := hw.2.1
  have e := q_trd h ht
  obtain ⟨F, hF⟩ : ∃ F, F = S.w (4 + 2 * t) - w_used S.w t := ⟨_, rfl⟩
  rw [← hF]
  have bF : F ≤ 999999 := by have := (hw.2.2.2.2.1 t ht).1; omega
  have ey : lt_ev (d + 10 + 1) 79 [.inl (nI F)] m = some (some (.inl 1), m) := by
    rcases k79 (d + 10) (nI F) m with ⟨s, hsb, -, ey⟩ | ⟨hy, -⟩
    · exact ey
    · rcases hy with hy | hy
      · exact absurd hy (nI_pos (by omega))
      · rw [sp_len (by omega) (by omega)] at hy; omega
  obtain ⟨v, hv⟩ : ∃ v, v = w_openSet S.w t := ⟨_, rfl⟩
  have bv : v < 2 ^ S.w 2 := by rw [hv]; exact bitsN_lt _ _
  have hsub : nI F - nI F = iZ 0 := by rw [iZ_n, iZ_sub, show (F : Int) - F = 0 by omega]
  have hcl : lt_ev (d + 12) 148 [.inr (.inr (some 0)), .inl (nI t), .inl (nI F)] m = _ := E148 (d + 11) 0 _ _ sx m
  rw [p90 (d + 10) _ _ sL m, lt_cI_s, e, if_neg (by decide), ey, lt_cI_s, if_pos (by decide), k96 (d + 8) sL h.cl hw ht, lt_cI_s, ← hF, hsub, k97 (d + 9) sL h.cl hw (by omega), lt_cI_s, ← hv] at hcl
  obtain ⟨M2, e2, h2⟩ := q_tell1 h (nI (lbs (fun i => w_sh S.w i) (S.w 2) v 0 0 20).1)
  have hz : (lbs (fun i => w_sh S.w i) (S.w 2) v 0 0 20).1 = 0 := by rw [lbs_0]
  refine ⟨M2, hcl.trans ?_, by rw [hz] at h2; exact h2⟩
  rw [k149 (d + 8) sx h.cl hw bv (by omega) (by omega) (Nat.zero_le _) (by omega) (fun k hk => absurd hk (Nat.not_lt_zero k)), lt_cI_s, if_pos (by rw [sp_m1 (by omega)]; exact id), k151 (d + 8) sx h.cl hw bv (by omega) (by omega) (by omega), lt_cI_s, e2 (d + 8), lt_cV_s]
/-- when, at once -/
theorem q_when (d : Nat) (h : cP T S vs m) {t : Nat} (ht : t < S.w 1) : lt_ev (d + 12) 152 [.inr (.inr (some 0)), .inl (nI t), .inl (nI (S.w (4 + 2 * t) - w_used S.w t))] m = some (some (.inl (nI (S.w 0))), m) := by
  have hw := h.wfL
  have h6 := hw.2.1
  have e := q_trd h ht
  obtain ⟨F, hF⟩ : ∃ F, F = S.w (4 + 2 * t) - w_used S.w t := ⟨_, rfl⟩
  rw [← hF]
  have bF : F ≤ 999999 := by have := (hw.2.2.2.2.1 t ht).1; omega
  have ey : lt_ev (d + 10 + 1) 79 [.inl (nI F)] m = some (some (.inl 1), m) := by
    rcases k79 (d + 10) (nI F) m with ⟨s, hsb, -, ey⟩ | ⟨hy, -⟩
    · exact ey
    · rcases hy with hy | hy
      · exact absurd hy (nI_pos (by omega))
      · rw [sp_len (by omega) (by omega)] at hy; omega
  have hsub : nI F - nI F = 0 := by rw [iZ_n, iZ_sub, show (F : Int) - F = 0 by omega]; rfl
  refine (E152 (d + 11) 0 _ _ sx m).trans ?_
  rw [p90 (d + 10) _ _ sL m, lt_cI_s, e, if_neg (by decide), ey, lt_cI_s, if_pos (by decide), k96 (d + 8) sL h.cl hw ht, lt_cI_s, ← hF, hsub, if_neg (by decide), h.cl.1]
/-- count -/
theorem q_count (d : Nat) (h : cP T S vs m) : lt_ev (d + 12) 173 [.inr (.inr (some 0)), .inl (nI 0)] m = some (some (.inl (nI (S.w 0))), m) ∧ lt_ev (d + 12) 173 [.inr (.inr (some 0)), .inl (nI 2)] m = some (some (.inl S.z), m) ∧ lt_ev (d + 12) 173 [.inr (.inr (some 0)), .inl (nI 3)] m = some (some (.inl (nI S.N.2.1)), m) ∧ lt_ev (d + 12) 173 [.inr (.inr (some 0)), .inl (nI 5)] m = some (some (.inl (nI (S.w 2))), m) ∧ lt_ev (d + 12) 173 [.inr (.inr (some 0)), .inl (nI 6)] m = some (some (.inl (nI S.D)), m) ∧ lt_ev (d + 12) 173 [.inr (.inr (some 0)), .inl (nI 10)] m = some (some (.inl (nI (w_broken S.w))), m) := by
  have hcl : ∀ x, lt_ev (d + 12) 173 [.inr (.inr (some 0)), .inl x] m = _ := fun x => E173 (d + 11) 0 x sx m
  have hR := h.nR
  have hsA := h.sA
  have hcc := h.cl
  have hw := h.wfL
  have hz : m.1 m.2.2.1 7 = S.z := by obtain ⟨⟨A, B, n⟩, -⟩ := h.1; rw [n.1]; exact n.2.2.2.2.2.1
  have hD : m.1 81 4 = nI S.D := h.1.2.2.2.1.2.2.1
  refine ⟨(hcl _).trans ?_, (hcl _).trans ?_, (hcl _).trans ?_, (hcl _).trans ?_, (hcl _).trans ?_, (hcl _).trans ?_⟩
  · rw [lt_sw_n (by simp) (by simp)]; exact ssL (show (m.1 (0 + 13) 4) = _ by rw [hcc.1])
  · rw [lt_sw_n (by simp) (by simp)]; exact (lt_gd_t hsA).trans (ssL hz)
  · rw [lt_sw_n (by simp) (by simp)]; exact (lt_gd_t hsA).trans (by rw [hR.2.1])
  · rw [lt_sw_n (by simp) (by simp)]; exact ssL (show (m.1 (0 + 13) 6) = _ by rw [hcc.2.2.1])
  · rw [lt_sw_n (by simp) (by simp)]; exact ssL hD
  · rw [lt_sw_n (by simp) (by simp)]
    show lt_cI (lt_ev (d + 11) 118 [.inr (.inr (some (0 + 13)))] m) _ = _
    rw [k118 (d + 10) sL hcc hw, lt_cI_s]
theorem q_cnt7 (d : Nat) (hT : T < 2 ^ 30) (h : cP T S vs m) : lt_ev (d + 12) 173 [.inr (.inr (some 0)), .inl (nI 7)] m = some (some (.inl (nI (S.w 3))), m) := by
  have hw := h.wfL
  have h30 := hw.2.2.2.1
  obtain ⟨tot, t1, t2, t3, t4⟩ := h.1.2.2.1.2.1
  refine (E173 (d + 11) 0 _ sx m).trans ?_
  rw [lt_sw_n (by simp) (by simp)]
  show lt_cI (lt_ev (d + 11) 165 [.inr (.inr (some (0 + 13 + 4)))] m) _ = _
  rw [p165 (d + 10) (0 + 13 + 4) (sf_of sL 3 (by decide) (by decide)) m, lt_cI_s]
  unfold v165
  rw [show m.1 (0 + 13 + 4) 3 = nI tot from t2, q_30, sp_min (by omega) (by omega), t3]
/-- book: the newest note's kind and movement -/
theorem q_book (d : Nat) (hT : T < 2 ^ 30) (h : cP T S vs m) (h0 : 0 < S.w 3) : lt_ev (d + 12) 163 [.inr (.inr (some 0)), .inl (nI 0), .inl (nI 0)] m = some (some (.inl (nI (S.w (536 + 3 * (S.w 3 - 1))))), m) ∧ lt_ev (d + 12) 163 [.inr (.inr (some 0)), .inl (nI 0), .inl (nI 1)] m = some (some (.inl (nI (S.w (537 + 3 * (S.w 3 - 1))))), m) := by
  have hw := h.wfL
  have h30 := hw.2.2.2.1
  obtain ⟨tot, t1, t2, t3, t4⟩ := h.1.2.2.1.2.1
  have s0 : ts_sh (0 + 13 + 4) = (0, 0) := sf_of sL 3 (by decide) (by decide)
  have t2' : m.1 (0 + 13 + 4) 3 = nI tot := t2
  have hv : v165 m (0 + 13 + 4) = nI (S.w 3) := by unfold v165; rw [t2', q_30, sp_min (by omega) (by omega), t3]
  have b1 := t4 0 h0
  have e3 : nI tot - (1 : Int32) - nI 0 = nI (tot - 1 - 0) := by rw [q_1, pk_sub (by omega), pk_sub (by omega)]
  have e4 : (nI (tot - 1 - 0) - nI (tot - 1 - 0) / (30 : Int32) * (30 : Int32)) = nI ((tot - 1 - 0) % 30) := by rw [q_30, pk_rem (by omega) (by decide) (by decide)]
  have hmod : (tot - 1 - 0) % 30 < 30 := Nat.mod_lt _ (by decide)
  have hcl : ∀ y : Int32, lt_ev (d + 12) 163 [.inr (.inr (some 0)), .inl (nI 0), .inl y] m = _ := fun y => E163 (d + 11) 0 (nI 0) y sx m
  refine ⟨(hcl _).trans ?_, (hcl _).trans ?_⟩
  · rw [E164 (d + 10) _ _ _ s0, if_neg (nI_pos (by omega)), p165 (d + 9) _ s0, lt_cI_s, hv, if_pos (by rw [sp_ltn (by omega) (by omega)]; exact h0), t2', e3, e4, lt_sw_n (by simp) (by simp)]
    show lt_cI (lt_cI (lt_ev (d + 10) 16 _ m) _) _ = _
    rw [p16 (d + 9) (0 + 13 + 4 + 1) 30 _ (sf_of s0 0 (by decide) (by decide)) m, lt_cI_s, lt_cI_s, c16 hmod (by decide)]
    rw [show m.1 (0 + 13 + 4 + 1) ((tot - 1 - 0) % 30) = nI (S.w (536 + 3 * (S.w 3 - 1 - 0))) from b1.1, Nat.sub_zero]
  · rw [E164 (d + 10) _ _ _ s0, if_neg (nI_pos (by omega)), p165 (d + 9) _ s0, lt_cI_s, hv, if_pos (by rw [sp_ltn (by omega) (by omega)]; exact h0), t2', e3, e4, lt_sw_n (by simp) (by simp)]
    show lt_cI (lt_cI (lt_ev (d + 10) 16 _ m) _) _ = _
    rw [p16 (d + 9) (0 + 13 + 4 + 2) 30 _ (sf_of s0 1 (by decide) (by decide)) m, lt_cI_s, lt_cI_s, c16 hmod (by decide)]
    rw [show m.1 (0 + 13 + 4 + 2) ((tot - 1 - 0) % 30) = nI (S.w (537 + 3 * (S.w 3 - 1 - 0))) from b1.2.1, Nat.sub_zero]
end CPS

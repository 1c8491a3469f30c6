/-! ===== copies of ledgers ===== -/
/-- of the cells at t and on, those that P names are those at s and on -/
def cpS (P : Nat → Nat → Bool) (t s : Nat) (m : lt_m) : lt_m := (fun b k => if t ≤ b ∧ P (b - t) k = true then m.1 (s + (b - t)) k else m.1 b k, m.2)
theorem cpS_cpS {P Q : Nat → Nat → Bool} {t s : Nat} {m : lt_m} (hd : s + 68 ≤ t ∨ t + 68 ≤ s) (hP : ∀ c k, P c k = true → c < 68) (hQ : ∀ c k, Q c k = true → c < 68) : cpS Q t s (cpS P t s m) = cpS (fun c k => P c k || Q c k) t s m := by
  refine Prod.ext (funext fun b => funext fun k => ?_) rfl
  show (if t ≤ b ∧ Q (b - t) k = true then (if t ≤ s + (b - t) ∧ P (s + (b - t) - t) k = true then m.1 (s + (s + (b - t) - t)) k else m.1 (s + (b - t)) k) else (if t ≤ b ∧ P (b - t) k = true then m.1 (s + (b - t)) k else m.1 b k)) = if t ≤ b ∧ (P (b - t) k || Q (b - t) k) = true then m.1 (s + (b - t)) k else m.1 b k
  by_cases c1 : t ≤ b
  · by_cases c2 : Q (b - t) k = true
    · rw [if_pos ⟨c1, c2⟩, if_neg, if_pos ⟨c1, by rw [c2, Bool.or_true]⟩]
      rintro ⟨q1, q2⟩
      have h1 := hQ _ _ c2
      have h2 := hP _ _ q2
      omega
    · rw [if_neg (fun q => c2 q.2)]
      by_cases c3 : P (b - t) k = true
      · rw [if_pos ⟨c1, c3⟩, if_pos ⟨c1, by rw [c3, Bool.true_or]⟩]
      · rw [if_neg (fun q => c3 q.2), if_neg (fun q => by rw [Bool.or_eq_true] at q; exact q.2.elim c3 c2)]
  · rw [if_neg (fun q => c1 q.1), if_neg (fun q => c1 q.1), if_neg (fun q => c1 q.1)]
theorem cpS_ext {P Q : Nat → Nat → Bool} {t s : Nat} {m : lt_m} (h : ∀ c k, P c k = true ↔ Q c k = true) : cpS P t s m = cpS Q t s m := by
  have : P = Q := funext fun c => funext fun k => Bool.eq_iff_iff.mpr (h c k)
  rw [this]
theorem cpS_no {P : Nat → Nat → Bool} {t s : Nat} {m : lt_m} (h : ∀ c k, P c k = false) : cpS P t s m = m := by
  refine Prod.ext (funext fun b => funext fun k => ?_) rfl
  show (if _ then _ else _) = _
  rw [if_neg (fun q => by rw [h] at q; exact absurd q.2 (by decide))]
theorem cpS_i {P : Nat → Nat → Bool} {t s c k : Nat} {m : lt_m} (hd : s + 68 ≤ t ∨ t + 68 ≤ s) (hP : ∀ c k, P c k = true → c < 68) (hc : c < 68) : lm_i (cpS P t s m) (t + c) k ((cpS P t s m).1 (s + c) k) = cpS (fun c' k' => P c' k' || (decide (c' = c) && decide (k' = k))) t s m := by
  rw [← cpS_cpS hd hP (fun c' k' h => by simp only [Bool.and_eq_true, decide_eq_true_eq] at h; omega)]
  refine Prod.ext (funext fun b => funext fun k' => ?_) rfl
  show (if b = t + c ∧ k' = k then _ else _) = if t ≤ b ∧ (decide (b - t = c) && decide (k' = k)) = true then _ else _
  by_cases c1 : b = t + c ∧ k' = k
  · rw [if_pos c1, if_pos]
    · rw [c1.1, c1.2, Nat.add_sub_cancel_left]
    · rw [c1.1, c1.2, Nat.add_sub_cancel_left]; exact ⟨Nat.le_add_right _ _, by simp⟩
  · rw [if_neg c1, if_neg]
    intro q
    simp only [Bool.and_eq_true, decide_eq_true_eq] at q
    exact c1 ⟨by omega, q.2.2⟩
theorem cpS_i0 {t s k : Nat} {m : lt_m} : lm_i m t k (m.1 s k) = cpS (fun c' k' => decide (c' = 0) && decide (k' = k)) t s m := by
  refine Prod.ext (funext fun b => funext fun k' => ?_) rfl
  show (if b = t ∧ k' = k then _ else _) = if t ≤ b ∧ (decide (b - t = 0) && decide (k' = k)) = true then _ else _
  by_cases c1 : b = t ∧ k' = k
  · rw [if_pos c1, if_pos]
    · rw [c1.1, c1.2, Nat.sub_self, Nat.add_zero]
    · rw [c1.1, c1.2, Nat.sub_self]; exact ⟨Nat.le_refl _, by simp⟩
  · rw [if_neg c1, if_neg]
    intro q
    simp only [Bool.and_eq_true, decide_eq_true_eq] at q
    exact c1 ⟨by omega, q.2.2⟩
theorem cpS_sh {P : Nat → Nat → Bool} {t s c0 a b : Nat} {m : lt_m} (ha : a = t + c0) (hb : b = s + c0) : cpS P a b m = cpS (fun c k => decide (c0 ≤ c) && P (c - c0) k) t s m := by
  subst ha hb
  refine Prod.ext (funext fun b => funext fun k => ?_) rfl
  show (if t + c0 ≤ b ∧ P (b - (t + c0)) k = true then m.1 (s + c0 + (b - (t + c0))) k else _) = if t ≤ b ∧ (decide (c0 ≤ b - t) && P (b - t - c0) k) = true then m.1 (s + (b - t)) k else _
  by_cases c1 : t + c0 ≤ b
  · rw [show b - t - c0 = b - (t + c0) by omega, decide_eq_true (show c0 ≤ b - t by omega), Bool.true_and, show s + c0 + (b - (t + c0)) = s + (b - t) by omega]
    by_cases c2 : P (b - (t + c0)) k = true
    · rw [if_pos ⟨c1, c2⟩, if_pos ⟨by omega, c2⟩]
    · rw [if_neg (fun q => c2 q.2), if_neg (fun q => c2 q.2)]
  · rw [if_neg (fun q => c1 q.1), if_neg]
    intro q
    simp only [Bool.and_eq_true, decide_eq_true_eq] at q
    omega
def pAr (n : Nat) : Nat → Nat → Bool := fun c k => decide (c = 0) && decide (k < n)
def pMo : Nat → Nat → Bool := fun c k => (decide (c = 0) && (decide (1 ≤ k) && decide (k ≤ 11))) || ((decide (c = 1) || decide (c = 2)) && decide (k < 8))
def pBo : Nat → Nat → Bool := fun c k => (decide (c = 0) && decide (k = 3)) || ((decide (c = 1) || (decide (c = 2) || decide (c = 3))) && decide (k < 30))
def pLe (i : Nat) : Nat → Nat → Bool := fun c k => (decide (c = 0) && (decide (4 ≤ k) && decide (k ≤ 6))) || (((decide (c = 1) || decide (c = 2)) && decide (k < 6)) || (decide (8 ≤ c) && (decide (c < 8 + 3 * i) && pMo ((c - 8) % 3) k)))
def pLL : Nat → Nat → Bool := fun c k => pLe 20 c k || (decide (4 ≤ c) && pBo (c - 4) k)
section COPY
variable {m : lt_m} {t s : Nat}
theorem k84 (d : Nat) {n : Nat} (hn : n ≤ 5008) (hd : s + 68 ≤ t ∨ t + 68 ≤ s) (h0 : ts_sh s = (1, n)) (h1 : ts_sh t = (1, n)) : lt_ev (d + 1) 84 [.inr (.inr (some s)), .inr (.inr (some t))] m = some (none, cpS (pAr n) t s m) := by
  refine (E84 d s n t n h0 h1 m).trans ?_
  have e0 : cpS (pAr 0) t s m = m := cpS_no fun c k => by simp [pAr]
  have key := lp_it (F := fun i (_ : Unit) => L84_2 d s n t n (nI i) (cpS (pAr i) t s m)) (K := some (none, cpS (pAr n) t s m)) n ?_ ?_ ()
  · have key : L84_2 d s n t n 0 (cpS (pAr 0) t s m) = _ := key
    rw [e0] at key
    exact key
  · intro i _ hi
    refine ⟨(), ?_⟩
    rw [E84_2 _ _ _ _ _ _ h0 h1]
    simp (disch := omega) only [show Int32.ofNat n = nI n from rfl, sp_len]
    rw [if_neg (by omega), if_neg (by omega), lt_gd_t (sp_gd hi (by omega)), lt_gd_t (sp_gd hi (by omega)), nI_clamp (by omega), nI_1]
    have := cpS_i (P := pAr i) (t := t) (s := s) (c := 0) (k := i) (m := m) hd (fun c k h => by simp only [pAr, Bool.and_eq_true, decide_eq_true_eq] at h; omega) (by omega)
    have this : lm_i (cpS (pAr i) t s m) t i ((cpS (pAr i) t s m).1 s i) = _ := this
    rw [this, cpS_ext (Q := pAr (i + 1))]
    intro c k
    simp only [pAr, Bool.or_eq_true, Bool.and_eq_true, decide_eq_true_eq]
    omega
  · intro _
    rw [E84_2 _ _ _ _ _ _ h0 h1, if_pos (show Int32.ofNat n ≤ nI n from by rw [show Int32.ofNat n = nI n from rfl, sp_len (by omega) (by omega)]; exact Nat.le_refl _)]
theorem pMo_lt : ∀ c k, pMo c k = true → c < 68 := fun c k h => by simp only [pMo, Bool.or_eq_true, Bool.and_eq_true, decide_eq_true_eq] at h; omega
theorem pBo_lt : ∀ c k, pBo c k = true → c < 68 := fun c k h => by simp only [pBo, Bool.or_eq_true, Bool.and_eq_true, decide_eq_true_eq] at h; omega
/-- fields 1 to n -/
def pFi (a n : Nat) : Nat → Nat → Bool := fun c k => decide (c = 0) && (decide (a ≤ k) && decide (k ≤ n))
theorem pFi_1 (a : Nat) : lm_i m t a (m.1 s a) = cpS (pFi a a) t s m := by
  rw [cpS_i0]
  exact cpS_ext fun c k => by simp only [pFi, Bool.and_eq_true, decide_eq_true_eq]; omega
theorem pFi_s (hd : s + 68 ≤ t ∨ t + 68 ≤ s) {a n : Nat} (h : a ≤ n + 1) : lm_i (cpS (pFi a n) t s m) t (n + 1) ((cpS (pFi a n) t s m).1 s (n + 1)) = cpS (pFi a (n + 1)) t s m := by
  have := cpS_i (P := pFi a n) (t := t) (s := s) (c := 0) (k := n + 1) (m := m) hd (fun c k h => by simp only [pFi, Bool.and_eq_true, decide_eq_true_eq] at h; omega) (by omega)
  have this : lm_i (cpS (pFi a n) t s m) t (n + 1) ((cpS (pFi a n) t s m).1 s (n + 1)) = _ := this
  rw [this]
  exact cpS_ext fun c k => by simp only [pFi, Bool.or_eq_true, Bool.and_eq_true, decide_eq_true_eq]; omega
theorem k85 (d : Nat) (hd : s + 68 ≤ t ∨ t + 68 ≤ s) (h0 : ts_sh t = (0, 4)) (h1 : ts_sh s = (0, 4)) (hb : m.1 s 11 = 0 ∨ m.1 s 11 = 1) : lt_ev (d + 2) 85 [.inr (.inr (some t)), .inr (.inr (some s))] m = some (none, cpS pMo t s m) := by
  refine (E85 (d + 1) t s h0 h1 m).trans ?_
  have p := fun n => pFi_s (m := m) (a := 1) (n := n) hd (by omega)
  have p1 := p 1
  have p2 := p 2
  have p3 := p 3
  have p4 := p 4
  have p5 := p 5
  have p6 := p 6
  have p7 := p 7
  have p8 := p 8
  have p9 := p 9
  have p10 := p 10
  simp only [Nat.reduceAdd] at p1 p2 p3 p4 p5 p6 p7 p8 p9 p10
  simp only [lt_let]
  rw [pFi_1 (m := m) (t := t) (s := s) 1, p1, p2, p3, p4, p5, p6, p7, p8, p9]
  have hb2 : (cpS (pFi 1 10) t s m).1 s 11 = m.1 s 11 := if_neg fun q => by
    simp only [pFi, Bool.and_eq_true, decide_eq_true_eq] at q
    omega
  have hg : (cpS (pFi 1 10) t s m).1 s 11 = 0 ∨ (cpS (pFi 1 10) t s m).1 s 11 = 1 := by rw [hb2]; exact hb
  rw [lt_gd_t hg, p10]
  rw [k84 d (n := 8) (s := s + 1) (t := t + 1) (by decide) (by omega) (sf_of h1 12 (by decide) (by decide)) (sf_of h0 12 (by decide) (by decide)), lt_cV_s]
  rw [k84 d (n := 8) (s := s + 2) (t := t + 2) (by decide) (by omega) (sf_of h1 13 (by decide) (by decide)) (sf_of h0 13 (by decide) (by decide)), lt_cV_s]
  rw [cpS_sh (c0 := 1) (t := t) (s := s) rfl rfl, cpS_sh (c0 := 2) (t := t) (s := s) rfl rfl, cpS_cpS hd, cpS_cpS hd, cpS_ext (Q := pMo)]
  · intro c k
    simp only [pMo, pAr, pFi, Bool.or_eq_true, Bool.and_eq_true, decide_eq_true_eq]
    omega
  all_goals
    intro c k h
    simp only [pAr, pFi, Bool.or_eq_true, Bool.and_eq_true, decide_eq_true_eq] at h
    omega
theorem k86 (d : Nat) (hd : s + 68 ≤ t ∨ t + 68 ≤ s) (h0 : ts_sh t = (0, 0)) (h1 : ts_sh s = (0, 0)) : lt_ev (d + 2) 86 [.inr (.inr (some t)), .inr (.inr (some s))] m = some (none, cpS pBo t s m) := by
  refine (E86 (d + 1) t s h0 h1 m).trans ?_
  rw [pFi_1]
  rw [k84 d (n := 30) (s := s + 1) (t := t + 1) (by decide) (by omega) (sf_of h1 0 (by decide) (by decide)) (sf_of h0 0 (by decide) (by decide)), lt_cV_s]
  rw [k84 d (n := 30) (s := s + 2) (t := t + 2) (by decide) (by omega) (sf_of h1 1 (by decide) (by decide)) (sf_of h0 1 (by decide) (by decide)), lt_cV_s]
  rw [k84 d (n := 30) (s := s + 3) (t := t + 3) (by decide) (by omega) (sf_of h1 2 (by decide) (by decide)) (sf_of h0 2 (by decide) (by decide)), lt_cV_s]
  rw [cpS_sh (c0 := 1) (t := t) (s := s) rfl rfl, cpS_sh (c0 := 2) (t := t) (s := s) rfl rfl, cpS_sh (c0 := 3) (t := t) (s := s) rfl rfl, cpS_cpS hd, cpS_cpS hd, cpS_cpS hd, cpS_ext (Q := pBo)]
  · intro c k
    simp only [pBo, pAr, pFi, Bool.or_eq_true, Bool.and_eq_true, decide_eq_true_eq]
    omega
  all_goals
    intro c k h
    simp only [pAr, pFi, Bool.or_eq_true, Bool.and_eq_true, decide_eq_true_eq] at h
    omega
theorem pLe_lt {i : Nat} (hi : i ≤ 20) : ∀ c k, pLe i c k = true → c < 68 := fun c k h => by simp only [pLe, Bool.or_eq_true, Bool.and_eq_true, decide_eq_true_eq] at h; omega
theorem k83 (d : Nat) (hd : s + 68 ≤ t ∨ t + 68 ≤ s) (h0 : ts_sh t = (0, 2)) (h1 : ts_sh s = (0, 2)) (hb : nmR s m) : lt_ev (d + 3) 83 [.inr (.inr (some t)), .inr (.inr (some s))] m = some (none, cpS pLL t s m) := by
  refine (E83 (d + 2) t s h0 h1 m).trans ?_
  have p4 := pFi_s (m := m) (a := 4) (n := 4) hd (by omega)
  have p5 := pFi_s (m := m) (a := 4) (n := 5) hd (by omega)
  simp only [Nat.reduceAdd] at p4 p5
  simp only [lt_let]
  rw [pFi_1 (m := m) (t := t) (s := s) 4, p4, p5]
  rw [k84 (d + 1) (n := 6) (s := s + 1) (t := t + 1) (by decide) (by omega) (sf_of h1 0 (by decide) (by decide)) (sf_of h0 0 (by decide) (by decide)), lt_cV_s]
  rw [k84 (d + 1) (n := 6) (s := s + 2) (t := t + 2) (by decide) (by omega) (sf_of h1 1 (by decide) (by decide)) (sf_of h0 1 (by decide) (by decide)), lt_cV_s]
  rw [cpS_sh (c0 := 1) (t := t) (s := s) rfl rfl, cpS_sh (c0 := 2) (t := t) (s := s) rfl rfl, cpS_cpS hd, cpS_cpS hd, cpS_ext (Q := pLe 0)]
  · refine lp_it (F := fun i (_ : Unit) => L83_48 (d + 2) t s (nI i) (cpS (pLe i) t s m)) 20 ?_ ?_ ()
    · intro i _ hi
      refine ⟨(), ?_⟩
      have e1 : t + 3 + 5 + 3 * i = t + (8 + 3 * i) := by omega
      have e2 : s + 3 + 5 + 3 * i = s + (8 + 3 * i) := by omega
      have hbi : (cpS (pLe i) t s m).1 (s + 3 + 5 + 3 * i) 11 = 0 ∨ (cpS (pLe i) t s m).1 (s + 3 + 5 + 3 * i) 11 = 1 := by
        have : (cpS (pLe i) t s m).1 (s + 3 + 5 + 3 * i) 11 = m.1 (s + 3 + 5 + 3 * i) 11 := if_neg fun q => by
          have := pLe_lt (by omega) _ _ q.2
          omega
        rw [this]
        exact (hb i hi).2
      rw [E83_48 _ _ _ _ h0 h1]
      simp (disch := omega) only [q_20, sp_len, nI_clamp]
      rw [if_neg (by omega), if_neg (by omega), lt_gd_t ⟨nI_pos' (by omega), hi⟩, lt_gd_t ⟨nI_pos' (by omega), hi⟩, k85 d (by omega) (sh_mv h0 hi) (sh_mv h1 hi) hbi, lt_cV_s, nI_1, cpS_sh e1 e2, cpS_cpS hd (pLe_lt (by omega)), cpS_ext (Q := pLe (i + 1))]
      · intro c k
        simp only [pLe, pMo, Bool.or_eq_true, Bool.and_eq_true, decide_eq_true_eq]
        omega
      · intro c k h
        simp only [pMo, Bool.or_eq_true, Bool.and_eq_true, decide_eq_true_eq] at h
        omega
    · intro _
      rw [E83_48 _ _ _ _ h0 h1, if_pos (by decide), k86 d (s := s + 4) (t := t + 4) (by omega) (sf_of h0 3 (by decide) (by decide)) (sf_of h1 3 (by decide) (by decide)), lt_cV_s, cpS_sh (c0 := 4) (t := t) (s := s) rfl rfl, cpS_cpS hd (pLe_lt (by omega)), cpS_ext (Q := pLL)]
      · intro c k
        rfl
      · intro c k h
        simp only [pBo, Bool.or_eq_true, Bool.and_eq_true, decide_eq_true_eq] at h
        omega
  · intro c k
    simp only [pLe, pMo, pAr, pFi, Bool.or_eq_true, Bool.and_eq_true, decide_eq_true_eq]
    omega
  all_goals
    intro c k h
    simp only [pAr, pFi, Bool.or_eq_true, Bool.and_eq_true, decide_eq_true_eq] at h
    omega
theorem pLL_lt : ∀ c k, pLL c k = true → c < 68 := fun c k h => by
  simp only [pLL, pLe, pBo, Bool.or_eq_true, Bool.and_eq_true, decide_eq_true_eq] at h
  omega
/-- what a copy holds -/
theorem cp_in {c k : Nat} (h : pLL c k = true) : (cpS pLL t s m).1 (t + c) k = m.1 (s + c) k := by
  show (if t ≤ t + c ∧ pLL (t + c - t) k = true then m.1 (s + (t + c - t)) k else _) = _
  rw [Nat.add_sub_cancel_left, if_pos ⟨Nat.le_add_right _ _, h⟩]
theorem cp_out {b : Nat} (h : b < t ∨ t + 68 ≤ b) : (cpS pLL t s m).1 b = m.1 b := funext fun k => if_neg fun q => by
  have := pLL_lt _ _ q.2
  omega
theorem cp_num {i : Nat} (hi : i < 20) : (cpS pLL t s m).1 (t + 3 + 5 + 3 * i) 0 = m.1 (t + 3 + 5 + 3 * i) 0 := if_neg fun q => by
  have h := q.2
  simp only [pLL, pLe, pMo, pBo, Bool.or_eq_true, Bool.and_eq_true, decide_eq_true_eq] at h
  omega
theorem cp_LED {N : NT} {w : Nat → Nat} {T : Nat} (h : LED N w s T m) (hn : nmR t m) : LED N w t T (cpS pLL t s m) := by
  obtain ⟨⟨h1, h2, h3, h4, h5, h6, h7⟩, ⟨tot, b1, b2, b3, b4⟩, hw⟩ := h
  have g := hw.2.1
  have g2 := hw.2.2.1
  have i0 : ∀ k, 4 ≤ k → k ≤ 6 → (cpS pLL t s m).1 t k = m.1 s k := fun k k1 k2 => cp_in (c := 0) (by simp [pLL, pLe, k1, k2])
  have iM : ∀ i k, i < 20 → 1 ≤ k → k ≤ 11 → (cpS pLL t s m).1 (t + 3 + 5 + 3 * i) k = m.1 (s + 3 + 5 + 3 * i) k := fun i k hi k1 k2 => by
    have := cp_in (t := t) (s := s) (m := m) (c := 8 + 3 * i) (k := k) (by
      simp only [pLL, pLe, pMo, Bool.or_eq_true, Bool.and_eq_true, decide_eq_true_eq]; omega)
    rw [show t + 3 + 5 + 3 * i = t + (8 + 3 * i) by omega, show s + 3 + 5 + 3 * i = s + (8 + 3 * i) by omega]
    exact this
  have iR : ∀ i k j, i < 20 → k < 8 → (j = 1 ∨ j = 2) → (cpS pLL t s m).1 (t + 3 + 5 + 3 * i + j) k = m.1 (s + 3 + 5 + 3 * i + j) k := fun i k j hi k1 hj => by
    have := cp_in (t := t) (s := s) (m := m) (c := 8 + 3 * i + j) (k := k) (by
      simp only [pLL, pLe, pMo, Bool.or_eq_true, Bool.and_eq_true, decide_eq_true_eq]; omega)
    rw [show t + 3 + 5 + 3 * i + j = t + (8 + 3 * i + j) by omega, show s + 3 + 5 + 3 * i + j = s + (8 + 3 * i + j) by omega]
    exact this
  have iB : ∀ k j, k < 30 → (j = 1 ∨ j = 2 ∨ j = 3) → (cpS pLL t s m).1 (t + 4 + j) k = m.1 (s + 4 + j) k := fun k j k1 hj => by
    have := cp_in (t := t) (s := s) (m := m) (c := 4 + j) (k := k) (by
      simp only [pLL, pBo, Bool.or_eq_true, Bool.and_eq_true, decide_eq_true_eq]; omega)
    rw [show t + 4 + j = t + (4 + j) by omega, show s + 4 + j = s + (4 + j) by omega]
    exact this
  refine ⟨⟨by rw [i0 4 (by omega) (by omega)]; exact h1, by rw [i0 5 (by omega) (by omega)]; exact h2, by rw [i0 6 (by omega) (by omega)]; exact h3, fun i hi => ?_, fun i hi => ?_, fun i q1 q2 => ?_, fun i hi => ?_⟩, ⟨tot, b1, ?_, b3, fun j hj => ?_⟩, hw⟩
  · have hi6 : i < 6 := by omega
    rw [cp_in (c := 1) (k := i) (by simp [pLL, pLe, hi6]), cp_in (c := 2) (k := i) (by simp [pLL, pLe, hi6])]
    exact h4 i hi
  · have := h5 i hi
    have hi2 : i < 20 := by omega
    have hlg : w_lg w i ≤ 8 := (hw.2.2.2.2.2 i hi).2.2.2.2.2.2.2.2.2.2.1
    have hsp : w_sp w i ≤ w_lg w i := (hw.2.2.2.2.2 i hi).2.2.2.2.2.2.2.2.1
    unfold mvR at this ⊢
    obtain ⟨a1, a2, a3, a4, a5, a6, a7, a8, a9, a10, a11, a12, a13⟩ := this
    refine ⟨?_, ?_, ?_, ?_, ?_, ?_, ?_, ?_, ?_, ?_, ?_, fun k hk => ?_, fun k hk => ?_⟩
    · rw [iM i 1 hi2 (by omega) (by omega)]; exact a1
    · rw [iM i 2 hi2 (by omega) (by omega)]; exact a2
    · rw [iM i 3 hi2 (by omega) (by omega)]; exact a3
    · rw [iM i 4 hi2 (by omega) (by omega)]; exact a4
    · rw [iM i 5 hi2 (by omega) (by omega)]; exact a5
    · rw [iM i 6 hi2 (by omega) (by omega)]; exact a6
    · rw [iM i 7 hi2 (by omega) (by omega)]; exact a7
    · rw [iM i 8 hi2 (by omega) (by omega)]; exact a8
    · rw [iM i 9 hi2 (by omega) (by omega)]; exact a9
    · rw [iM i 10 hi2 (by omega) (by omega)]; exact a10
    · rw [iM i 11 hi2 (by omega) (by omega)]; exact a11
    · rw [iR i k 1 hi2 (by omega) (by omega)]; exact a12 k hk
    · rw [iR i k 2 hi2 (by omega) (by omega)]; exact a13 k hk
  · rw [iM i 7 q2 (by omega) (by omega)]; exact h6 i q1 q2
  · rw [cp_num hi]; exact (hn i hi).1
  · rw [cp_in (c := 4) (by simp [pLL, pBo])]; exact b2
  · have hm : (tot - 1 - j) % 30 < 30 := Nat.mod_lt _ (by decide)
    rw [iB _ 1 hm (by omega), iB _ 2 hm (by omega), iB _ 3 hm (by omega)]
    exact b4 j hj
theorem cp_nm (hs : nmR s m) (hn : nmR t m) : nmR t (cpS pLL t s m) := by
  intro i hi
  refine ⟨by rw [cp_num hi]; exact (hn i hi).1, ?_⟩
  have := cp_in (t := t) (s := s) (m := m) (c := 8 + 3 * i) (k := 11) (by
      simp only [pLL, pLe, pMo, Bool.or_eq_true, Bool.and_eq_true, decide_eq_true_eq]; omega)
  rw [show t + 3 + 5 + 3 * i = t + (8 + 3 * i) by omega, this, show s + (8 + 3 * i) = s + 3 + 5 + 3 * i by omega]
  exact (hs i hi).2
end COPY

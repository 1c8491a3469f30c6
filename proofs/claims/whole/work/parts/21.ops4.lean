/-! ===== owed, next, busiest, can ===== -/
def paN (l : Nat) : Nat := if l = 0 then 1 else if l = 1 then 2 else if l = 2 then 10 else 0
def shN (v l : Nat) : Nat := if 3 ≤ l then 0 else (v + paN l - 1) / paN l
theorem paN_pos {l : Nat} (h : l < 3) : 1 ≤ paN l ∧ paN l ≤ 10 := by
  unfold paN
  split
  · omega
  · split
    · omega
    · split <;> omega
theorem shN_le {v l : Nat} : shN v l ≤ v + 9 := by
  unfold shN
  split
  · omega
  · have h := paN_pos (l := l) (by omega)
    have : (v + paN l - 1) / paN l ≤ v + paN l - 1 := Nat.div_le_self _ _
    omega
theorem shN_iff {v l f : Nat} (h : l < 3) : shN v l ≤ f ↔ v ≤ paN l * f := by
  have hp := paN_pos h
  unfold shN
  rw [if_neg (by omega), ← Nat.lt_succ_iff, Nat.div_lt_iff_lt_mul (by omega), Nat.succ_mul, Nat.mul_comm f]
  omega
theorem sp_m2 {a : Nat} (h : a < 2 ^ 31) : (nI a = (-2 : Int32)) = False := by
  apply eq_false
  intro q
  have := congrArg Int32.toInt q
  rw [nI_toInt h] at this
  have e : (-2 : Int32).toInt = -2 := by decide
  omega
theorem k107 (d : Nat) {l : Nat} (hl : l ≤ 3) (m : lt_m) : lt_ev (d + 1) 107 [.inl (nI l)] m = some (some (.inl (nI (paN l))), m) := by
  refine (E107 d _ m).trans ?_
  have h4 : l = 0 ∨ l = 1 ∨ l = 2 ∨ l = 3 := by omega
  rcases h4 with rfl | rfl | rfl | rfl
  · exact lt_sw_n (by simp) (by simp)
  · exact lt_sw_n (by simp) (by simp)
  · exact lt_sw_n (by simp) (by simp)
  · exact lt_sw_o (n := 3) rfl (by decide) (Or.inr (by decide))
theorem k106 (d : Nat) {v l : Nat} (hl : l ≤ 3) (hv : v < 2 ^ 30) (m : lt_m) : lt_ev (d + 2) 106 [.inl (nI v), .inl (nI l)] m = some (some (.inl (nI (shN v l))), m) := by
  refine (E106 (d + 1) _ _ m).trans ?_
  rw [k107 d hl, lt_cI_s]
  unfold shN
  by_cases h3 : 3 ≤ l
  · have : l = 3 := by omega
    subst this
    rw [if_neg (by decide), if_pos h3]; rfl
  · have hp := paN_pos (l := l) (by omega)
    have hne : ¬ nI (paN l) = (0 : Int32) := by rw [sp_eq0 (by omega)]; omega
    rw [if_pos hne, lt_gd_t hne, if_neg h3, nI_add, q_1, pk_sub (by omega), pk_div (by omega) (by omega) (by omega)]
theorem m227 (d : Nat) {v l : Nat} (hl : l ≤ 3) (hv : v < 2 ^ 30) (m : lt_m) : lt_ev (d + 1) 227 [.inl (nI l), .inl (nI v)] m = some (some (.inl (nI (shN v l))), m) := by
  refine (E227 d _ _ m).trans ?_
  unfold shN paN
  have h4 : l = 0 ∨ l = 1 ∨ l = 2 ∨ l = 3 := by omega
  rcases h4 with rfl | rfl | rfl | rfl
  · rw [if_neg (by decide), if_neg (by decide), if_pos rfl]
    rw [Nat.add_sub_cancel, Nat.div_one]
  · rw [if_pos (by decide), if_neg (by decide), if_neg (by decide), q_1, q_2, nI_add, pk_div (by omega) (by decide) (by decide)]
    rfl
  · rw [if_pos (by decide), if_pos (by decide), if_neg (by decide), if_neg (by decide), q_9, q_10, nI_add, pk_div (by omega) (by decide) (by decide)]
    rfl
  · rw [if_pos (by decide), if_pos (by decide), if_pos (by decide), if_pos (by decide)]
    rfl
/-- the busiest so far -/
def bz (w : Nat → Nat) : Nat → Option Nat × Nat
  | 0 => (none, 0)
  | n + 1 => if pcN (w_comes w n) 24 ≤ pcN (bz w n).2 24 then bz w n else (some n, w_comes w n)
theorem bz_b {w : Nat → Nat} (h : w 2 ≤ 20) (n : Nat) : (bz w n).2 < 2 ^ 24 ∧ ∀ o, (bz w n).1 = some o → o < n := by
  induction n with
  | zero => exact ⟨show 0 < 2 ^ 24 by decide, fun o h => by cases h⟩
  | succ n ih =>
    simp only [bz]
    split
    · exact ⟨ih.1, fun o h => Nat.lt_succ_of_lt (ih.2 o h)⟩
    · exact ⟨bitsN_24 _ (by omega), fun o h => by cases h; exact Nat.lt_succ_self n⟩
def bzI (z : Int32) : Option Nat → Int32
  | none => z
  | some o => nI o
section OPS
variable {dist wl : NT → Nat → Nat → Nat} {N : NT} {w : Nat → Nat} {T : Nat} {m : lt_m} {vs us : List Int32}
/-- owed -/
theorem op_owed (d : Nat) (hr : RR dist wl T m) (x : Int32) : OP dist wl d T T 138 249 [.inl x] m := by
  have hr0 := hr
  obtain ⟨N, w, vs, hs, hl, hc, hm⟩ := hr
  have hN := hs.wfN
  have hw := hs.wfL
  have h20 := hw.2.2.1
  have bn := hN.2.1
  rcases pk_ix6 x with hx | ⟨t, ht, rfl⟩
  · refine OP_q (.inl (-1)) hr0 ?_ ?_
    · refine (E138 (d + 29) 0 _ sx m).trans ?_
      by_cases c : x < 0
      · rw [if_pos c]
      · rw [if_neg c, if_neg]
        rcases hx with hx | hx
        · exact absurd hx c
        · rw [Int32.le_iff_toInt_le] at hx
          rw [Int32.lt_iff_toInt_lt]
          have : (nI 6).toInt = 6 := by decide
          have : (6 : Int32).toInt = 6 := by decide
          omega
    · refine (E249 (d + 29) 711 _ sy m).trans ?_
      rw [m181_f (d + 28) (n := 5) (by decide) hx (by decide), lt_cI_s, if_neg (by decide)]
  · obtain ⟨f, hf⟩ : ∃ f, f = fun i => if 4 ≤ w_st w i ∧ N.2.2.2.1 (w_seen w i) = t then (if w_st w i = 4 then w_db w i else 0) else 0 := ⟨_, rfl⟩
    obtain ⟨g, hg⟩ : ∃ g, g = fun i => if 4 ≤ w_st w i ∧ N.2.2.2.1 (w_seen w i) = t then (if w_st w i = 5 then w_db w i else 0) else 0 := ⟨_, rfl⟩
    obtain ⟨k, hk⟩ : ∃ k, k = fun i => if 4 ≤ w_st w i ∧ N.2.2.2.1 (w_seen w i) = t then 1 else 0 := ⟨_, rfl⟩
    have ef : sumN f (w 2) = sumN (fun i => if i < w 2 ∧ (4 ≤ w_st w i ∧ N.2.2.2.1 (w_seen w i) = t) then (if w_st w i = 4 then w_db w i else 0) else 0) 20 := by rw [hf]; exact s20 h20 _ _
    have eg : sumN g (w 2) = sumN (fun i => if i < w 2 ∧ (4 ≤ w_st w i ∧ N.2.2.2.1 (w_seen w i) = t) then (if w_st w i = 5 then w_db w i else 0) else 0) 20 := by rw [hg]; exact s20 h20 _ _
    have ek : sumN k (w 2) = sumN (fun i => if i < w 2 ∧ (4 ≤ w_st w i ∧ N.2.2.2.1 (w_seen w i) = t) then 1 else 0) 20 := by rw [hk]; exact s20 h20 _ _
    obtain ⟨M2, R1, R2, e2, hs2, hz, f1, hz1, f2, hz2, hR⟩ := tell2 hs (nI (sumN g (w 2))) (nI (sumN k (w 2)))
    refine ⟨.inl (nI (sumN f (w 2))), M2, R2, ?_, ?_, hR⟩
    · refine (E138 (d + 29) 0 _ sx m).trans ?_
      rw [if_neg (nI_pos (by omega)), if_pos (by rw [q_6, sp_ltn (by omega) (by omega)]; omega)]
      rw [eg, ek] at e2
      rw [ef]
      refine lp_it (F := fun i o => L138_36 (d + 29) 0 (nI t) (nI (sumN (fun i => if i < w 2 ∧ (4 ≤ w_st w i ∧ N.2.2.2.1 (w_seen w i) = t) then (if w_st w i = 4 then w_db w i else 0) else 0) i)) (nI (sumN (fun i => if i < w 2 ∧ (4 ≤ w_st w i ∧ N.2.2.2.1 (w_seen w i) = t) then (if w_st w i = 5 then w_db w i else 0) else 0) i)) (nI (sumN (fun i => if i < w 2 ∧ (4 ≤ w_st w i ∧ N.2.2.2.1 (w_seen w i) = t) then 1 else 0) i)) (nI i) o m) 20 ?_ ?_ none
      · intro i o hi
        refine ⟨some (.inr (.inr (some (0 + 13 + 3 + 5 + 3 * i)))), ?_⟩
        have hq := sh_mv sL hi
        rw [E138_36 _ _ _ _ _ _ _ _ sx]
        simp (disch := omega) only [q_20, sp_len, nI_clamp, sumN]
        rw [if_neg (by omega), lt_gd_t ⟨nI_pos' (by omega), hi⟩, p139 (d + 28) _ hq m, lt_cI_s, c139 hs.cl hw hi]
        by_cases c : i < w 2 ∧ 4 ≤ w_st w i
        · obtain ⟨g1, g2, g3, g4⟩ := wf_sp hw c.1
          have hse : w_seen w i < N.1 := wf_rt hw c.1 (by omega)
          have hco : N.2.2.2.1 (w_seen w i) ≤ 5 := hN.2.2.2.2.2.2.1 _ hse
          obtain ⟨-, -, -, -, -, -, e7, -, -, e10, -⟩ := hs.cl.2.2.2.2.1 i c.1
          have b7 := wf_st hw c.1
          rw [show (if i < w 2 ∧ 4 ≤ w_st w i then (1 : Int32) else 0) = 1 from if_pos c, if_neg (by decide), p63 (d + 26) _ hq m, lt_cI_s, c63 hs.cl hw c.1, lt_gd_t hs.sA, p21 (d + 27) _ _ hs.sA m, lt_cI_s, c21 hs.nR hN hse, e7, e10]
          simp (disch := omega) only [q_4, sp_eqn]
          by_cases c2 : N.2.2.2.1 (w_seen w i) = t
          · have cc : i < w 2 ∧ (4 ≤ w_st w i ∧ N.2.2.2.1 (w_seen w i) = t) := ⟨c.1, c.2, c2⟩
            rw [if_neg (by simp [c2]), if_pos cc, if_pos cc, if_pos cc]
            by_cases c4 : w_st w i = 4
            · rw [if_neg (by simp [c4]), if_pos c4, if_neg (by omega), E138_93 _ _ _ _ _ _ _ _ _ _ hq, e7, if_pos (by rw [q_5, sp_eqn (by omega) (by omega)]; omega), nI_add, nI_1, nI_1, sp_add0]; rfl
            · have c5 : w_st w i = 5 := by omega
              rw [if_pos c4, if_neg c4, if_pos c5, E138_93 _ _ _ _ _ _ _ _ _ _ hq, e7, e10, if_neg (by rw [c5]; decide), sp_add0, nI_1, nI_1, nI_add]; rfl
          · rw [if_pos c2, if_neg (fun q => c2 q.2.2), if_neg (fun q => c2 q.2.2), if_neg (fun q => c2 q.2.2), nI_1]; rfl
        · rw [show (if i < w 2 ∧ 4 ≤ w_st w i then (1 : Int32) else 0) = 0 from if_neg c, if_pos rfl, if_neg (fun q => c ⟨q.1, q.2.1⟩), if_neg (fun q => c ⟨q.1, q.2.1⟩), if_neg (fun q => c ⟨q.1, q.2.1⟩), nI_1]; rfl
      · intro o
        rw [E138_36 _ _ _ _ _ _ _ _ sx, if_pos (by decide), e2, lt_cV_s]
    · refine (E249 (d + 29) 711 _ sy M2).trans ?_
      have h := hs2.t0.ml
      rw [m181_t (d + 28) (n := 5) (by omega) (by decide) (by decide), lt_cI_s, if_pos (by decide)]
      refine lp_it (F := fun i (_ : Unit) => L249_29 (d + 29) 711 (nI t) (nI (sumN f i)) (nI (sumN g i)) (nI (sumN k i)) (nI i) (lm_i M2 711 15 0)) (w 2) ?_ ?_ ()
      · intro i o hi
        refine ⟨(), ?_⟩
        have b7 := wf_st hw hi
        obtain ⟨g1, g2, g3, g4⟩ := wf_sp hw hi
        have hse : w_seen w i < N.1 := wf_rt hw hi (by omega)
        have hco : N.2.2.2.1 (w_seen w i) ≤ 5 := hN.2.2.2.2.2.2.1 _ hse
        rw [E249_29 _ _ _ _ _ _ _ sy, lt_gd_t g2_ok, w2_at h]
        simp (disch := omega) only [sp_len, sumN]
        rw [if_neg (by omega), m197 (d + 27) sy h (by omega), lt_cI_s]
        simp (disch := omega) only [q_4, sp_ltn]
        by_cases c : 4 ≤ w_st w i
        · rw [if_neg (by omega), m199 (d + 27) sy h hw hi, lt_cI_s, lt_gd_t (sp_gd (by omega) (by omega)), nI_clamp (by omega), h.2.2.2.1 _ hse]
          simp (disch := omega) only [sp_eqn]
          by_cases c2 : N.2.2.2.1 (w_seen w i) = t
          · have cc : 4 ≤ w_st w i ∧ N.2.2.2.1 (w_seen w i) = t := ⟨c, c2⟩
            rw [if_pos c2, m197 (d + 27) sy h (by omega), lt_cI_s, show k i = 1 by rw [hk]; exact if_pos cc]
            simp (disch := omega) only [sp_eqn]
            by_cases c4 : w_st w i = 4
            · rw [if_neg (by simp [c4]), m198_db (d + 28) sy h (by omega), lt_cI_s, E249_91 _ _ _ _ _ _ _ _ _ sy, m197 (d + 27) sy h (by omega), lt_cI_s, if_pos (by rw [q_5, sp_eqn (by omega) (by omega)]; omega), nI_add, nI_1, nI_1, sp_add0, show f i = w_db w i by rw [hf]; exact (if_pos cc).trans (if_pos c4), show g i = 0 by rw [hg]; exact (if_pos cc).trans (if_neg (by omega))]; rfl
            · have c5 : w_st w i = 5 := by omega
              rw [if_pos c4, E249_91 _ _ _ _ _ _ _ _ _ sy, m197 (d + 27) sy h (by omega), lt_cI_s, if_neg (by rw [c5]; decide), m198_db (d + 28) sy h (by omega), lt_cI_s, sp_add0, nI_add, nI_1, nI_1, show f i = 0 by rw [hf]; exact (if_pos cc).trans (if_neg c4), show g i = w_db w i by rw [hg]; exact (if_pos cc).trans (if_pos c5)]; rfl
          · rw [if_neg c2, nI_1, show f i = 0 by rw [hf]; exact if_neg (fun q => c2 q.2), show g i = 0 by rw [hg]; exact if_neg (fun q => c2 q.2), show k i = 0 by rw [hk]; exact if_neg (fun q => c2 q.2)]; rfl
        · rw [if_pos (by omega), nI_1, show f i = 0 by rw [hf]; exact if_neg (fun q => c q.1), show g i = 0 by rw [hg]; exact if_neg (fun q => c q.1), show k i = 0 by rw [hk]; exact if_neg (fun q => c q.1)]; rfl
      · intro o
        rw [E249_29 _ _ _ _ _ _ _ sy, lt_gd_t g2_ok, w2_at h, if_pos (by rw [sp_len (by omega) (by omega)]; exact Nat.le_refl _), f1, lt_cV_s, f2, lt_cV_s]
/-- next -/
theorem op_next (d : Nat) (hr : RR dist wl T m) (x : Int32) : OP dist wl d T T 143 254 [.inl x] m := by
  have hr0 := hr
  obtain ⟨N, w, vs, hs, hl, hc, hm⟩ := hr
  have hN := hs.wfN
  have hw := hs.wfL
  have h20 := hw.2.2.1
  have bn := hN.2.1
  rcases c14 hs.nR hN x with ⟨a, ha, rfl, e⟩ | ⟨hx, e⟩
  · obtain ⟨p, hp⟩ : ∃ p : Nat → Bool, p = fun i => w_goes w i && decide (w_rt w i (w_sp w i) = a) := ⟨_, rfl⟩
    obtain ⟨f, hf⟩ : ∃ f, f = fun i => if p i = true then w_un w i else 0 := ⟨_, rfl⟩
    have ep : bitsN p (w 2) = bitsN (fun i => decide (i < w 2) && p i) 20 := b20 h20 p
    have ef : sumN f (w 2) = sumN (fun i => if i < w 2 ∧ p i = true then w_un w i else 0) 20 := by rw [hf]; exact s20 h20 _ _
    have hgo : ∀ i, i < w 2 → w_goes w i = true → w_sp w i < w_lg w i := fun i hi => (hw.2.2.2.2.2 i hi).2.2.2.2.2.2.2.2.2.2.2.2.2.2.2.2.1
    obtain ⟨M2, R1, R2, e2, hs2, hz, f1, hz1, f2, hz2, hR⟩ := tell2 hs (nI (pcN (bitsN p (w 2)) 24)) (nI (sumN f (w 2)))
    have hb := bitsN_24 p (n := w 2) (by omega)
    refine ⟨.inl (nI (bitsN p (w 2))), M2, R2, ?_, ?_, hR⟩
    · refine (E143 (d + 29) 0 _ sx m).trans ?_
      rw [lt_gd_t hs.sA, p14 (d + 28) _ _ hs.sA m, lt_cI_s, e, if_pos (by decide)]
      rw [ep, ef] at e2
      rw [ep] at hb ⊢
      refine lp_it (F := fun i o => L143_34 (d + 29) 0 (nI a) (nI (bitsN (fun i => decide (i < w 2) && p i) i)) (nI (sumN (fun i => if i < w 2 ∧ p i = true then w_un w i else 0) i)) (nI i) o m) 20 ?_ ?_ none
      · intro i o hi
        refine ⟨some (.inr (.inr (some (0 + 13 + 3 + 5 + 3 * i)))), ?_⟩
        have hq := sh_mv sL hi
        rw [E143_34 _ _ _ _ _ _ _ sx]
        simp (disch := omega) only [q_20, sp_len, nI_clamp, sumN, bitsN_succ]
        rw [if_neg (by omega), lt_gd_t ⟨nI_pos' (by omega), hi⟩, p62 (d + 28) _ hq m, lt_cI_s, c62 hs.cl hw hi]
        by_cases c : i < w 2 ∧ w_goes w i = true
        · have hsp := hgo i c.1 c.2
          obtain ⟨g1, g2, g3, g4⟩ := wf_sp hw c.1
          have hr1 : w_rt w i (w_sp w i) < N.1 := wf_rt hw c.1 hsp
          rw [show (if i < w 2 ∧ w_goes w i = true then (1 : Int32) else 0) = 1 from if_pos c, if_neg (by decide), p115 (d + 26) _ hq m, lt_cI_s, c115 hs.cl hw c.1, if_pos hsp]
          simp (disch := omega) only [sp_eqn]
          by_cases c2 : w_rt w i (w_sp w i) = a
          · have hpi : p i = true := by rw [hp]; simp [c.2, c2]
            rw [if_neg (by simp [c2]), p65 (d + 28) _ hq m, lt_cI_s, c65 hs.cl hi, sp_orI (bitsN_lt _ i), nI_1, (hs.cl.2.2.2.2.1 i c.1).2.2.1, nI_add, if_pos (by simp [c.1, hpi]), if_pos ⟨c.1, hpi⟩]
          · have hpi : p i = false := by rw [hp]; simp [c2]
            rw [if_pos c2, nI_1, if_neg (by simp [hpi]), if_neg (by simp [hpi])]; rfl
        · have hpi : ¬ (i < w 2 ∧ p i = true) := by rw [hp]; simp only [Bool.and_eq_true]; exact fun q => c ⟨q.1, q.2.1⟩
          rw [show (if i < w 2 ∧ w_goes w i = true then (1 : Int32) else 0) = 0 from if_neg c, if_pos rfl, nI_1, if_neg (by simp only [Bool.and_eq_true, decide_eq_true_eq]; exact hpi), if_neg hpi]; rfl
      · intro o
        rw [E143_34 _ _ _ _ _ _ _ sx, if_pos (by decide), k60 (d + 28) hb, lt_cI_s, e2, lt_cV_s]
    · refine (E254 (d + 29) 711 _ sy M2).trans ?_
      have h := hs2.t0.ml
      rw [m193 (d + 27) sy h hN, lt_cI_s, sp_i1 ha (by omega), if_pos (by decide)]
      refine lp_it (F := fun i (_ : Unit) => L254_22 (d + 29) 711 (nI a) (nI (bitsN p i)) (nI (sumN f i)) (nI i) (lm_i M2 711 15 0)) (w 2) ?_ ?_ ()
      · intro i o hi
        refine ⟨(), ?_⟩
        rw [E254_22 _ _ _ _ _ _ sy, lt_gd_t g2_ok, w2_at h]
        simp (disch := omega) only [sp_len, sumN, bitsN_succ]
        rw [if_neg (by omega), m196 (d + 26) sy h hw hi, lt_cI_s]
        by_cases c : w_goes w i = true
        · have hsp := hgo i hi c
          obtain ⟨g1, g2, g3, g4⟩ := wf_sp hw hi
          have hr1 : w_rt w i (w_sp w i) < N.1 := wf_rt hw hi hsp
          rw [show (if w_goes w i = true then (1 : Int32) else 0) = 1 from if_pos c, if_neg (by decide), m198_sp (d + 28) sy h (by omega), lt_cI_s, m198_rt (d + 28) sy h (by omega) (by omega), lt_cI_s]
          simp (disch := omega) only [sp_eqn]
          by_cases c2 : w_rt w i (w_sp w i) = a
          · have hpi : p i = true := by rw [hp]; simp [c, c2]
            rw [if_pos c2, m198_un (d + 28) sy h (by omega), lt_cI_s, sp_bit (by omega), sp_orI (bitsN_lt _ i), nI_1, nI_add, if_pos hpi, show f i = w_un w i by rw [hf]; exact if_pos hpi]
          · have hpi : ¬ p i = true := by rw [hp]; simp [c2]
            rw [if_neg c2, nI_1, if_neg hpi, show f i = 0 by rw [hf]; exact if_neg hpi]; rfl
        · have hpi : ¬ p i = true := by rw [hp]; simp [c]
          rw [show (if w_goes w i = true then (1 : Int32) else 0) = 0 from if_neg c, if_pos rfl, nI_1, if_neg hpi, show f i = 0 by rw [hf]; exact if_neg hpi]; rfl
      · intro o
        rw [E254_22 _ _ _ _ _ _ sy, lt_gd_t g2_ok, w2_at h, if_pos (by rw [sp_len (by omega) (by omega)]; exact Nat.le_refl _), m206 (d + 28) hb, lt_cI_s, f1, lt_cV_s, f2, lt_cV_s]
  · refine OP_q (.inl (-1)) hr0 ?_ ?_
    · refine (E143 (d + 29) 0 _ sx m).trans ?_
      rw [lt_gd_t hs.sA, p14 (d + 28) _ _ hs.sA m, lt_cI_s, e, if_neg (by decide)]
    · refine (E254 (d + 29) 711 _ sy m).trans ?_
      rw [m193 (d + 27) sy hs.t0.ml hN, lt_cI_s, sp_i0 (by omega) hx, if_neg (by decide)]
/-- can -/
theorem op_can (d : Nat) (hr : RR dist wl T m) (x y : Int32) : OP dist wl d T T 147 256 [.inl x, .inl y] m := by
  have hr0 := hr
  obtain ⟨N, w, vs, hs, hl, hc, hm⟩ := hr
  have hN := hs.wfN
  have hw := hs.wfL
  have h6 := hw.2.1
  have bg := hN.2.2.1
  rcases c90 hs.cl hw x with ⟨t, ht, rfl, e⟩ | ⟨hx, e⟩
  · rcases c103 hs.nR hN y with ⟨g, hg, rfl, e'⟩ | ⟨hy, e'⟩
    · obtain ⟨D, hD⟩ : ∃ D, D = N.2.2.2.2 g := ⟨_, rfl⟩
      have bD := hN.2.2.2.2.2.2.2 g hg
      rw [← hD] at bD
      obtain ⟨l, hll⟩ : ∃ l, l = w (5 + 2 * t) := ⟨_, rfl⟩
      have bl := (hw.2.2.2.2.1 t ht).2.1
      rw [← hll] at bl
      obtain ⟨F, hF⟩ : ∃ F, F = w (4 + 2 * t) - w_used w t := ⟨_, rfl⟩
      have bF : F ≤ 999999 := by have := (hw.2.2.2.2.1 t ht).1; omega
      obtain ⟨U, hU⟩ : ∃ U, U = if l = 3 then 999 else min 999 (paN l * F / D) := ⟨_, rfl⟩
      have bU : U ≤ 999 := by rw [hU]; split <;> omega
      have bUD : U * D ≤ 999 * 999 := Nat.mul_le_mul bU bD.2
      have hin : ∀ u, u ≤ 999 → (shN (u * D) l ≤ F ↔ u ≤ U) := by
        intro u hu
        by_cases c : l = 3
        · rw [hU, if_pos c, c]
          exact ⟨fun _ => hu, fun _ => by show 0 ≤ F; omega⟩
        · rw [hU, if_neg c, shN_iff (by omega), Nat.le_min, Nat.le_div_iff_mul_le (by omega)]
          exact ⟨fun q => ⟨hu, q⟩, fun q => q.2⟩
      obtain ⟨M2, R1, e2, hs2, hz, f1, hz1, hR⟩ := tell1 hs (nI (shN (U * D) l))
      have h := hs2.t0.ml
      have he : v25 m m.2.2.1 (nI g) = nI D := by rw [c25 hs.nR hN hg, hD]
      have he2 : v95 m (0 + 13) (nI t) = nI l := by rw [c95 hs.cl hw ht, hll]
      refine ⟨.inl (nI U), M2, R1, ?_, ?_, hR⟩
      · refine (E147 (d + 29) 0 _ _ sx m).trans ?_
        rw [p90 (d + 28) _ _ sL m, lt_cI_s, e, if_neg (by decide), lt_gd_t hs.sA, p103 (d + 28) _ _ hs.sA m, lt_cI_s, e', if_pos (by decide), lt_gd_t hs.sA, p25 (d + 27) _ _ hs.sA m, lt_cI_s, he, p95 (d + 27) _ _ sL m, lt_cI_s, he2]
        simp (disch := omega) only [q_3, sp_eqn, sp_le0]
        by_cases c : l = 3
        · rw [if_pos c, q_999, pk_mul, k106 (d + 27) bl (by have := Nat.mul_le_mul_left 999 bD.2; omega), lt_cI_s]
          have : U = 999 := by rw [hU]; exact if_pos c
          rw [this] at e2 ⊢
          rw [e2, lt_cV_s]
        · have hU2 : U = min 999 (paN l * F / D) := by rw [hU]; exact if_neg c
          have hp := paN_pos (l := l) (by omega)
          have hpf : paN l * F ≤ 10 * 999999 := Nat.mul_le_mul hp.2 bF
          have hdv : paN l * F / D ≤ paN l * F := Nat.div_le_self _ _
          have hne : ¬ nI D = (0 : Int32) := by rw [sp_eq0 (by omega)]; omega
          rw [if_neg c, if_neg (by omega), k107 (d + 28) bl, lt_cI_s, k96 (d + 26) sL hs.cl hw ht, lt_cI_s, ← hF, lt_gd_t hne, pk_mul, pk_div (by omega) (by omega) (by omega), q_999, sp_min (by omega) (by omega), ← hU2, pk_mul, k106 (d + 27) bl (by omega), lt_cI_s, e2, lt_cV_s]
      · refine (E256 (d + 29) 711 _ _ sy M2).trans ?_
        rw [m213 (d + 27) sy h hw, lt_cI_s, sp_i1 ht (by omega), if_neg (by decide), m226 (d + 27) sy h hN, lt_cI_s, sp_i1 hg (by omega), if_pos (by decide)]
        have hmu : (lm_i M2 711 15 0).1 (711 + 6) (nI g).toNatClampNeg = nI D := by rw [nI_clamp (by omega), h.2.2.2.2.1 g hg, hD]
        have fin : L256_61 (d + 29) 711 (nI t) (nI g) (nI U) (lm_i M2 711 15 0) = some (some (.inl (nI U)), R1) := by
          have hmu2 : (lm_i (lm_i M2 711 15 0) 711 14 0).1 (711 + 6) (nI g).toNatClampNeg = nI D := by rw [nI_clamp (by omega), hz.ml.2.2.2.2.1 g hg, hD]
          rw [E256_61 _ _ _ _ _ sy, m218 (d + 28) sy hz.ml (by omega), lt_cI_s, ← hll, lt_gd_t (sp_gd (by omega) (by omega)), hmu2, pk_mul, m227 (d + 28) bl (by omega), lt_cI_s, f1, lt_cV_s]
        refine lp_it (F := fun i (_ : Unit) => L256_27 (d + 29) 711 (nI t) (nI g) (nI (999 - i)) (lm_i M2 711 15 0)) (999 - U) ?_ ?_ ()
        · intro i o hi
          refine ⟨(), ?_⟩
          have hmm : (999 - i) * D ≤ 999 * 999 := Nat.mul_le_mul (by omega) bD.2
          have hno : ¬ shN ((999 - i) * D) l ≤ F := fun q => by have := (hin (999 - i) (by omega)).mp q; omega
          have hsl := shN_le (v := (999 - i) * D) (l := l)
          rw [E256_27 _ _ _ _ _ sy]
          simp (disch := omega) only [sp_le0]
          rw [if_neg (by omega), m218 (d + 28) sy h (by omega), lt_cI_s, ← hll, lt_gd_t (sp_gd (by omega) (by omega)), hmu, pk_mul, m227 (d + 28) bl (by omega), lt_cI_s, m219 (d + 24) sy h hw ht, lt_cI_s, ← hF]
          simp (disch := omega) only [sp_len]
          rw [if_neg hno, show 999 - i = (999 - (i + 1)) + 1 by omega, pk_m1]
        · intro o
          rw [show 999 - (999 - U) = U by omega, E256_27 _ _ _ _ _ sy]
          simp (disch := omega) only [sp_le0]
          by_cases c0 : U ≤ 0
          · rw [if_pos c0]; exact fin
          · have hsl := shN_le (v := U * D) (l := l)
            have hyes : shN (U * D) l ≤ F := (hin U bU).mpr (Nat.le_refl _)
            rw [if_neg c0, m218 (d + 28) sy h (by omega), lt_cI_s, ← hll, lt_gd_t (sp_gd (by omega) (by omega)), hmu, pk_mul, m227 (d + 28) bl (by omega), lt_cI_s, m219 (d + 24) sy h hw ht, lt_cI_s, ← hF]
            simp (disch := omega) only [sp_len]
            rw [if_pos hyes]
            exact fin
    · refine OP_q (.inl (-1)) hr0 ?_ ?_
      · refine (E147 (d + 29) 0 _ _ sx m).trans ?_
        rw [p90 (d + 28) _ _ sL m, lt_cI_s, e, if_neg (by decide), lt_gd_t hs.sA, p103 (d + 28) _ _ hs.sA m, lt_cI_s, e', if_neg (by decide)]
      · refine (E256 (d + 29) 711 _ _ sy m).trans ?_
        rw [m213 (d + 27) sy hs.t0.ml hw, lt_cI_s, sp_i1 ht (by omega), if_neg (by decide), m226 (d + 27) sy hs.t0.ml hN, lt_cI_s, sp_i0 (by omega) hy, if_neg (by decide)]
  · refine OP_q (.inl (-1)) hr0 ?_ ?_
    · refine (E147 (d + 29) 0 _ _ sx m).trans ?_
      rw [p90 (d + 28) _ _ sL m, lt_cI_s, e, if_pos (by decide)]
    · refine (E256 (d + 29) 711 _ _ sy m).trans ?_
      rw [m213 (d + 27) sy hs.t0.ml hw, lt_cI_s, sp_i0 (by omega) hx, if_pos (by decide)]
/-- busiest -/
theorem m253_i (d : Nat) {a0 : Nat} (h0 : ts_sh a0 = (0, 12)) (h : ml N w a0 m) (hN : wfN N) (hw : wfL N w) {i n A : Nat} (hi : i < w 2) (hn : n < 31) (hA : A < 2 ^ i) (x1 x2 : Int32) : ∃ o, L253_47 (d + 3) a0 x1 x2 (nI n) (nI A) (nI i) (nI (w_sp w i)) m = L253_26 (d + 3) a0 x1 x2 (nI n) (nI (A + if (w_goes w i && (orN (fun j => w_rt w i (w_sp w i + j)) (w_lg w i - w_sp w i)).testBit n) = true then 2 ^ i else 0)) (nI (i + 1)) o m := by
  have h20 := hw.2.2.1
  have bn := hN.2.1
  obtain ⟨g1, g2, g3, g4⟩ := wf_sp hw hi
  by_cases c : w_goes w i = true
  · refine ⟨some (.inl (nI (w_lg w i))), ?_⟩
    obtain ⟨q, hq⟩ : ∃ q : Nat → Prop, q = fun j => (orN (fun j => w_rt w i (w_sp w i + j)) j).testBit n = true := ⟨_, rfl⟩
    haveI : DecidablePred q := fun j => by rw [hq]; exact inferInstance
    have e0 : A = A + if q 0 then 2 ^ i else 0 := by rw [if_neg (by rw [hq]; simp [orN])]; rfl
    have e1 : (A + if (w_goes w i && (orN (fun j => w_rt w i (w_sp w i + j)) (w_lg w i - w_sp w i)).testBit n) = true then 2 ^ i else 0) = A + if q (w_lg w i - w_sp w i) then 2 ^ i else 0 := by
      congr 1
      by_cases cq : (orN (fun j => w_rt w i (w_sp w i + j)) (w_lg w i - w_sp w i)).testBit n = true
      · rw [if_pos (by rw [c, cq]; rfl), if_pos (by rw [hq]; exact cq)]
      · rw [if_neg (by rw [c]; simpa using cq), if_neg (by rw [hq]; exact cq)]
    rw [e1]
    have key := lp_it (F := fun j (_ : Unit) => L253_47 (d + 3) a0 x1 x2 (nI n) (nI (A + if q j then 2 ^ i else 0)) (nI i) (nI (w_sp w i + j)) m) (K := L253_26 (d + 3) a0 x1 x2 (nI n) (nI (A + if q (w_lg w i - w_sp w i) then 2 ^ i else 0)) (nI (i + 1)) (some (.inl (nI (w_lg w i)))) m) (w_lg w i - w_sp w i) ?_ ?_ ()
    · rw [← e0] at key
      exact key
    · intro j o hj
      refine ⟨(), ?_⟩
      have hr1 : w_rt w i (w_sp w i + j) < N.1 := wf_rt hw hi (by omega)
      rw [E253_47 _ _ _ _ _ _ _ _ h0, m198_lg (d + 2) h0 h (by omega), lt_cI_s]
      simp (disch := omega) only [sp_len]
      rw [if_neg (by omega), m196 d h0 h hw hi, lt_cI_s, show (if w_goes w i = true then (1 : Int32) else 0) = 1 from if_pos c, if_neg (by decide), m198_rt (d + 2) h0 h (by omega) (by omega), lt_cI_s]
      simp (disch := omega) only [sp_eqn]
      have hqs : q (j + 1) ↔ (q j ∨ w_rt w i (w_sp w i + j) = n) := by
        rw [hq]
        simp only [orN, Nat.testBit_or, Bool.or_eq_true, Nat.testBit_two_pow, decide_eq_true_eq]
      by_cases c2 : w_rt w i (w_sp w i + j) = n
      · rw [if_neg (by simp [c2]), sp_bit (by omega), sp_orN, or_bit hA, if_pos (hqs.mpr (Or.inr c2)), nI_1]; rfl
      · rw [if_pos c2, sp_or0, nI_1]
        by_cases cj : q j
        · rw [if_pos cj, if_pos (hqs.mpr (Or.inl cj))]; rfl
        · rw [if_neg cj, if_neg (fun z => (hqs.mp z).elim cj c2)]; rfl
    · intro o
      rw [show w_sp w i + (w_lg w i - w_sp w i) = w_lg w i by omega, E253_47 _ _ _ _ _ _ _ _ h0, m198_lg (d + 2) h0 h (by omega), lt_cI_s]
      simp (disch := omega) only [sp_len]
      rw [if_pos (Nat.le_refl _), nI_1]
  · refine ⟨some (.inl (nI (w_sp w i))), ?_⟩
    rw [E253_47 _ _ _ _ _ _ _ _ h0, m198_lg (d + 2) h0 h (by omega), lt_cI_s, if_neg (show ¬ (w_goes w i && (orN (fun j => w_rt w i (w_sp w i + j)) (w_lg w i - w_sp w i)).testBit n) = true by simp [c]), nI_1]
    simp (disch := omega) only [sp_len]
    by_cases c2 : w_lg w i ≤ w_sp w i
    · rw [if_pos c2]; rfl
    · rw [if_neg c2, m196 d h0 h hw hi, lt_cI_s, show (if w_goes w i = true then (1 : Int32) else 0) = 0 from if_neg c, if_pos rfl]; rfl
theorem op_busiest (d : Nat) (hr : RR dist wl T m) : OP dist wl d T T 145 253 [] m := by
  have hr0 := hr
  obtain ⟨N, w, vs, hs, hl, hc, hm⟩ := hr
  have hN := hs.wfN
  have hw := hs.wfL
  have h20 := hw.2.2.1
  have bn := hN.2.1
  have hcb : ∀ n, w_comes w n < 2 ^ 24 := fun n => bitsN_24 _ (by omega)
  obtain ⟨M2, R1, e2, hs2, hz, f1, hz1, hR⟩ := tell1 hs (nI (bz w N.1).2)
  obtain ⟨b1, b2⟩ := bz_b h20 N.1
  have cls : ∀ K, (if ¬ bzI (-1) (bz w N.1).1 = (-1 : Int32) then (lt_cV (lt_ev (d + 29) 75 [.inr (.inr (some 0)), .inl (nI (bz w N.1).2)] m) (fun m1 => (some (some (.inl (bzI (-1) (bz w N.1).1)), m1)))) else (some (some (.inl (-2 : Int32)), m))) = K → lt_ev (d + 30) 145 [.inr (.inr (some 0))] m = K := by
    intro K hK
    refine (E145 (d + 29) 0 sx m).trans ?_
    refine lp_it (F := fun n o => L145_6 (d + 29) 0 (bzI (-1) (bz w n).1) (nI (bz w n).2) (nI n) o m) N.1 ?_ ?_ none
    · intro n o hn
      refine ⟨some (.inl (nI (w_comes w n))), ?_⟩
      have hb := (bz_b h20 n).1
      have hc := hcb n
      have p1 : pcN (w_comes w n) 24 ≤ 24 := by
        unfold w_comes
        rw [pcN_bits24 _ (by omega)]
        have := sumN_bound (n := w 2) (c := 1) (f := fun i => if (w_goes w i && (orN (fun j => w_rt w i (w_sp w i + j)) (w_lg w i - w_sp w i)).testBit n) = true then 1 else 0) (fun i hi => by split <;> omega)
        omega
      have p2 : pcN (bz w n).2 24 ≤ 24 := by
        have : ∀ n, pcN (bz w n).2 24 ≤ 24 := by
          intro n
          induction n with
          | zero => exact (show pcN 0 24 ≤ 24 by decide)
          | succ n ih =>
            simp only [bz]
            split
            · exact ih
            · show pcN (w_comes w n) 24 ≤ 24
              unfold w_comes
              rw [pcN_bits24 _ (by omega)]
              have := sumN_bound (n := w 2) (c := 1) (f := fun i => if (w_goes w i && (orN (fun j => w_rt w i (w_sp w i + j)) (w_lg w i - w_sp w i)).testBit n) = true then 1 else 0) (fun i hi => by split <;> omega)
              omega
        exact this n
      rw [E145_6 _ _ _ _ _ _ sx, lt_gd_t hs.sA, hs.nR.1]
      simp (disch := omega) only [sp_len]
      rw [if_neg (by omega), k146 (d + 25) sL hs.cl hN hw (by omega), lt_cI_s, k60 (d + 28) hc, lt_cI_s, k60 (d + 28) hb, lt_cI_s, nI_1]
      simp (disch := omega) only [sp_len, bz]
      by_cases c : pcN (w_comes w n) 24 ≤ pcN (bz w n).2 24
      · rw [if_pos c, if_pos c]
      · rw [if_neg c, if_neg c]; rfl
    · intro o
      rw [E145_6 _ _ _ _ _ _ sx, lt_gd_t hs.sA, hs.nR.1, if_pos (by rw [sp_len (by omega) (by omega)]; exact Nat.le_refl _)]
      exact hK
  have ref : ∀ (M : lt_m) (hM : RS dist wl N w T M) (K : Option lt_r), (if ¬ bzI (-2) (bz w N.1).1 = (-2 : Int32) then (lt_cV (lt_ev (d + 29) 202 [.inr (.inr (some 711)), .inr (.inl ((nI (bz w N.1).2).toInt64))] (lm_i (lm_i M 711 15 0) 711 14 0)) (fun m1 => (some (some (.inl (bzI (-2) (bz w N.1).1)), m1)))) else (some (some (.inl (-2 : Int32)), lm_i M 711 15 0))) = K → lt_ev (d + 30) 253 [.inr (.inr (some 711))] M = K := by
    intro M hM K hK
    have h := hM.t0.ml
    refine (E253 (d + 29) 711 sy M).trans ?_
    refine lp_it (F := fun n (o : Option ts_V × Option ts_V × Option ts_V) => L253_12 (d + 29) 711 (bzI (-2) (bz w n).1) (nI (bz w n).2) (nI n) o.1 o.2.1 o.2.2 (lm_i M 711 15 0)) N.1 ?_ ?_ (none, none, none)
    · intro n o hn
      have hb := (bz_b h20 n).1
      have hc := hcb n
      have p1 : ∀ v, v < 2 ^ 24 → pcN v 24 < 2 ^ 31 := by
        intro v hv
        have : ∀ k v, pcN v k ≤ k := by
          intro k
          induction k with
          | zero => intro v; exact Nat.le_refl _
          | succ k ih => intro v; simp only [pcN]; have := ih (v / 2); omega
        have := this 24 v
        omega
      have q1 := p1 _ hb
      have q2 := p1 _ hc
      have key : ∀ (i : Nat) (o6 : Option ts_V), i ≤ w 2 → ∃ o', L253_26 (d + 29) 711 (bzI (-2) (bz w n).1) (nI (bz w n).2) (nI n) (nI 0) 0 o6 (lm_i M 711 15 0) = L253_26 (d + 29) 711 (bzI (-2) (bz w n).1) (nI (bz w n).2) (nI n) (nI (bitsN (fun i => w_goes w i && (orN (fun j => w_rt w i (w_sp w i + j)) (w_lg w i - w_sp w i)).testBit n) i)) (nI i) o' (lm_i M 711 15 0) := by
        intro i o6
        induction i with
        | zero => intro _; exact ⟨o6, rfl⟩
        | succ i ih =>
          intro hi
          obtain ⟨o', e⟩ := ih (by omega)
          obtain ⟨o2, e2⟩ := m253_i (d + 26) sy h hN hw (i := i) (n := n) (A := bitsN (fun i => w_goes w i && (orN (fun j => w_rt w i (w_sp w i + j)) (w_lg w i - w_sp w i)).testBit n) i) (by omega) (by omega) (bitsN_lt _ i) (bzI (-2) (bz w n).1) (nI (bz w n).2)
          refine ⟨o2, e.trans ?_⟩
          rw [E253_26 _ _ _ _ _ _ _ _ sy, lt_gd_t g2_ok, w2_at h]
          simp (disch := omega) only [sp_len, bitsN_succ]
          rw [if_neg (by omega), m198_sp (d + 28) sy h (by omega), lt_cI_s]
          exact e2
      obtain ⟨o', e⟩ := key (w 2) o.2.2 (Nat.le_refl _)
      refine ⟨(some (.inl (nI (w_comes w n))), some (.inl (nI (w 2))), o'), ?_⟩
      rw [E253_12 _ _ _ _ _ _ _ _ sy, h.2.1]
      simp (disch := omega) only [sp_len]
      rw [if_neg (by omega)]
      refine e.trans ?_
      rw [E253_26 _ _ _ _ _ _ _ _ sy, lt_gd_t g2_ok, w2_at h, if_pos (by rw [sp_len (by omega) (by omega)]; exact Nat.le_refl _)]
      have ew : bitsN (fun i => w_goes w i && (orN (fun j => w_rt w i (w_sp w i + j)) (w_lg w i - w_sp w i)).testBit n) (w 2) = w_comes w n := rfl
      rw [ew, m206 (d + 28) hc, lt_cI_s, m206 (d + 28) hb, lt_cI_s, nI_1]
      simp (disch := omega) only [sp_ltn, bz]
      by_cases c : pcN (w_comes w n) 24 ≤ pcN (bz w n).2 24
      · rw [if_neg (by omega), if_pos c]
      · rw [if_pos (by omega), if_neg c]; rfl
    · intro o
      rw [E253_12 _ _ _ _ _ _ _ _ sy, h.2.1, if_pos (by rw [sp_len (by omega) (by omega)]; exact Nat.le_refl _)]
      exact hK
  cases hb : (bz w N.1).1 with
  | none =>
    refine OP_q (.inl (-2)) hr0 (cls _ ?_) (ref m hs _ ?_)
    · rw [hb, if_neg (by simp [bzI])]
    · rw [hb, if_neg (by simp [bzI])]
  | some o =>
    have ho := b2 o hb
    refine ⟨.inl (nI o), M2, R1, cls _ ?_, ref M2 hs2 _ ?_, hR⟩
    · rw [hb, if_pos (by show ¬ nI o = -1; rw [sp_m1 (by omega)]; exact id), e2, lt_cV_s]; rfl
    · rw [hb, if_pos (by show ¬ nI o = -2; rw [sp_m2 (by omega)]; exact id), f1, lt_cV_s]; rfl
end OPS

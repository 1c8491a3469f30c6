/-! ===== a MOVEMENT starts ===== -/
def stF (t g u sh tm k h : Nat) (r : Nat → Nat) (f : Nat) : Nat := if f = 0 then t else if f = 1 then g else if f = 2 then u else if f = 4 then sh else if f = 5 then tm else if f = 6 then 1 else if f = 9 then k else if f = 18 then h else if 10 ≤ f ∧ f < 10 + k then r (f - 10) else 0
def startW (w : Nat → Nat) (n : Nat) (F : Nat → Nat) : Nat → Nat := fun j => if 16 + 26 * n ≤ j ∧ j < 42 + 26 * n then F (j - (16 + 26 * n)) else if j = 2 then n + 1 else w j
section ST1
variable {N : NT} {w : Nat → Nat} {n t g u sh tm k h : Nat} {r F : Nat → Nat} {dist wl : DT} {T : Nat} {S : ST} {m m' : lt_m}
theorem st_f {f : Nat} (hf : f < 26) : startW w n F (16 + 26 * n + f) = F f := by
  unfold startW
  rw [if_pos (by omega), show 16 + 26 * n + f - (16 + 26 * n) = f by omega]
theorem st_o {j : Nat} (h1 : ¬ (16 + 26 * n ≤ j ∧ j < 42 + 26 * n)) (h2 : j ≠ 2) : startW w n F j = w j := by
  unfold startW
  rw [if_neg h1, if_neg h2]
theorem st_2 : startW w n F 2 = n + 1 := by
  unfold startW
  rw [if_neg (by omega), if_pos rfl]
theorem st_of : w_of (startW w n (stF t g u sh tm k h r)) n = t := st_f (f := 0) (by omega)
theorem st_kd : w_kd (startW w n (stF t g u sh tm k h r)) n = g := by
  show startW _ _ _ (17 + 26 * n) = _
  rw [show 17 + 26 * n = 16 + 26 * n + 1 by omega, st_f (by omega)]; rfl
theorem st_un : w_un (startW w n (stF t g u sh tm k h r)) n = u := by
  show startW _ _ _ (18 + 26 * n) = _
  rw [show 18 + 26 * n = 16 + 26 * n + 2 by omega, st_f (by omega)]; rfl
theorem st_st : w_st (startW w n (stF t g u sh tm k h r)) n = 0 := by
  show startW _ _ _ (19 + 26 * n) = _
  rw [show 19 + 26 * n = 16 + 26 * n + 3 by omega, st_f (by omega)]
  unfold stF
  rw [if_neg (by omega), if_neg (by omega), if_neg (by omega), if_neg (by omega), if_neg (by omega), if_neg (by omega), if_neg (by omega), if_neg (by omega), if_neg (by omega)]
theorem st_sh : w_sh (startW w n (stF t g u sh tm k h r)) n = sh := by
  show startW _ _ _ (20 + 26 * n) = _
  rw [show 20 + 26 * n = 16 + 26 * n + 4 by omega, st_f (by omega)]; rfl
theorem st_tm : w_tm (startW w n (stF t g u sh tm k h r)) n = tm := by
  show startW _ _ _ (21 + 26 * n) = _
  rw [show 21 + 26 * n = 16 + 26 * n + 5 by omega, st_f (by omega)]; rfl
theorem st_sp : w_sp (startW w n (stF t g u sh tm k h r)) n = 1 := by
  show startW _ _ _ (22 + 26 * n) = _
  rw [show 22 + 26 * n = 16 + 26 * n + 6 by omega, st_f (by omega)]; rfl
theorem st_br : w_br (startW w n (stF t g u sh tm k h r)) n = 0 := by
  show startW _ _ _ (23 + 26 * n) = _
  rw [show 23 + 26 * n = 16 + 26 * n + 7 by omega, st_f (by omega)]
  unfold stF
  rw [if_neg (by omega), if_neg (by omega), if_neg (by omega), if_neg (by omega), if_neg (by omega), if_neg (by omega), if_neg (by omega), if_neg (by omega), if_neg (by omega)]
theorem st_db : w_db (startW w n (stF t g u sh tm k h r)) n = 0 := by
  show startW _ _ _ (24 + 26 * n) = _
  rw [show 24 + 26 * n = 16 + 26 * n + 8 by omega, st_f (by omega)]
  unfold stF
  rw [if_neg (by omega), if_neg (by omega), if_neg (by omega), if_neg (by omega), if_neg (by omega), if_neg (by omega), if_neg (by omega), if_neg (by omega), if_neg (by omega)]
theorem st_lg : w_lg (startW w n (stF t g u sh tm k h r)) n = k := by
  show startW _ _ _ (25 + 26 * n) = _
  rw [show 25 + 26 * n = 16 + 26 * n + 9 by omega, st_f (by omega)]; rfl
theorem st_rt {j : Nat} (hj : j < k) (hk : k ≤ 8) : w_rt (startW w n (stF t g u sh tm k h r)) n j = r j := by
  show startW _ _ _ (26 + 26 * n + j) = _
  rw [show 26 + 26 * n + j = 16 + 26 * n + (10 + j) by omega, st_f (by omega)]
  unfold stF
  rw [if_neg (by omega), if_neg (by omega), if_neg (by omega), if_neg (by omega), if_neg (by omega), if_neg (by omega), if_neg (by omega), if_neg (by omega), if_pos (by omega), show 10 + j - 10 = j by omega]
theorem st_at : w_at (startW w n (stF t g u sh tm k h r)) n 0 = h := by
  show startW _ _ _ (34 + 26 * n + 0) = _
  rw [show 34 + 26 * n + 0 = 16 + 26 * n + 18 by omega, st_f (by omega)]; rfl
/-- the ledger keeps its form -/
theorem wfL_start (hw : wfL N w) (hn : w 2 < 20) (ht : t < w 1) (hg : g < N.2.1) (hu : 1 ≤ u ∧ u ≤ 999) (htm : w 0 ≤ tm ∧ tm ≤ 200000) (hk : 2 ≤ k ∧ k ≤ 8) (hr : ∀ j, j < k → r j < N.1) (hro : ∀ j, j + 1 < k → 0 < N.2.2.1 (r j) (r (j + 1))) (hsh : w_used w t + sh ≤ w (4 + 2 * t)) : wfL N (startW w (w 2) (stF t g u sh tm k (w 0) r)) := by
  obtain ⟨a0, a1, a2, a3, a4, a5⟩ := hw
  have g0 : startW w (w 2) (stF t g u sh tm k (w 0) r) 0 = w 0 := st_o (by omega) (by omega)
  have g1 : startW w (w 2) (stF t g u sh tm k (w 0) r) 1 = w 1 := st_o (by omega) (by omega)
  have g3 : startW w (w 2) (stF t g u sh tm k (w 0) r) 3 = w 3 := st_o (by omega) (by omega)
  refine ⟨by rw [g0]; exact a0, by rw [g1]; exact a1, by rw [st_2]; omega, by rw [g3]; exact a3, fun t' ht' => ?_, fun i hi => ?_⟩
  · rw [g1] at ht'
    obtain ⟨b1, b2, b3⟩ := a4 t' ht'
    rw [st_o (by omega) (by omega), st_o (by omega) (by omega)]
    refine ⟨b1, b2, ?_⟩
    have e : w_used (startW w (w 2) (stF t g u sh tm k (w 0) r)) t' = w_used w t' + if t = t' then sh else 0 := by
      unfold w_used
      rw [st_2]
      simp only [sumN]
      rw [st_of, st_sh]
      congr 1
      · exact sumN_congr fun i hi => by
          have e1 : w_of (startW w (w 2) (stF t g u sh tm k (w 0) r)) i = w_of w i := st_o (by omega) (by omega)
          have e2 : w_sh (startW w (w 2) (stF t g u sh tm k (w 0) r)) i = w_sh w i := st_o (by omega) (by omega)
          have e3 : w_st (startW w (w 2) (stF t g u sh tm k (w 0) r)) i = w_st w i := st_o (by omega) (by omega)
          unfold w_open
          rw [e1, e2, e3]
      · have : w_open (startW w (w 2) (stF t g u sh tm k (w 0) r)) (w 2) = true := by unfold w_open; rw [st_st]; rfl
        by_cases c : t = t'
        · rw [if_pos ⟨c, this⟩, if_pos c]
        · rw [if_neg (fun q => c q.1), if_neg c]
    rw [e]
    by_cases c : t = t'
    · subst c; rw [if_pos rfl]; exact hsh
    · rw [if_neg c]; exact b3
  · rw [st_2] at hi
    by_cases e : i = w 2
    · subst e
      unfold wfM
      rw [st_of, st_kd, st_un, st_st, st_sh, st_tm, st_sp, st_lg, st_br, st_db, g0, g1]
      have b4 := a4 t ht
      refine ⟨ht, hg, hu.1, hu.2, by omega, by omega, htm.2, by omega, by omega, hk.1, hk.2, by omega, ⟨by omega, fun _ => rfl⟩, fun j hj => by rw [st_rt hj hk.2]; exact hr j hj, fun j hj => by rw [st_rt (by omega) hk.2, st_rt hj hk.2]; exact hro j hj, fun j hj => ?_, fun _ => by omega, fun _ => htm.1, fun q => by omega⟩
      rw [show j = 0 by omega, st_at]
      exact Nat.le_refl _
    · exact wfM_cg g0 g1 (fun j k1 k2 => st_o (by omega) (by omega)) (a5 i (by omega))
theorem CS_mono {T' : Nat} (hT : T ≤ T') (h : CS dist wl T S m) : CS dist wl T' S m := CS_led (m := m) (m' := m) (w' := S.w) hT (fun b _ _ => rfl) ⟨rfl, rfl⟩ (LED_mono hT h.2.2.1) h.2.2.2.2.1 h
/-- the class has read: the text is empty -/
abbrev ST.rd (S : ST) : ST := ST.mk S.N S.w S.tx 0 S.z S.D S.l S.pw S.kb S.kw
theorem CS_rd (h : ∀ b, 13 ≤ b → b < 711 → m'.1 b = m.1 b) (hr : m'.2.2.1 = m.2.2.1 ∧ m'.2.2.2.1 = m.2.2.2.1) (h2 : m'.1 2 1 = 0) (hm : CS dist wl T S m) : CS dist wl T S.rd m' := by
  obtain ⟨⟨A, B, n1, n2, n3, n4, n5, n6, n7⟩, -, q3, ⟨i1, i2, i3, i5, i6, i7, i8, i10⟩, i11, i12, i13⟩ := hm
  have hL : ∀ L, 13 ≤ L → L + 68 ≤ 711 → ∀ b, L ≤ b → b < L + 68 → m'.1 b = m.1 b := fun L h1 h2 b g1 g2 => h b (by omega) (by omega)
  have hA : ∀ b, A ≤ b → b < A + 8 → m'.1 b = m.1 b := fun b g1 g2 => h b (by omega) (by omega)
  have hm8 : ∀ j, (S.l + 8 - (S.D - 1 - j)) % 8 < 8 := fun j => Nat.mod_lt _ (by decide)
  refine ⟨⟨A, B, by rw [hr.1]; exact n1, by rw [hr.2]; exact n2, n3, n4, nR_fr hA n5, ?_, ?_⟩, ⟨Nat.zero_le _, h2, fun j hj => absurd hj (Nat.not_lt_zero j)⟩, LED_fr (hL 13 (by omega) (by omega)) q3, ⟨i1, i2, ?_, ?_, fun j hj => LED_fr (hL _ (by omega) (by have := hm8 j; omega)) (i6 j hj), i7, ?_, fun hk => LED_fr (hL 83 (by omega) (by omega)) (i10 hk)⟩, nmR_fr (hL 13 (by omega) (by omega)) i11, nmR_fr (hL 83 (by omega) (by omega)) i12, fun j hj => nmR_fr (hL _ (by omega) (by omega)) (i13 j hj)⟩
  · rw [hA A (by omega) (by omega)]; exact n6
  · unfold wyR at n7 ⊢
    rw [hA (A + 4) (by omega) (by omega), hA (A + 6) (by omega) (by omega), hA (A + 7) (by omega) (by omega), h 701 (by omega) (by omega), h 709 (by omega) (by omega)]
    exact n7
  · rw [h 81 (by omega) (by omega)]; exact i3
  · rw [h 81 (by omega) (by omega)]; exact i5
  · rw [h 81 (by omega) (by omega)]; exact i8
/-- the movement's own rows: Movement.start -/
def putR (q : Nat) (r : Nat → Nat) (i : Nat) (m : lt_m) : lt_m := (fun b j => if b = q ∧ j < i then nI (r j) else m.1 b j, m.2)
theorem putR_s {q i : Nat} : lm_i (putR q r i m) q i (nI (r i)) = putR q r (i + 1) m := by
  refine Prod.ext (funext fun b => funext fun j => ?_) rfl
  show (if b = q ∧ j = i then nI (r i) else if b = q ∧ j < i then nI (r j) else m.1 b j) = if b = q ∧ j < i + 1 then nI (r j) else m.1 b j
  by_cases c : b = q ∧ j = i
  · rw [if_pos c, if_pos (by omega), c.2]
  · rw [if_neg c]
    by_cases c2 : b = q ∧ j < i
    · rw [if_pos c2, if_pos (by omega)]
    · rw [if_neg c2, if_neg (by omega)]
theorem putR_ne {q i b : Nat} (h : b ≠ q) : (putR q r i m).1 b = m.1 b := funext fun j => if_neg fun c => h c.1
theorem putR_in {q i j : Nat} (h : j < i) : (putR q r i m).1 q j = nI (r j) := if_pos ⟨rfl, h⟩
theorem k109 {q s : Nat} (hq : ts_sh q = (0, 4)) (hk : k ≤ 8) (h13 : 13 ≤ q) (h1 : m.1 6 1 = nI k) (h2 : m.1 6 2 = nI s) (h3 : ∀ j, j < k → m.1 7 j = nI (r j)) : ∃ M, (∀ d, lt_ev (d + 3) 109 [.inr (.inr (some q)), .inr (.inr (some 6)), .inl (nI h)] m = some (none, M)) ∧ (∀ j, j ≤ 5 → M.1 q j = m.1 q j) ∧ M.1 q 6 = nI (h + 2 * s + 24) ∧ M.1 q 7 = 0 ∧ M.1 q 8 = nI k ∧ M.1 q 9 = 1 ∧ M.1 q 10 = 0 ∧ M.1 q 11 = 0 ∧ (∀ j, j < k → M.1 (q + 1) j = nI (r j)) ∧ M.1 (q + 2) 0 = nI h ∧ (∀ b, b ≠ q → b ≠ q + 1 → b ≠ q + 2 → M.1 b = m.1 b) ∧ M.2 = m.2 := by
  have sq1 : ts_sh (q + 1) = (1, 8) := sf_of hq 12 (by decide) (by decide)
  have sq2 : ts_sh (q + 2) = (1, 8) := sf_of hq 13 (by decide) (by decide)
  obtain ⟨M0, hM0⟩ : ∃ M0, M0 = lm_i (lm_i m q 7 0) q 8 (nI k) := ⟨_, rfl⟩
  have z8 : ∀ i, (putR (q + 1) r i M0).1 q 8 = nI k := fun i => by rw [putR_ne (by omega), hM0]; exact lm_i_eq
  have z6 : ∀ i, (putR (q + 1) r i M0).1 6 = m.1 6 := fun i => by rw [putR_ne (by omega), hM0, lm_i_ne (by omega), lm_i_ne (by omega)]
  have z7 : ∀ i, (putR (q + 1) r i M0).1 7 = m.1 7 := fun i => by rw [putR_ne (by omega), hM0, lm_i_ne (by omega), lm_i_ne (by omega)]
  obtain ⟨P, hP⟩ : ∃ P, P = putR (q + 1) r k M0 := ⟨_, rfl⟩
  refine ⟨lm_i (lm_i (lm_i (lm_i (lm_i P q 6 (nI (h + 2 * s + 24))) q 10 0) q 11 0) (q + 2) 0 (nI h)) q 9 1, fun d => ?_, fun j hj => ?_, ?_, ?_, ?_, lm_i_eq, ?_, ?_, fun j hj => ?_, ?_, fun b b1 b2 b3 => ?_, ?_⟩
  · refine (E109 (d + 2) q 6 _ hq s_6 m).trans ?_
    rw [show (lm_i m q 7 (0 : Int32)).1 6 1 = nI k by rw [lm_i_ne (by omega)]; exact h1, ← hM0]
    have key := lp_it (F := fun i (_ : Unit) => L109_15 (d + 2) q 6 (nI h) (nI i) (putR (q + 1) r i M0)) (K := some (none, lm_i (lm_i (lm_i (lm_i (lm_i P q 6 (nI (h + 2 * s + 24))) q 10 0) q 11 0) (q + 2) 0 (nI h)) q 9 1)) k ?_ ?_ ()
    · have e0 : putR (q + 1) r 0 M0 = M0 := Prod.ext (funext fun b => funext fun j => if_neg (by omega)) rfl
      have key : L109_15 (d + 2) q 6 (nI h) (nI 0) (putR (q + 1) r 0 M0) = _ := key
      rw [e0] at key
      exact key
    · intro i _ hi
      refine ⟨(), ?_⟩
      have ev : v102 (putR (q + 1) r i M0) 6 (nI i) = nI (r i) := by
        unfold v102
        rw [z6, h1, if_neg (nI_pos (by omega)), if_neg (by rw [sp_len (by omega) (by omega)]; omega), c16 (by omega) (by omega), z7]
        exact h3 i hi
      rw [E109_15 _ _ _ _ _ hq s_6, z8, if_neg (by rw [sp_len (by omega) (by omega)]; omega), p102 d 6 _ s_6 _, lt_cI_s, ev, k17 (d + 1) sq1 (by omega) (by decide), lt_cV_s, putR_s, nI_1]
    · intro _
      rw [← hP, E109_15 _ _ _ _ _ hq s_6, show P.1 q 8 = nI k by rw [hP]; exact z8 k, if_pos (by rw [sp_len (by omega) (by omega)]; exact Nat.le_refl _), p110 (d + 1) 6 _ s_6 P, lt_cI_s]
      have ev : v110 P 6 (nI h) = nI (h + 2 * s + 24) := by
        unfold v110
        rw [show P.1 6 2 = nI s by rw [hP, z6]; exact h2, q_2, q_24, pk_mul, nI_add, nI_add]
      rw [ev, q_0, k17 (d + 1) sq2 (by decide) (by decide), lt_cV_s]
  · rw [lm_i_ns (by omega), lm_i_ne (by omega), lm_i_ns (by omega), lm_i_ns (by omega), lm_i_ns (by omega), hP, putR_ne (by omega), hM0, lm_i_ns (by omega), lm_i_ns (by omega)]
  · rw [lm_i_ns (by omega), lm_i_ne (by omega), lm_i_ns (by omega), lm_i_ns (by omega), lm_i_eq]
  · rw [lm_i_ns (by omega), lm_i_ne (by omega), lm_i_ns (by omega), lm_i_ns (by omega), lm_i_ns (by omega), hP, putR_ne (by omega), hM0, lm_i_ns (by omega), lm_i_eq]
  · rw [lm_i_ns (by omega), lm_i_ne (by omega), lm_i_ns (by omega), lm_i_ns (by omega), lm_i_ns (by omega), hP, z8]
  · rw [lm_i_ns (by omega), lm_i_ne (by omega), lm_i_ns (by omega), lm_i_eq]
  · rw [lm_i_ns (by omega), lm_i_ne (by omega), lm_i_eq]
  · rw [lm_i_ne (by omega), lm_i_ne (by omega), lm_i_ne (by omega), lm_i_ne (by omega), lm_i_ne (by omega), hP, putR_in hj]
  · rw [lm_i_ne (by omega), lm_i_eq]
  · rw [lm_i_ne b1, lm_i_ne b3, lm_i_ne b1, lm_i_ne b1, lm_i_ne b1, hP, putR_ne b2, hM0, lm_i_ne b1, lm_i_ne b1]
  · rw [hP, hM0]; rfl
/-- the class starts one -/
theorem k_start (hC : CS dist wl T S m) (hT : T < 2 ^ 30) (hN : wfN S.N) (hn : S.w 2 < 20) {s : Nat} (ht : t < S.w 1) (hg : g < S.N.2.1) (hu : 1 ≤ u ∧ u ≤ 999) (hs : s ≤ 693) (hk : 2 ≤ k ∧ k ≤ 8) (hr : ∀ j, j < k → r j < S.N.1) (hro : ∀ j, j + 1 < k → 0 < S.N.2.2.1 (r j) (r (j + 1))) (hsh : w_used S.w t + sh ≤ S.w (4 + 2 * t)) (h1 : m.1 6 1 = nI k) (h2 : m.1 6 2 = nI s) (h3 : ∀ j, j < k → m.1 7 j = nI (r j)) : ∃ M M2 M3, (∀ d, lt_ev (d + 1) 108 [.inr (.inr (some (0 + 13 + 3 + 5 + 3 * S.w 2))), .inl (nI t), .inl (nI g), .inl (nI u), .inl (nI (u * S.N.2.2.2.2 g)), .inl (nI sh)] m = some (none, M)) ∧ M.1 (0 + 13) 4 = nI (S.w 0) ∧ (∀ d, lt_ev (d + 3) 109 [.inr (.inr (some (0 + 13 + 3 + 5 + 3 * S.w 2))), .inr (.inr (some 6)), .inl (nI (S.w 0))] M = some (none, M2)) ∧ M2.1 (0 + 13) 6 = nI (S.w 2) ∧ (∀ d, lt_ev (d + 3) 111 [.inr (.inr (some (0 + 13))), .inl 0, .inr (.inr (some (0 + 13 + 3 + 5 + 3 * S.w 2)))] (lm_i M2 (0 + 13) 6 (nI (S.w 2 + 1))) = some (none, M3)) ∧ M3.1 (0 + 13 + 3 + 5 + 3 * S.w 2) 0 = nI (S.w 2) ∧ CS dist wl (T + 1) (S.setw (wnote (startW S.w (S.w 2) (stF t g u sh (S.w 0 + 2 * s + 24) k (S.w 0) r)) 0 (S.w 2) (S.w 0))) M3 ∧ M3.2 = m.2 ∧ ∀ b, b < 13 ∨ 81 ≤ b → M3.1 b = m.1 b := by
  have hC' := hC
  obtain ⟨-, -, ⟨hcl, hbk, hwl⟩, -, hnm, -, -⟩ := hC'
  have h99 := hwl.1
  have hcl0 := hcl
  obtain ⟨l1, l2, l3, l4, l5, l6, l7⟩ := hcl0
  have hq : ts_sh (0 + 13 + 3 + 5 + 3 * S.w 2) = (0, 4) := sh_mv sL (i := S.w 2) hn
  obtain ⟨q, hqe⟩ : ∃ q, q = 0 + 13 + 3 + 5 + 3 * S.w 2 := ⟨_, rfl⟩
  rw [← hqe] at hq ⊢
  obtain ⟨M, hM⟩ : ∃ M, M = lm_i (lm_i (lm_i (lm_i (lm_i m q 1 (nI t)) q 2 (nI g)) q 3 (nI u)) q 4 (nI (u * S.N.2.2.2.2 g))) q 5 (nI sh) := ⟨_, rfl⟩
  have fM : ∀ b, b ≠ q → M.1 b = m.1 b := fun b hb => by rw [hM, lm_i_ne hb, lm_i_ne hb, lm_i_ne hb, lm_i_ne hb, lm_i_ne hb]
  obtain ⟨M2, e2, x0, x6, x7, x8, x9, x10, x11, xr, xa, xf, xR⟩ := k109 (m := M) (h := S.w 0) (s := s) (r := r) hq hk.2 (by omega) (by rw [fM 6 (by omega)]; exact h1) (by rw [fM 6 (by omega)]; exact h2) (fun j hj => by rw [fM 7 (by omega)]; exact h3 j hj)
  obtain ⟨w', hw'⟩ : ∃ w', w' = startW S.w (S.w 2) (stF t g u sh (S.w 0 + 2 * s + 24) k (S.w 0) r) := ⟨_, rfl⟩
  have hwf : wfL S.N w' := by rw [hw']; exact wfL_start hwl hn ht hg hu ⟨by omega, by omega⟩ hk hr hro hsh
  have f2 : ∀ b, b ≠ q → b ≠ q + 1 → b ≠ q + 2 → M2.1 b = m.1 b := fun b b1 b2 b3 => by rw [xf b b1 b2 b3, fM b b1]
  have y0 : M2.1 q 0 = nI (S.w 2) := by
    rw [x0 0 (by omega), hM, lm_i_ns (by omega), lm_i_ns (by omega), lm_i_ns (by omega), lm_i_ns (by omega), lm_i_ns (by omega), hqe, show 0 + 13 + 3 + 5 + 3 * S.w 2 = 13 + 3 + 5 + 3 * S.w 2 by omega]
    exact l7 (S.w 2) hn
  obtain ⟨M2', hM2'⟩ : ∃ M2', M2' = lm_i M2 (0 + 13) 6 (nI (S.w 2 + 1)) := ⟨_, rfl⟩
  have f2' : ∀ b, b ≠ 0 + 13 → M2'.1 b = M2.1 b := fun b hb => by rw [hM2', lm_i_ne hb]
  have g0 : w' 0 = S.w 0 := by rw [hw']; exact st_o (by omega) (by omega)
  have g1 : w' 1 = S.w 1 := by rw [hw']; exact st_o (by omega) (by omega)
  have g2 : w' 2 = S.w 2 + 1 := by rw [hw']; exact st_2
  have h6 := hwl.2.1
  have go : ∀ j, ¬ (16 + 26 * S.w 2 ≤ j ∧ j < 42 + 26 * S.w 2) → j ≠ 2 → w' j = S.w j := fun j a b => by rw [hw']; exact st_o a b
  have hbk2 : bkR w' (0 + 13) T M2' := bkR_cg (go 3 (by omega) (by omega)) (fun j hj => go j (by omega) (by omega)) (fun b b1 b2 => by rw [f2' b (by omega), f2 b (by omega) (by omega) (by omega)]) hbk
  obtain ⟨M3, e3, hbk3, r3, f3⟩ := k112 sL hT hwf.2.2.2.1 hbk2 0 (S.w 2) (w' 0)
  have f3' : ∀ b, b < 17 ∨ 21 ≤ b → M3.1 b = M2'.1 b := fun b hb => f3 b (by omega)
  have f4 : ∀ b, b < 13 ∨ 81 ≤ b → M3.1 b = m.1 b := fun b hb => by rw [f3' b (by omega), f2' b (by omega), f2 b (by omega) (by omega) (by omega)]
  have hh : M2'.1 (0 + 13) 4 = nI (w' 0) := by rw [hM2', lm_i_ns (by omega), f2 (0 + 13) (by omega) (by omega) (by omega), g0]; exact l1
  have m3q : M3.1 q = M2.1 q := by rw [f3' q (by omega), f2' q (by omega)]
  have m3q1 : M3.1 (q + 1) = M2.1 (q + 1) := by rw [f3' (q + 1) (by omega), f2' (q + 1) (by omega)]
  have m3q2 : M3.1 (q + 2) = M2.1 (q + 2) := by rw [f3' (q + 2) (by omega), f2' (q + 2) (by omega)]
  have hmv : mvR S.N w' (S.w 2) q M3 := by
    unfold mvR
    rw [m3q, m3q1, m3q2, x6, x7, x8, x9, x10, x11, x0 1 (by omega), x0 2 (by omega), x0 3 (by omega), x0 4 (by omega), x0 5 (by omega), hw', st_of, st_kd, st_un, st_sh, st_tm, st_st, st_lg, st_sp, st_db, st_br]
    refine ⟨?_, ?_, ?_, ?_, ?_, rfl, rfl, rfl, rfl, rfl, rfl, fun j hj => by rw [st_rt hj hk.2]; exact xr j hj, fun j hj => ?_⟩
    · rw [hM, lm_i_ns (by omega), lm_i_ns (by omega), lm_i_ns (by omega), lm_i_ns (by omega), lm_i_eq]
    · rw [hM, lm_i_ns (by omega), lm_i_ns (by omega), lm_i_ns (by omega), lm_i_eq]
    · rw [hM, lm_i_ns (by omega), lm_i_ns (by omega), lm_i_eq]
    · rw [hM, lm_i_ns (by omega), lm_i_eq]
    · rw [hM, lm_i_eq]
    · rw [show j = 0 by omega, st_at]; exact xa
  have m3L : ∀ j, j ≠ 6 → M3.1 (0 + 13) j = m.1 (0 + 13) j := fun j hj => by rw [f3' _ (by omega), hM2', lm_i_ns (by omega), f2 (0 + 13) (by omega) (by omega) (by omega)]
  have hcl3 : cl S.N w' (0 + 13) M3 := by
    refine ⟨by rw [m3L 4 (by omega), g0]; exact l1, by rw [m3L 5 (by omega), g1]; exact l2, ?_, fun t' ht' => ?_, fun i hi => ?_, fun i i1 i2 => ?_, fun i hi => ?_⟩
    · rw [f3' _ (by omega), hM2', lm_i_eq, g2]
    · rw [g1] at ht'
      rw [f3' (0 + 13 + 1) (by omega), f2' (0 + 13 + 1) (by omega), f2 (0 + 13 + 1) (by omega) (by omega) (by omega), f3' (0 + 13 + 2) (by omega), f2' (0 + 13 + 2) (by omega), f2 (0 + 13 + 2) (by omega) (by omega) (by omega), go (4 + 2 * t') (by omega) (by omega), go (5 + 2 * t') (by omega) (by omega)]
      exact l4 t' ht'
    · rw [g2] at hi
      by_cases e : i = S.w 2
      · subst e; rw [← hqe]; exact hmv
      · have hl := wf_sp hwl (i := i) (by omega)
        refine mvR_cg (fun j k1 k2 => go j (by omega) (by omega)) (by omega) (by omega) (mvR_fr ?_ ?_ ?_ (l5 i (by omega)))
        · rw [f3' _ (by omega), f2' _ (by omega), f2 _ (by omega) (by omega) (by omega)]
        · rw [f3' _ (by omega), f2' _ (by omega), f2 _ (by omega) (by omega) (by omega)]
        · rw [f3' _ (by omega), f2' _ (by omega), f2 _ (by omega) (by omega) (by omega)]
    · rw [g2] at i1
      rw [f3' _ (by omega), f2' _ (by omega), f2 _ (by omega) (by omega) (by omega)]
      exact l6 i (by omega) i2
    · by_cases e : i = S.w 2
      · subst e; rw [← hqe, m3q]; exact y0
      · rw [f3' _ (by omega), f2' _ (by omega), f2 _ (by omega) (by omega) (by omega)]
        exact l7 i hi
  have hled : LED S.N (wnote w' 0 (S.w 2) (w' 0)) 13 (T + 1) M3 := ⟨cl_note hwf hcl3, hbk3, wfL_note hwf⟩
  have hn3 : nmR 13 M3 := by
    intro j hj
    rw [show 13 + 3 + 5 + 3 * j = 0 + 13 + 3 + 5 + 3 * j by omega]
    by_cases e : j = S.w 2
    · subst e
      rw [← hqe, m3q, x11]
      exact ⟨y0, Or.inl rfl⟩
    · rw [f3' _ (by omega), f2' _ (by omega), f2 _ (by omega) (by omega) (by omega), show 0 + 13 + 3 + 5 + 3 * j = 13 + 3 + 5 + 3 * j by omega]
      exact hnm j hj
  rw [g0, hw'] at hled
  refine ⟨M, M2, M3, fun d => by rw [hM]; exact E108 d q _ _ _ _ _ hq m, by rw [fM _ (by omega)]; exact l1, e2, by rw [f2 _ (by omega) (by omega) (by omega)]; exact l3, fun d => ?_, by rw [m3q]; exact y0, CS_led (Nat.le_succ T) (fun b hb hne => f4 b (by omega)) (by rw [r3, hM2']; show M2.2.2.1 = _ ∧ M2.2.2.2.1 = _; rw [xR, hM]; exact ⟨rfl, rfl⟩) hled hn3 hC, by rw [r3, hM2']; show M2.2 = _; rw [xR, hM]; rfl, f4⟩
  rw [← hM2']
  refine (E111 (d + 2) (0 + 13) _ _ sL hq M2').trans ?_
  rw [show M2'.1 q 0 = nI (S.w 2) by rw [f2' q (by omega)]; exact y0, hh]
  have := e3 d
  rw [nI_0] at this
  rw [this, lt_cV_s]
end ST1

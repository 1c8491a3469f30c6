/-! ===== a MOVEMENT starts: the reference; starts ===== -/
def pR (b0 off : Nat) (r : Nat → Nat) (i : Nat) (m : lt_m) : lt_m := (fun b j => if b = b0 ∧ off ≤ j ∧ j < off + i then nI (r (j - off)) else m.1 b j, m.2)
theorem lm_i_if {m : lt_m} {a j k : Nat} {v : Int32} : (lm_i m a j v).1 a k = if k = j then v else m.1 a k := by
  by_cases c : k = j
  · rw [if_pos c, c, lm_i_eq]
  · rw [if_neg c, lm_i_ns (by omega)]
section PR
variable {b0 off i : Nat} {r : Nat → Nat} {m : lt_m}
theorem pR_0 : pR b0 off r 0 m = m := Prod.ext (funext fun b => funext fun j => if_neg (by omega)) rfl
theorem pR_s : lm_i (pR b0 off r i m) b0 (off + i) (nI (r i)) = pR b0 off r (i + 1) m := by
  refine Prod.ext (funext fun b => funext fun j => ?_) rfl
  show (if b = b0 ∧ j = off + i then nI (r i) else if b = b0 ∧ off ≤ j ∧ j < off + i then nI (r (j - off)) else m.1 b j) = if b = b0 ∧ off ≤ j ∧ j < off + (i + 1) then nI (r (j - off)) else m.1 b j
  by_cases c : b = b0 ∧ j = off + i
  · rw [if_pos c, if_pos (by omega), show j - off = i by omega]
  · rw [if_neg c]
    by_cases c2 : b = b0 ∧ off ≤ j ∧ j < off + i
    · rw [if_pos c2, if_pos (by omega)]
    · rw [if_neg c2, if_neg (by omega)]
theorem pR_ne {b : Nat} (h : b ≠ b0) : (pR b0 off r i m).1 b = m.1 b := funext fun j => if_neg fun c => h c.1
theorem pR_if {k : Nat} : (pR b0 off r i m).1 b0 k = if off ≤ k ∧ k < off + i then nI (r (k - off)) else m.1 b0 k := by
  by_cases c : off ≤ k ∧ k < off + i
  · rw [if_pos c]; exact if_pos ⟨rfl, c⟩
  · rw [if_neg c]; exact if_neg fun q => c q.2
end PR
section ST2
variable {dist wl : DT} {T : Nat} {S : ST} {N : NT} {w : Nat → Nat} {m m' M M2 : lt_m} {vs : List Int32}
/-- the reference writes the new movement down -/
theorem m_start {n t g u sh k s h : Nat} {r : Nat → Nat} (hw : ∀ j, j < 626 → m.1 712 j = nI (w j)) (hn : n < 20) (hn2 : w 2 = n) (hh : w 0 = h) (hk : k ≤ 8) (hw3 : w 3 ≤ 30) (h26 : m.1 711 26 = nI k) (h27 : m.1 711 27 = nI s) (hr : ∀ j, j < k → m.1 723 j = nI (r j)) : ∃ m', (∀ d, L223_125 (d + 1) 711 (nI t) (nI g) (nI u) (nI sh) (nI n) 0 (lm_i m 712 2 (nI (n + 1))) = some (some (.inl (nI n)), m')) ∧ (∀ j, j < 626 → m'.1 712 j = nI (wnote (startW w n (stF t g u sh (h + 2 * s + 24) k h r)) 0 n h j)) ∧ m'.2 = m.2 ∧ ∀ b, b ≠ 712 → m'.1 b = m.1 b := by
  obtain ⟨m0, hm0⟩ : ∃ m0, m0 = lm_i m 712 2 (nI (n + 1)) := ⟨_, rfl⟩
  obtain ⟨A, hA⟩ : ∃ A, A = pR 712 (16 + 26 * n) (fun _ => 0) 26 m0 := ⟨_, rfl⟩
  have fA : ∀ b, b ≠ 712 → A.1 b = m.1 b := fun b hb => by rw [hA, pR_ne hb, hm0, lm_i_ne hb]
  have A0 : A.1 712 0 = nI h := by
    rw [hA, pR_if, if_neg (by omega), hm0, lm_i_ns (by omega), hw 0 (by omega), hh]
  obtain ⟨B, hB⟩ : ∃ B, B = lm_i (lm_i (lm_i (lm_i (lm_i (lm_i (lm_i A 712 (16 + 26 * n + 0) (nI t)) 712 (16 + 26 * n + 1) (nI g)) 712 (16 + 26 * n + 2) (nI u)) 712 (16 + 26 * n + 4) (nI sh)) 712 (16 + 26 * n + 5) (nI (h + 2 * s + 24))) 712 (16 + 26 * n + 6) (nI 1)) 712 (16 + 26 * n + 9) (nI k) := ⟨_, rfl⟩
  have fB : ∀ b, b ≠ 712 → B.1 b = m.1 b := fun b hb => by rw [hB, lm_i_ne hb, lm_i_ne hb, lm_i_ne hb, lm_i_ne hb, lm_i_ne hb, lm_i_ne hb, lm_i_ne hb, fA b hb]
  have B0 : B.1 712 0 = nI h := by
    rw [hB, lm_i_ns (by omega), lm_i_ns (by omega), lm_i_ns (by omega), lm_i_ns (by omega), lm_i_ns (by omega), lm_i_ns (by omega), lm_i_ns (by omega), A0]
  obtain ⟨D, hD⟩ : ∃ D, D = pR 712 (16 + 26 * n + 10) r k B := ⟨_, rfl⟩
  have fD : ∀ i b, b ≠ 712 → (pR 712 (16 + 26 * n + 10) r i B).1 b = m.1 b := fun i b hb => by rw [pR_ne hb, fB b hb]
  have D0 : D.1 712 0 = nI h := by rw [hD, pR_if, if_neg (by omega), B0]
  obtain ⟨E, hE⟩ : ∃ E, E = lm_i D 712 (16 + 26 * n + 18) (nI h) := ⟨_, rfl⟩
  have E0 : E.1 712 0 = nI h := by rw [hE, lm_i_ns (by omega), D0]
  have rowE : ∀ j, j < 626 → E.1 712 j = nI (startW w n (stF t g u sh (h + 2 * s + 24) k h r) j) := by
    intro j hj
    have hwj := hw j hj
    rw [hE, lm_i_if, hD, pR_if, hB, lm_i_if, lm_i_if, lm_i_if, lm_i_if, lm_i_if, lm_i_if, lm_i_if, hA, pR_if, hm0, lm_i_if, hwj]
    unfold startW
    by_cases cb : 16 + 26 * n ≤ j ∧ j < 42 + 26 * n
    · rw [if_pos cb]
      obtain ⟨f, rfl⟩ : ∃ f, j = 16 + 26 * n + f := ⟨j - (16 + 26 * n), by omega⟩
      rw [show 16 + 26 * n + f - (16 + 26 * n) = f by omega]
      unfold stF
      by_cases c0 : f = 0
      · subst c0; rw [if_neg (by omega), if_neg (by omega), if_neg (by omega), if_neg (by omega), if_neg (by omega), if_neg (by omega), if_neg (by omega), if_neg (by omega), if_pos rfl]; rfl
      by_cases c1 : f = 1
      · subst c1; rw [if_neg (by omega), if_neg (by omega), if_neg (by omega), if_neg (by omega), if_neg (by omega), if_neg (by omega), if_neg (by omega), if_pos rfl]; rfl
      by_cases c2 : f = 2
      · subst c2; rw [if_neg (by omega), if_neg (by omega), if_neg (by omega), if_neg (by omega), if_neg (by omega), if_neg (by omega), if_pos rfl]; rfl
      by_cases c4 : f = 4
      · subst c4; rw [if_neg (by omega), if_neg (by omega), if_neg (by omega), if_neg (by omega), if_neg (by omega), if_pos rfl]; rfl
      by_cases c5 : f = 5
      · subst c5; rw [if_neg (by omega), if_neg (by omega), if_neg (by omega), if_neg (by omega), if_pos rfl]; rfl
      by_cases c6 : f = 6
      · subst c6; rw [if_neg (by omega), if_neg (by omega), if_neg (by omega), if_pos rfl]; rfl
      by_cases c9 : f = 9
      · subst c9; rw [if_neg (by omega), if_neg (by omega), if_pos rfl]; rfl
      by_cases c18 : f = 18
      · subst c18; rw [if_pos rfl]; rfl
      rw [if_neg (show ¬ 16 + 26 * n + f = 16 + 26 * n + 18 by omega)]
      by_cases cr : 10 ≤ f ∧ f < 10 + k
      · rw [if_pos (by omega), show 16 + 26 * n + f - (16 + 26 * n + 10) = f - 10 by omega, if_neg c0, if_neg c1, if_neg c2, if_neg c4, if_neg c5, if_neg c6, if_neg c9, if_neg c18, if_pos cr]
      · rw [if_neg (show ¬ (16 + 26 * n + 10 ≤ 16 + 26 * n + f ∧ 16 + 26 * n + f < 16 + 26 * n + 10 + k) by omega), if_neg (show ¬ 16 + 26 * n + f = 16 + 26 * n + 9 by omega), if_neg (show ¬ 16 + 26 * n + f = 16 + 26 * n + 6 by omega), if_neg (show ¬ 16 + 26 * n + f = 16 + 26 * n + 5 by omega), if_neg (show ¬ 16 + 26 * n + f = 16 + 26 * n + 4 by omega), if_neg (show ¬ 16 + 26 * n + f = 16 + 26 * n + 2 by omega), if_neg (show ¬ 16 + 26 * n + f = 16 + 26 * n + 1 by omega), if_neg (show ¬ 16 + 26 * n + f = 16 + 26 * n + 0 by omega), if_pos (by omega), if_neg c0, if_neg c1, if_neg c2, if_neg c4, if_neg c5, if_neg c6, if_neg c9, if_neg c18, if_neg cr]
    · rw [if_neg cb, if_neg (show ¬ j = 16 + 26 * n + 18 by omega), if_neg (show ¬ (16 + 26 * n + 10 ≤ j ∧ j < 16 + 26 * n + 10 + k) by omega), if_neg (show ¬ j = 16 + 26 * n + 9 by omega), if_neg (show ¬ j = 16 + 26 * n + 6 by omega), if_neg (show ¬ j = 16 + 26 * n + 5 by omega), if_neg (show ¬ j = 16 + 26 * n + 4 by omega), if_neg (show ¬ j = 16 + 26 * n + 2 by omega), if_neg (show ¬ j = 16 + 26 * n + 1 by omega), if_neg (show ¬ j = 16 + 26 * n + 0 by omega), if_neg (show ¬ (16 + 26 * n ≤ j ∧ j < 16 + 26 * n + 26) by omega)]
      by_cases c2 : j = 2
      · rw [if_pos c2, if_pos c2]
      · rw [if_neg c2, if_neg c2]
  obtain ⟨M5, e5, w5, r5, f5⟩ := m229 (m := E) (w := startW w n (stF t g u sh (h + 2 * s + 24) k h r)) rowE (by rw [st_o (by omega) (by omega)]; exact hw3) 0 n h
  have g0 : (0 : Int32) ≤ 0 ∧ (0 : Int32).toNatClampNeg < 626 := by decide
  have e0 : (0 : Int32).toNatClampNeg = 0 := by decide
  refine ⟨M5, fun d => ?_, w5, by rw [r5, hE, hD, hB, hA, hm0]; rfl, fun b hb => by rw [f5 b hb, hE, lm_i_ne hb, hD, fD k b hb]⟩
  -- the route, and what follows
  have last : ∀ d, L223_227 (d + 1) 711 (nI t) (nI g) (nI u) (nI sh) (nI n) 0 B = some (some (.inl (nI n)), M5) := fun d => by
    have key := lp_it (F := fun i (_ : Unit) => L223_227 (d + 1) 711 (nI t) (nI g) (nI u) (nI sh) (nI n) (nI i) (pR 712 (16 + 26 * n + 10) r i B)) (K := some (some (.inl (nI n)), M5)) k ?_ ?_ ()
    · have key : L223_227 (d + 1) 711 (nI t) (nI g) (nI u) (nI sh) (nI n) (nI 0) (pR 712 (16 + 26 * n + 10) r 0 B) = _ := key
      rw [pR_0] at key
      exact key
    · intro i _ hi
      refine ⟨(), ?_⟩
      rw [E223_227 _ _ _ _ _ _ _ _ sy, fD i 711 (by decide), h26, if_neg (by rw [sp_len (by omega) (by omega)]; omega), lt_gd_t (sp_gd (by omega) (by omega)), nI_clamp (by omega), fD i (711 + 12) (by decide), show m.1 (711 + 12) i = nI (r i) from hr i hi, q_10, nI_add, m228 d hn (by omega), lt_cV_s, nI_1, ← Nat.add_assoc, pR_s]
    · intro _
      rw [← hD, E223_227 _ _ _ _ _ _ _ _ sy, show D.1 711 26 = nI k by rw [hD, fD k 711 (by decide)]; exact h26, if_pos (by rw [sp_len (by omega) (by omega)]; exact Nat.le_refl _), lt_gd_t g0, e0, show D.1 (711 + 1) 0 = nI h from D0, show (18 : Int32) = nI 18 from rfl, m228 d hn (by omega), lt_cV_s, ← hE, lt_gd_t (show (0 : Int32) ≤ 0 ∧ 0 < 626 by decide), show E.1 (711 + 1) 0 = nI h from E0]
      have := e5 d
      rw [nI_0] at this
      rw [this, lt_cV_s]
  have key := lp_it (F := fun i (_ : Unit) => L223_125 (d + 1) 711 (nI t) (nI g) (nI u) (nI sh) (nI n) (nI i) (pR 712 (16 + 26 * n) (fun _ => 0) i m0)) (K := some (some (.inl (nI n)), M5)) 26 ?_ ?_ ()
  · have key : L223_125 (d + 1) 711 (nI t) (nI g) (nI u) (nI sh) (nI n) (nI 0) (pR 712 (16 + 26 * n) (fun _ => 0) 0 m0) = _ := key
    rw [pR_0, nI_0] at key
    rw [← hm0]
    exact key
  · intro i _ hi
    refine ⟨(), ?_⟩
    have := pR_s (b0 := 712) (off := 16 + 26 * n) (r := fun _ => 0) (i := i) (m := m0)
    rw [E223_125 _ _ _ _ _ _ _ _ sy, if_neg (by rw [show (26 : Int32) = nI 26 from rfl, sp_len (by omega) (by omega)]; omega), m228 d hn (by omega), lt_cV_s, nI_1, show (0 : Int32) = nI ((fun _ => 0) i) from rfl, this]
  · intro _
    have B27 : ∀ (X : lt_m), (∀ b, b ≠ 712 → X.1 b = m.1 b) → X.1 711 27 = nI s := fun X hX => by rw [hX 711 (by decide)]; exact h27
    have hc4 : ∀ b, b ≠ 712 → (lm_i (lm_i (lm_i (lm_i A 712 (16 + 26 * n + 0) (nI t)) 712 (16 + 26 * n + 1) (nI g)) 712 (16 + 26 * n + 2) (nI u)) 712 (16 + 26 * n + 4) (nI sh)).1 b = m.1 b := fun b hb => by rw [lm_i_ne hb, lm_i_ne hb, lm_i_ne hb, lm_i_ne hb, fA b hb]
    have hc0 : (lm_i (lm_i (lm_i (lm_i A 712 (16 + 26 * n + 0) (nI t)) 712 (16 + 26 * n + 1) (nI g)) 712 (16 + 26 * n + 2) (nI u)) 712 (16 + 26 * n + 4) (nI sh)).1 (711 + 1) 0 = nI h := by
      show (lm_i (lm_i (lm_i (lm_i A 712 _ _) 712 _ _) 712 _ _) 712 _ _).1 712 0 = nI h
      rw [lm_i_ns (by omega), lm_i_ns (by omega), lm_i_ns (by omega), lm_i_ns (by omega), A0]
    have hc6 : ∀ X : lt_m, (∀ b, b ≠ 712 → X.1 b = m.1 b) → X.1 711 26 = nI k := fun X hX => by rw [hX 711 (by decide)]; exact h26
    rw [← hA, E223_125 _ _ _ _ _ _ _ _ sy, if_pos (by decide), show (0 : Int32) = nI 0 from rfl, m228 d hn (by omega), lt_cV_s, q_1, m228 d hn (by omega), lt_cV_s, q_2, m228 d hn (by omega), lt_cV_s, q_4, m228 d hn (by omega), lt_cV_s]
    rw [lt_gd_t (by decide), show (nI 0).toNatClampNeg = 0 from e0, hc0, B27 _ hc4, q_24, pk_mul, nI_add, nI_add, q_5, m228 d hn (by omega), lt_cV_s, q_6, m228 d hn (by omega), lt_cV_s, hc6 _ (fun b hb => by rw [lm_i_ne hb, lm_i_ne hb, hc4 b hb]), q_9, m228 d hn (by omega), lt_cV_s, ← hB]
    exact last d
/-- what reading a ROUTE makes of class and reference -/
theorem rd_C (hC : CS dist wl T S m) (hA : ts_sh m.2.2.1 = (0, 5)) (hn : nR S.N m.2.2.1 m) (hN : wfN S.N) : ∃ M, (∀ d, lt_ev (d + 4) 101 [.inr (.inr (some 6)), .inr (.inr (some 1)), .inr (.inr (some m.2.2.1))] m = some (none, M)) ∧ CS dist wl T S.rd M ∧ cfr m M ∧ match rtN S.N.2.2.1 S.N.1 S.tx S.tk 8 0 (fun _ => 0) 0 0 with
  | .inl e => M.1 1 2 = nI e
  | .inr (k, r, s) => M.1 1 2 = -1 ∧ M.1 6 1 = nI k ∧ M.1 6 2 = nI s ∧ ∀ j, j < k → M.1 7 j = nI (r j) := by
  have hA2 : 13 ≤ m.2.2.1 := by
    obtain ⟨⟨A, B, n1, n2, n3, -⟩, -⟩ := hC
    omega
  obtain ⟨M, e, f, g, h⟩ := k101 (tx := S.tx) (tk := S.tk) hA hA2 hN hC.2.1 hn
  exact ⟨M, e, CS_rd (fun b b1 b2 => f.1 b (by omega) (by omega) (by omega) (by omega)) (by rw [f.2]; exact ⟨rfl, rfl⟩) g hC, f, h⟩
theorem rd_M (hM : MS S m) (htk : S.tk ≤ 200) (h256 : ∀ j, j < S.tk → S.tx j < 256) (hN : wfN S.N) : ∃ M, (∀ d, lt_ev (d + 4) 224 [.inr (.inr (some 711))] m = some (none, M)) ∧ MS S.rd M ∧ mfr m M ∧ match rtN S.N.2.2.1 S.N.1 S.tx S.tk 8 0 (fun _ => 0) 0 0 with
  | .inl e => e ≤ 200 ∧ M.1 711 18 = nI e
  | .inr (k, r, s) => M.1 711 18 = -1 ∧ M.1 711 26 = nI k ∧ M.1 711 27 = nI s ∧ ∀ j, j < k → M.1 723 j = nI (r j) := by
  obtain ⟨M, e, f, g, h⟩ := m224 (w := S.w) (tx := S.tx) (tk := S.tk) hN htk hM.2.1.1 (fun j hj => ⟨h256 j hj, hM.2.1.2 j hj⟩) (MS_ml hM)
  refine ⟨M, e, MS_rd (fun b k h1 h2 h3 => f.1 b k ?_) g hM, f, h⟩
  rintro (rfl | ⟨rfl, q⟩)
  · exact absurd h3 (by unfold scr; simp)
  · rcases q with rfl | rfl | rfl | rfl | rfl | rfl
    · exact h2 ⟨rfl, rfl⟩
    · exact absurd h3 (by decide)
    · exact absurd h3 (by decide)
    · exact absurd h3 (by decide)
    · exact absurd h3 (by decide)
    · exact absurd h3 (by decide)
end ST2

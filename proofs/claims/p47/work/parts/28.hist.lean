/-! ===== the two halves of the relation; the history ===== -/
def ST : Type := NT × (Nat → Nat) × (Nat → Nat) × Nat × Int32 × Nat × Nat × (Nat → Nat → Nat) × Nat × (Nat → Nat)
abbrev ST.mk (N : NT) (w : Nat → Nat) (tx : Nat → Nat) (tk : Nat) (z : Int32) (D l : Nat) (pw : Nat → Nat → Nat) (kb : Nat) (kw : Nat → Nat) : ST := (N, w, tx, tk, z, D, l, pw, kb, kw)
abbrev ST.N (S : ST) : NT := S.1
abbrev ST.w (S : ST) : Nat → Nat := S.2.1
abbrev ST.tx (S : ST) : Nat → Nat := S.2.2.1
abbrev ST.tk (S : ST) : Nat := S.2.2.2.1
abbrev ST.z (S : ST) : Int32 := S.2.2.2.2.1
abbrev ST.D (S : ST) : Nat := S.2.2.2.2.2.1
abbrev ST.l (S : ST) : Nat := S.2.2.2.2.2.2.1
abbrev ST.pw (S : ST) : Nat → Nat → Nat := S.2.2.2.2.2.2.2.1
abbrev ST.kb (S : ST) : Nat := S.2.2.2.2.2.2.2.2.1
abbrev ST.kw (S : ST) : Nat → Nat := S.2.2.2.2.2.2.2.2.2
abbrev ST.setw (S : ST) (w' : Nat → Nat) : ST := ST.mk S.N w' S.tx S.tk S.z S.D S.l S.pw S.kb S.kw
abbrev DT : Type := NT → Nat → Nat → Nat
/-- the class's half -/
def CS (dist wl : DT) (T : Nat) (S : ST) (m : lt_m) : Prop := (∃ A B, m.2.2.1 = A ∧ m.2.2.2.1 = B ∧ (A = 695 ∧ B = 703 ∨ A = 703 ∧ B = 695) ∧ wfN S.N ∧ nR S.N A m ∧ m.1 A 7 = S.z ∧ wyR S.N (dist S.N) (wl S.N) A m) ∧
  (S.tk ≤ 200 ∧ m.1 2 1 = nI S.tk ∧ ∀ j, j < S.tk → S.tx j < 256 ∧ m.1 3 j = nI (S.tx j)) ∧ LED S.N S.w 13 T m ∧
  (S.D ≤ 8 ∧ S.l < 8 ∧ m.1 81 4 = nI S.D ∧ m.1 81 3 = nI S.l ∧ (∀ j, j < S.D → LED S.N (S.pw j) (151 + 68 * ((S.l + 8 - (S.D - 1 - j)) % 8)) T m) ∧ S.kb ≤ 1 ∧ m.1 81 2 = nI S.kb ∧ (S.kb = 1 → LED S.N S.kw 83 T m)) ∧ nmR 13 m ∧ nmR 83 m ∧ ∀ j, j < 8 → nmR (151 + 68 * j) m
section HIST
variable {dist wl : DT} {T : Nat} {S : ST} {m m' : lt_m} {vs : List Int32}
theorem CS_fr (h : ∀ b k, b < 711 → scr b k = false → m'.1 b k = m.1 b k) (hr : m'.2.2.1 = m.2.2.1 ∧ m'.2.2.2.1 = m.2.2.2.1) (hm : CS dist wl T S m) : CS dist wl T S m' := by
  obtain ⟨⟨A, B, n1, n2, n3, n4, n5, n6, n7⟩, ⟨t1, t2, t4⟩, h3, ⟨i1, i2, i3, i5, i6, i7, i8, i10⟩, i11, i12, i13⟩ := hm
  have c := fun b (g1 : 13 ≤ b) (g2 : b < 711) => (funext fun k => h b k g2 (scr_mid g1 g2) : m'.1 b = m.1 b)
  have hL : ∀ L, 13 ≤ L → L + 68 ≤ 711 → ∀ b, L ≤ b → b < L + 68 → m'.1 b = m.1 b := fun L h1 h2 b g1 g2 => c b (by omega) (by omega)
  have hA : ∀ b, A ≤ b → b < A + 8 → m'.1 b = m.1 b := fun b g1 g2 => c b (by omega) (by omega)
  have hm8 : ∀ j, (S.l + 8 - (S.D - 1 - j)) % 8 < 8 := fun j => Nat.mod_lt _ (by decide)
  refine ⟨⟨A, B, hr.1.trans n1, hr.2.trans n2, n3, n4, nR_fr hA n5, ?_, ?_⟩, ⟨t1, ?_, fun j hj => ⟨(t4 j hj).1, ?_⟩⟩, LED_fr (hL 13 (by omega) (by omega)) h3, ⟨i1, i2, ?_, ?_, fun j hj => LED_fr (hL _ (by omega) (by have := hm8 j; omega)) (i6 j hj), i7, ?_, fun hk => LED_fr (hL 83 (by omega) (by omega)) (i10 hk)⟩, nmR_fr (hL 13 (by omega) (by omega)) i11, nmR_fr (hL 83 (by omega) (by omega)) i12, fun j hj => nmR_fr (hL _ (by omega) (by omega)) (i13 j hj)⟩
  · rw [hA A (by omega) (by omega)]; exact n6
  · unfold wyR at n7 ⊢
    rw [hA (A + 4) (by omega) (by omega), hA (A + 6) (by omega) (by omega), hA (A + 7) (by omega) (by omega), c 701 (by omega) (by omega), c 709 (by omega) (by omega)]
    exact n7
  · rw [h 2 1 (by omega) (by decide)]; exact t2
  · rw [h 3 j (by omega) (by unfold scr; simp)]; exact (t4 j hj).2
  · rw [c 81 (by omega) (by omega)]; exact i3
  · rw [c 81 (by omega) (by omega)]; exact i5
  · rw [c 81 (by omega) (by omega)]; exact i8
/-- the class's ledger changes -/
theorem CS_led {w' : Nat → Nat} {T' : Nat} (hT : T ≤ T') (h : ∀ b, b < 711 → ¬ (13 ≤ b ∧ b < 81) → m'.1 b = m.1 b) (hr : m'.2.2.1 = m.2.2.1 ∧ m'.2.2.2.1 = m.2.2.2.1) (hl : LED S.N w' 13 T' m') (hn : nmR 13 m') (hm : CS dist wl T S m) : CS dist wl T' (S.setw w') m' := by
  obtain ⟨⟨A, B, n1, n2, n3, n4, n5, n6, n7⟩, ⟨t1, t2, t4⟩, h3, ⟨i1, i2, i3, i5, i6, i7, i8, i10⟩, i11, i12, i13⟩ := hm
  have hL : ∀ L, 81 ≤ L → L + 68 ≤ 711 → ∀ b, L ≤ b → b < L + 68 → m'.1 b = m.1 b := fun L h1 h2 b g1 g2 => h b (by omega) (by omega)
  have hA : ∀ b, A ≤ b → b < A + 8 → m'.1 b = m.1 b := fun b g1 g2 => h b (by omega) (by omega)
  have hm8 : ∀ j, (S.l + 8 - (S.D - 1 - j)) % 8 < 8 := fun j => Nat.mod_lt _ (by decide)
  refine ⟨⟨A, B, hr.1.trans n1, hr.2.trans n2, n3, n4, nR_fr hA n5, ?_, ?_⟩, ⟨t1, ?_, fun j hj => ⟨(t4 j hj).1, ?_⟩⟩, hl, ⟨i1, i2, ?_, ?_, fun j hj => LED_mono hT (LED_fr (hL _ (by omega) (by have := hm8 j; omega)) (i6 j hj)), i7, ?_, fun hk => LED_mono hT (LED_fr (hL 83 (by omega) (by omega)) (i10 hk))⟩, hn, nmR_fr (hL 83 (by omega) (by omega)) i12, fun j hj => nmR_fr (hL _ (by omega) (by omega)) (i13 j hj)⟩
  · rw [hA A (by omega) (by omega)]; exact n6
  · unfold wyR at n7 ⊢
    rw [hA (A + 4) (by omega) (by omega), hA (A + 6) (by omega) (by omega), hA (A + 7) (by omega) (by omega), h 701 (by omega) (by omega), h 709 (by omega) (by omega)]
    exact n7
  · rw [h 2 (by omega) (by omega)]; exact t2
  · rw [h 3 (by omega) (by omega)]; exact (t4 j hj).2
  · rw [h 81 (by omega) (by omega)]; exact i3
  · rw [h 81 (by omega) (by omega)]; exact i5
  · rw [h 81 (by omega) (by omega)]; exact i8
/-- what is remembered -/
abbrev ST.rem (S : ST) : ST := ST.mk S.N S.w S.tx S.tk S.z (min (S.D + 1) 8) ((S.l + 1) % 8) (fun j => if S.D = 8 then (if j < 7 then S.pw (j + 1) else S.w) else if j < S.D then S.pw j else S.w) S.kb S.kw
set_option maxRecDepth 10000 in
theorem s81 : ts_sh 81 = (0, 1) := by decide +kernel
set_option maxRecDepth 10000 in
theorem s83 : ts_sh 83 = (0, 2) := by decide +kernel
set_option maxRecDepth 10000 in
theorem s151_all : ∀ j, j < 8 → ts_sh (151 + 68 * j) = (0, 2) := by decide +kernel
theorem v82_at {l : Nat} (hl : l < 8) (h : m.1 81 3 = nI l) : v82 m 81 = some (151 + 68 * l) := by
  unfold v82
  rw [h]
  simp (disch := omega) only [q_0, q_8, sp_ltn, sp_len, nI_clamp]
  rw [if_neg (by omega), if_neg (by omega)]
theorem k81 (h : CS dist wl T S m) : ∃ m', (∀ d, lt_ev (d + 4) 81 [.inr (.inr (some 81)), .inr (.inr (some 13))] m = some (none, m')) ∧ CS dist wl T S.rem m' ∧ m'.2 = m.2 ∧ (∀ b, b < 81 ∨ 695 ≤ b → m'.1 b = m.1 b) := by
  have h' := h
  obtain ⟨⟨A, B, n1, n2, n3, n4, n5, n6, n7⟩, ⟨t1, t2, t4⟩, h3, ⟨i1, i2, i3, i5, i6, i7, i8, i10⟩, i11, i12, i13⟩ := h
  obtain ⟨l', hl'⟩ : ∃ l', l' = (S.l + 1) % 8 := ⟨_, rfl⟩
  have bl : l' < 8 := by rw [hl']; exact Nat.mod_lt _ (by decide)
  obtain ⟨M1, hM1⟩ : ∃ M1, M1 = lm_i (lm_i m 81 3 (nI l')) 81 4 (nI (min (S.D + 1) 8)) := ⟨_, rfl⟩
  have f1 : ∀ b, b ≠ 81 → M1.1 b = m.1 b := fun b hb => by rw [hM1, lm_i_ne hb, lm_i_ne hb]
  have f813 : M1.1 81 3 = nI l' := by rw [hM1, lm_i_ns (by omega)]; exact lm_i_eq
  have f814 : M1.1 81 4 = nI (min (S.D + 1) 8) := by rw [hM1]; exact lm_i_eq
  have f812 : M1.1 81 2 = nI S.kb := by rw [hM1, lm_i_ns (by omega), lm_i_ns (by omega)]; exact i8
  have hn13 : nmR 13 M1 := nmR_fr (fun b g1 g2 => f1 b (by omega)) i11
  have hnl : nmR (151 + 68 * l') M1 := nmR_fr (fun b g1 g2 => f1 b (by omega)) (i13 l' bl)
  have hl13 : LED S.N S.w 13 T M1 := LED_fr (fun b g1 g2 => f1 b (by omega)) h3
  refine ⟨cpS pLL (151 + 68 * l') 13 M1, fun d => ?_, ?_, by rw [hM1]; rfl, fun b hb => by rw [cp_out (by omega)]; exact f1 b (by omega)⟩
  · refine (E81 (d + 3) 81 13 s81 sL m).trans ?_
    simp only [lt_let]
    have e1 : lm_i m 81 3 ((m.1 81 3 + (1 : Int32)) - (m.1 81 3 + (1 : Int32)) / (8 : Int32) * (8 : Int32)) = lm_i m 81 3 (nI l') := by
      rw [i5, nI_1, q_8, pk_rem (by omega) (by decide) (by decide), hl']
    rw [e1]
    have e2 : lm_min ((lm_i m 81 3 (nI l')).1 81 4 + (1 : Int32)) (8 : Int32) = nI (min (S.D + 1) 8) := by
      rw [lm_i_ns (by omega), i3, nI_1, q_8, sp_min (by omega) (by decide)]
    rw [e2, ← hM1, p82 (d + 2) 81 s81 M1, lt_cR_s, v82_at bl f813, lt_nl_s, lt_gd_t (s151_all l' bl)]
    have := k83 (m := M1) d (s := 13) (t := 151 + 68 * l') (by omega) (s151_all l' bl) sL hn13
    rw [this, lt_cV_s]
  · have c1 : ∀ b, ¬ (b = 81 ∨ (151 + 68 * l' ≤ b ∧ b < 151 + 68 * l' + 68)) → (cpS pLL (151 + 68 * l') 13 M1).1 b = m.1 b := fun b hb => by
      rw [cp_out (by omega)]; exact f1 b (by omega)
    have hL : ∀ L, (13 ≤ L ∧ L + 68 ≤ 81 ∨ 83 ≤ L) → (L + 68 ≤ 151 + 68 * l' ∨ 151 + 68 * l' + 68 ≤ L) → ∀ b, L ≤ b → b < L + 68 → (cpS pLL (151 + 68 * l') 13 M1).1 b = m.1 b := fun L h1 h2 b g1 g2 => c1 b (by omega)
    have hA : ∀ b, A ≤ b → b < A + 8 → (cpS pLL (151 + 68 * l') 13 M1).1 b = m.1 b := fun b g1 g2 => c1 b (by omega)
    have hr : (cpS pLL (151 + 68 * l') 13 M1).2 = m.2 := by rw [hM1]; rfl
    have hnew : LED S.N S.w (151 + 68 * l') T (cpS pLL (151 + 68 * l') 13 M1) := cp_LED hl13 hnl
    refine ⟨⟨A, B, by rw [hr]; exact n1, by rw [hr]; exact n2, n3, n4, nR_fr hA n5, ?_, ?_⟩, ⟨t1, ?_, fun j hj => ⟨(t4 j hj).1, ?_⟩⟩, LED_fr (hL 13 (by omega) (by omega)) h3, ⟨?_, ?_, ?_, ?_, fun j hj => ?_, i7, ?_, fun hk => LED_fr (hL 83 (by omega) (by omega)) (i10 hk)⟩, nmR_fr (hL 13 (by omega) (by omega)) i11, nmR_fr (hL 83 (by omega) (by omega)) i12, fun j hj => ?_⟩
    · rw [hA A (by omega) (by omega)]; exact n6
    · have n7' := n7
      unfold wyR at n7' ⊢
      rw [hA (A + 4) (by omega) (by omega), hA (A + 6) (by omega) (by omega), hA (A + 7) (by omega) (by omega), c1 701 (by omega), c1 709 (by omega)]
      exact n7'
    · rw [c1 2 (by omega)]; exact t2
    · rw [c1 3 (by omega)]; exact (t4 j hj).2
    · show min (S.D + 1) 8 ≤ 8; omega
    · show (S.l + 1) % 8 < 8; omega
    · rw [cp_out (by omega)]; exact f814
    · rw [cp_out (by omega), f813, hl']
    · have hj : j < min (S.D + 1) 8 := hj
      show LED S.N (if S.D = 8 then (if j < 7 then S.pw (j + 1) else S.w) else if j < S.D then S.pw j else S.w) (151 + 68 * (((S.l + 1) % 8 + 8 - (min (S.D + 1) 8 - 1 - j)) % 8)) T _
      by_cases c8 : S.D = 8
      · rw [if_pos c8]
        by_cases c7 : j < 7
        · rw [if_pos c7]
          have e : ((S.l + 1) % 8 + 8 - (min (S.D + 1) 8 - 1 - j)) % 8 = (S.l + 8 - (S.D - 1 - (j + 1))) % 8 := by omega
          rw [e]
          have hne : (S.l + 8 - (S.D - 1 - (j + 1))) % 8 ≠ l' := by omega
          exact LED_fr (hL _ (by omega) (by omega)) (i6 (j + 1) (by omega))
        · rw [if_neg c7]
          have e : ((S.l + 1) % 8 + 8 - (min (S.D + 1) 8 - 1 - j)) % 8 = l' := by omega
          rw [e]
          exact hnew
      · rw [if_neg c8]
        by_cases c7 : j < S.D
        · rw [if_pos c7]
          have e : ((S.l + 1) % 8 + 8 - (min (S.D + 1) 8 - 1 - j)) % 8 = (S.l + 8 - (S.D - 1 - j)) % 8 := by omega
          rw [e]
          have hne : (S.l + 8 - (S.D - 1 - j)) % 8 ≠ l' := by omega
          exact LED_fr (hL _ (by omega) (by omega)) (i6 j c7)
        · rw [if_neg c7]
          have e : ((S.l + 1) % 8 + 8 - (min (S.D + 1) 8 - 1 - j)) % 8 = l' := by omega
          rw [e]
          exact hnew
    · rw [cp_out (by omega)]; exact f812
    · by_cases e : j = l'
      · subst e
        exact cp_nm hn13 hnl
      · exact nmR_fr (hL _ (by omega) (by omega)) (i13 j hj)
/-- a range copied -/
def cpR (a2 o2 a1 o1 n : Nat) (m : lt_m) : lt_m := (fun b k => if b = a2 ∧ o2 ≤ k ∧ k < o2 + n then m.1 a1 (o1 + (k - o2)) else m.1 b k, m.2)
theorem cpR_0 {a2 o2 a1 o1 : Nat} : cpR a2 o2 a1 o1 0 m = m := by
  refine Prod.ext (funext fun b => funext fun k => ?_) rfl
  show (if _ then _ else _) = _
  rw [if_neg (by omega)]
theorem cpR_s {a2 o2 a1 o1 n : Nat} (h : a1 ≠ a2 ∨ o2 ≤ o1) : lm_i (cpR a2 o2 a1 o1 n m) a2 (o2 + n) ((cpR a2 o2 a1 o1 n m).1 a1 (o1 + n)) = cpR a2 o2 a1 o1 (n + 1) m := by
  refine Prod.ext (funext fun b => funext fun k => ?_) rfl
  show (if b = a2 ∧ k = o2 + n then (if a1 = a2 ∧ o2 ≤ o1 + n ∧ o1 + n < o2 + n then _ else m.1 a1 (o1 + n)) else (if b = a2 ∧ o2 ≤ k ∧ k < o2 + n then m.1 a1 (o1 + (k - o2)) else m.1 b k)) = if b = a2 ∧ o2 ≤ k ∧ k < o2 + (n + 1) then m.1 a1 (o1 + (k - o2)) else m.1 b k
  by_cases c1 : b = a2 ∧ k = o2 + n
  · rw [if_pos c1, if_neg (by omega), if_pos (by omega), show o1 + (k - o2) = o1 + n by omega]
  · rw [if_neg c1]
    by_cases c2 : b = a2 ∧ o2 ≤ k ∧ k < o2 + n
    · rw [if_pos c2, if_pos (by omega)]
    · rw [if_neg c2, if_neg (by omega)]
theorem cpR_ne {a2 o2 a1 o1 n b : Nat} (h : b ≠ a2) : (cpR a2 o2 a1 o1 n m).1 b = m.1 b := funext fun k => if_neg fun q => h q.1
theorem cpR_in {a2 o2 a1 o1 n k : Nat} (h1 : o2 ≤ k) (h2 : k < o2 + n) : (cpR a2 o2 a1 o1 n m).1 a2 k = m.1 a1 (o1 + (k - o2)) := if_pos ⟨rfl, h1, h2⟩
theorem cpR_out {a2 o2 a1 o1 n k : Nat} (h1 : k < o2 ∨ o2 + n ≤ k) : (cpR a2 o2 a1 o1 n m).1 a2 k = m.1 a2 k := if_neg (by omega)
end HIST

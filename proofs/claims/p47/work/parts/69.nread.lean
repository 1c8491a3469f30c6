/-! ===== a NET told by a text: the class reads ===== -/
section NRD
variable {B : Nat} {tx : Nat → Nat} {tk : Nat}
def gfr (B : Nat) (m M : lt_m) : Prop := (∀ b, b ≠ 1 → b ≠ 2 → ¬ (B ≤ b ∧ b < B + 8) → M.1 b = m.1 b) ∧ M.2 = m.2
theorem gfr_rf (m : lt_m) : gfr B m m := ⟨fun _ _ _ _ => rfl, rfl⟩
theorem gfr_tr {a b c : lt_m} (h1 : gfr B a b) (h2 : gfr B b c) : gfr B a c := ⟨fun x q1 q2 q3 => (h2.1 x q1 q2 q3).trans (h1.1 x q1 q2 q3), h2.2.trans h1.2⟩
theorem gfr_i {m : lt_m} {a k : Nat} {v : Int32} (h : a = 1 ∨ a = 2 ∨ (B ≤ a ∧ a < B + 8)) : gfr B m (lm_i m a k v) := ⟨fun b q1 q2 q3 => lm_i_ne (by rintro rfl; omega), rfl⟩
theorem gfr_1 {m M : lt_m} (h : ∀ b, b ≠ 1 → M.1 b = m.1 b) (r : M.2 = m.2) : gfr B m M := ⟨fun b q1 _ _ => h b q1, r⟩
/-- the draft with countries so far -/
def d0R (B k : Nat) (c : Nat → Nat) (m : lt_m) : Prop := m.1 B 6 = nI k ∧ m.1 B 7 = 0 ∧ m.1 B 8 = 0 ∧ (∀ j, j < k → m.1 (B + 1) j = nI (c j)) ∧ (∀ j, j < 144 → m.1 (B + 3) j = 0) ∧ ∀ j, j < 12 → m.1 (B + 5) j = 0
theorem d0_fr {m M : lt_m} {k : Nat} {c : Nat → Nat} (h : ∀ b, B ≤ b → b < B + 8 → M.1 b = m.1 b) (hd : d0R B k c m) : d0R B k c M := by
  unfold d0R at hd ⊢
  rw [h B (by omega) (by omega), h (B + 1) (by omega) (by omega), h (B + 3) (by omega) (by omega), h (B + 5) (by omega) (by omega)]
  exact hd
theorem k33 {a n : Nat} (ha : ts_sh a = (1, n)) (hn : n ≤ 5008) (m : lt_m) : ∀ d, lt_ev (d + 1) 33 [.inr (.inr (some a))] m = some (none, pR a 0 (fun _ => 0) n m) := by
  intro d
  refine (E33 d a n ha m).trans ?_
  have key := lp_it (F := fun i (_ : Unit) => L33_2 d a n (nI i) (pR a 0 (fun _ => 0) i m)) (K := some (none, pR a 0 (fun _ => 0) n m)) n ?_ ?_ ()
  · have key : L33_2 d a n (nI 0) (pR a 0 (fun _ => 0) 0 m) = _ := key
    rw [pR_0] at key
    exact key
  · intro i _ hi
    refine ⟨(), ?_⟩
    have := pR_s (b0 := a) (off := 0) (r := fun _ => 0) (i := i) (m := m)
    rw [Nat.zero_add] at this
    rw [E33_2 _ _ _ _ ha, show Int32.ofNat n = nI n from rfl, if_neg (by rw [sp_len (by omega) (by omega)]; omega), lt_gd_t (sp_gd hi (by omega)), nI_clamp (by omega), nI_1, show (0 : Int32) = nI ((fun _ => 0) i) from rfl, this]
  · intro _
    rw [E33_2 _ _ _ _ ha, show Int32.ofNat n = nI n from rfl, if_pos (by rw [sp_len (by omega) (by omega)]; exact Nat.le_refl _)]
theorem k32 (hB : ts_sh B = (0, 5)) (m : lt_m) : ∃ M, (∀ d, lt_ev (d + 2) 32 [.inr (.inr (some B))] m = some (none, M)) ∧ d0R B 0 (fun _ => 0) M ∧ (∀ b, ¬ (B ≤ b ∧ b < B + 8) → M.1 b = m.1 b) ∧ M.2 = m.2 ∧ M.1 (B + 6) = m.1 (B + 6) := by
  have s3 : ts_sh (B + 3) = (1, 144) := sf_of hB 2 (by decide) (by decide)
  have s5 : ts_sh (B + 5) = (1, 12) := sf_of hB 4 (by decide) (by decide)
  refine ⟨pR (B + 5) 0 (fun _ => 0) 12 (pR (B + 3) 0 (fun _ => 0) 144 (lm_i (lm_i (lm_i m B 6 0) B 7 0) B 8 0)), fun d => ?_, ⟨?_, ?_, ?_, fun j hj => absurd hj (Nat.not_lt_zero _), fun j hj => ?_, fun j hj => ?_⟩, fun b hb => ?_, rfl, ?_⟩
  · refine (E32 (d + 1) B hB m).trans ?_
    rw [k33 s3 (by decide), lt_cV_s, k33 s5 (by decide), lt_cV_s]
  · rw [pR_ne (by omega), pR_ne (by omega), lm_i_ns (by omega), lm_i_ns (by omega), lm_i_eq]; rfl
  · rw [pR_ne (by omega), pR_ne (by omega), lm_i_ns (by omega), lm_i_eq]
  · rw [pR_ne (by omega), pR_ne (by omega), lm_i_eq]
  · rw [pR_ne (by omega), pR_if, if_pos (by omega)]; rfl
  · rw [pR_if, if_pos (by omega)]; rfl
  · rw [pR_ne (by omega), pR_ne (by omega), lm_i_ne (by omega), lm_i_ne (by omega), lm_i_ne (by omega)]
  · rw [pR_ne (by omega), pR_ne (by omega), lm_i_ne (by omega), lm_i_ne (by omega), lm_i_ne (by omega)]
theorem nu1 {p : Nat} (h : 48 ≤ sg tx tk p ∧ sg tx tk p ≤ 53) : nuN tx tk 1 0 6 p = .inr (sg tx tk p - 48, p + 1) := by
  have e : rdN tx tk 1 0 0 p = (1, sg tx tk p - 48, p + 1) := by
    show (if (48 ≤ sg tx tk p ∧ sg tx tk p ≤ 57) ∧ ((0 : Nat) = 0 ∨ 0 < 0) then rdN tx tk 0 (0 + 1) (10 * 0 + (sg tx tk p - 48)) (p + 1) else (0, 0, p)) = _
    rw [if_pos ⟨⟨h.1, by omega⟩, Or.inl rfl⟩]
    show ((1 : Nat), 10 * 0 + (sg tx tk p - 48), p + 1) = _
    rw [Nat.mul_zero, Nat.zero_add]
  unfold nuN
  rw [e]
  unfold nuR
  rw [if_neg (by simp), if_pos (show 0 ≤ sg tx tk p - 48 ∧ sg tx tk p - 48 < 6 by omega)]
/-- what reading countries leaves -/
def ctE (B : Nat) (tx : Nat → Nat) (tk : Nat) (M : lt_m) (x : Nat ⊕ (Nat × (Nat → Nat) × Nat)) : Prop := match x with
  | .inl e => cbd tx tk e M
  | .inr (n, c, p) => crd tx tk p M ∧ d0R B n c M
theorem k34l (hB : ts_sh B = (0, 5)) (hB2 : 13 ≤ B) : ∀ f k c p m, k + f = 12 → crd tx tk p m → d0R B k c m → ∃ M, (∀ d, L34_2 (d + 4) B 1 (nI k) m = some (none, M)) ∧ gfr B m M ∧ M.1 (B + 6) = m.1 (B + 6) ∧ ctE B tx tk M (ctP tx tk f k c p) := by
  have s1 : ts_sh (B + 1) = (1, 12) := sf_of hB 0 (by decide) (by decide)
  have stop : ∀ k c p m, k ≤ 12 → crd tx tk p m → d0R B k c m → ∃ M, (∀ d, L34_54 (d + 4) B 1 (nI k) m = some (none, M)) ∧ gfr B m M ∧ M.1 (B + 6) = m.1 (B + 6) ∧ ctE B tx tk M (if 2 ≤ k ∧ sg tx tk p = 124 then .inr (k, c, p + 1) else .inl p) := by
    intro k c p m hk h hd
    by_cases c2 : 2 ≤ k
    · by_cases cs : sg tx tk p = 124
      · obtain ⟨e1, c1⟩ := k42t (by omega) h cs
        refine ⟨lm_i m 1 1 (nI (p + 1)), fun d => ?_, gfr_i (by omega), lm_i_ne (by omega), ?_⟩
        · have e1' := e1 (d + 1)
          rw [E34_54 _ _ _ _ hB s_1, hd.1, if_pos (by rw [q_2, sp_len (by omega) (by omega)]; exact c2), show (124 : Int32) = nI 124 from rfl, e1', lt_cV_s]
        · rw [if_pos ⟨c2, cs⟩]
          exact ⟨c1, d0_fr (fun b b1 b2 => lm_i_ne (by omega)) hd⟩
      · obtain ⟨e1, c1⟩ := k42f (by omega) h cs
        refine ⟨lm_i m 1 2 (nI p), fun d => ?_, gfr_i (by omega), lm_i_ne (by omega), ?_⟩
        · have e1' := e1 (d + 1)
          rw [E34_54 _ _ _ _ hB s_1, hd.1, if_pos (by rw [q_2, sp_len (by omega) (by omega)]; exact c2), show (124 : Int32) = nI 124 from rfl, e1', lt_cV_s]
        · rw [if_neg (fun q => cs q.2)]
          exact c1
    · obtain ⟨e1, c1⟩ := k39g h
      refine ⟨lm_i m 1 2 (nI p), fun d => ?_, gfr_i (by omega), lm_i_ne (by omega), ?_⟩
      · have e2 := k42b 124 c1 (d + 1)
        rw [E34_54 _ _ _ _ hB s_1, hd.1, if_neg (by rw [q_2, sp_len (by omega) (by omega)]; exact c2), e1 (d + 3), lt_cV_s, e2, lt_cV_s]
      · rw [if_neg (fun q => c2 q.1)]
        exact c1
  intro f
  induction f with
  | zero =>
    intro k c p m hk h hd
    have hk : k = 12 := hk
    subst hk
    obtain ⟨M, e1, f1, g1, c1⟩ := stop 12 c p m (by omega) h hd
    refine ⟨M, fun d => ?_, f1, g1, ?_⟩
    · rw [E34_2 _ _ _ _ hB s_1, if_pos (by decide), e1 d]
    · simp only [ctP]
      by_cases cs : sg tx tk p = 124
      · rw [if_pos ⟨by omega, cs⟩] at c1
        rw [if_pos cs]; exact c1
      · rw [if_neg (fun q => cs q.2)] at c1
        rw [if_neg cs]; exact c1
  | succ f ih =>
    intro k c p m hk h hd
    have hp := h.2.1
    have ev := c35 h.1 hp h.2.2.1
    have head : ∀ d, L34_2 (d + 4) B 1 (nI k) m = (if v35 m 1 < 0 then (L34_54 (d + 4) B 1 (nI k) m) else (if (6 : Int32) ≤ v35 m 1 then (L34_54 (d + 4) B 1 (nI k) m) else (lt_cI (lt_ev (d + 4) 37 [.inr (.inr (some 1)), .inl (nI 0), .inl (nI 6 - 1)] m) (fun v3 m3 => (lt_cV (lt_ev (d + 4) 17 [.inr (.inr (some (B + 1))), .inl (nI k), .inl v3] m3) (fun m4 => (L34_2 (d + 4) B 1 (nI (k + 1)) (lm_i m4 B 6 ((m4.1 B 6) + (1 : Int32)))))))))) := fun d => by
      rw [E34_2 _ _ _ _ hB s_1, if_neg (by rw [q_12, sp_len (by omega) (by omega)]; omega), p35 (d + 2) 1 s_1 m, lt_cI_s, p35 (d + 2) 1 s_1 m, lt_cI_s, nI_1]
      rfl
    simp only [ctP]
    by_cases cd : 48 ≤ sg tx tk p ∧ sg tx tk p ≤ 53
    · rw [if_pos cd]
      have ev2 : v35 m 1 = nI (sg tx tk p - 48) := by rw [ev, if_pos ⟨cd.1, by omega⟩]
      rcases k37 (lo := 0) (hi1 := 6) (by omega) (by omega) h with ⟨v, p1, M1, hnu, e1, c1, f1, r1⟩ | ⟨e, M1, hnu, e1, c1, f1, r1⟩
      · rw [show dgs 6 = 1 by decide, nu1 cd] at hnu
        injection hnu with hnu
        injection hnu with hv hp1
        subst hv; subst hp1
        obtain ⟨M2, hM2⟩ : ∃ M2, M2 = lm_i (lm_i M1 (B + 1) k (nI (sg tx tk p - 48))) B 6 (nI (k + 1)) := ⟨_, rfl⟩
        have f2 : gfr B m M2 := gfr_tr (gfr_1 f1 r1) (by rw [hM2]; exact gfr_tr (gfr_i (by omega)) (gfr_i (by omega)))
        have hd1 : d0R B k c M1 := d0_fr (fun b b1 b2 => f1 b (by omega)) hd
        have hd2 : d0R B (k + 1) (wset c k (sg tx tk p - 48)) M2 := by
          obtain ⟨a1, a2, a3, a4, a5, a6⟩ := hd1
          refine ⟨by rw [hM2, lm_i_eq], by rw [hM2, lm_i_ns (by omega), lm_i_ne (by omega)]; exact a2, by rw [hM2, lm_i_ns (by omega), lm_i_ne (by omega)]; exact a3, fun j hj => ?_, by rw [hM2, lm_i_ne (by omega), lm_i_ne (by omega)]; exact a5, by rw [hM2, lm_i_ne (by omega), lm_i_ne (by omega)]; exact a6⟩
          rw [hM2, lm_i_ne (by omega)]
          by_cases e : j = k
          · subst e; rw [lm_i_eq, wset_eq]
          · rw [lm_i_ns (by omega), wset_ne e]; exact a4 j (by omega)
        obtain ⟨M, e2, f3, g3, c3⟩ := ih (k + 1) (wset c k (sg tx tk p - 48)) (p + 1) M2 (by omega) (crd_fr (fun b hb => by rw [hM2, lm_i_ne (by omega), lm_i_ne (by omega)]) c1) hd2
        refine ⟨M, fun d => ?_, gfr_tr f2 f3, by rw [g3, hM2, lm_i_ne (by omega), lm_i_ne (by omega), f1 (B + 6) (by omega)], c3⟩
        have e1' := e1 (d + 1)
        have es : (lm_i M1 (B + 1) k (nI (sg tx tk p - 48))).1 B 6 = nI k := by rw [lm_i_ne (by omega)]; exact hd1.1
        rw [head, ev2, if_neg (nI_pos (by omega)), if_neg (by rw [q_6, sp_len (by omega) (by omega)]; omega), e1', lt_cI_s, k17 (d + 3) s1 (by omega) (by decide), lt_cV_s, es, nI_1, ← hM2, e2 d]
      · rw [show dgs 6 = 1 by decide, nu1 cd] at hnu
        cases hnu
    · rw [if_neg cd]
      obtain ⟨M, e1, f1, g1, c1⟩ := stop k c p m (by omega) h hd
      refine ⟨M, fun d => ?_, f1, g1, c1⟩
      rw [head, ev]
      by_cases c9 : 48 ≤ sg tx tk p ∧ sg tx tk p ≤ 57
      · rw [if_pos c9, if_neg (nI_pos (by omega)), if_pos (by rw [q_6, sp_len (by omega) (by omega)]; omega), e1 d]
      · rw [if_neg c9, if_pos (by decide), e1 d]
/-- the draft, with roads so far -/
theorem bits_0 {p : Nat → Bool} : ∀ n, (∀ i, i < n → p i = false) → bitsN p n = 0 := by
  intro n h
  unfold bitsN
  exact sumN_zero fun i hi => by rw [h i hi]; rfl
theorem nR_0 {m : lt_m} {n : Nat} {c dd : Nat → Nat} (hn : n ≤ 12) (h : d0R B n c m) : nR (n, 0, (fun _ _ => 0), c, dd) B m := by
  obtain ⟨a1, a2, a3, a4, a5, a6⟩ := h
  refine ⟨a1, a3, a4, fun g hg => absurd hg (Nat.not_lt_zero _), fun a b ha hb => ?_, fun a ha => ?_⟩
  · have ha : a < n := ha
    have hb : b < n := hb
    exact a5 _ (by omega)
  · have ha : a < n := ha
    rw [a6 a (by omega), bits_0 _ (fun i _ => decide_eq_false (Nat.lt_irrefl 0))]
    rfl
theorem k48 (hB : ts_sh B = (0, 5)) {m : lt_m} {a b v : Nat} (ha : a < 12) (hb : b < 12) (hv : m.1 (B + 5) a = nI v) (h : Int32) : ∀ d, lt_ev (d + 3) 48 [.inr (.inr (some B)), .inl (nI a), .inl (nI b), .inl h] m = some (none, lm_i (lm_i m (B + 3) (12 * a + b) h) (B + 5) a (nI (v ||| 2 ^ b))) := by
  intro d
  have s3 : ts_sh (B + 3) = (1, 144) := sf_of hB 2 (by decide) (by decide)
  have s5 : ts_sh (B + 5) = (1, 12) := sf_of hB 4 (by decide) (by decide)
  have e49 : v49 (lm_i m (B + 3) (12 * a + b) h) B (nI a) = nI v := by
    unfold v49
    rw [c16 (by omega) (by omega), lm_i_ne (by omega)]
    exact hv
  refine (E48 (d + 2) B _ _ _ hB m).trans ?_
  rw [p15 (d + 1) _ _ m, lt_cI_s, c15, k17 (d + 1) s3 (by omega) (by decide), lt_cV_s, p49 d B _ hB, lt_cI_s, e49, sp_bit (by omega), sp_orN, k17 (d + 1) s5 (by omega) (by decide), lt_cV_s]
theorem nR_h2 {m : lt_m} {n g a b h : Nat} {H : Nat → Nat → Nat} {c dd : Nat → Nat} (hn : n ≤ 12) (ha : a < n) (hb : b < n) (hne : a ≠ b) (hh : 0 < h) (hr : nR (n, g, H, c, dd) B m) (hs : ∀ x y, H x y = H y x) : nR (n, g, h2N H a b h, c, dd) B (lm_i (lm_i (lm_i (lm_i m (B + 3) (12 * a + b) (nI h)) (B + 5) a (nI (bitsN (fun y => decide (0 < H a y)) n ||| 2 ^ b))) (B + 3) (12 * b + a) (nI h)) (B + 5) b (nI (bitsN (fun y => decide (0 < H b y)) n ||| 2 ^ a))) := by
  obtain ⟨a1, a2, a3, a4, a5, a6⟩ := hr
  have bup : ∀ x y, x < n → y < n → (x = a ∧ y = b ∨ x = b ∧ y = a) → bitsN (fun z => decide (0 < h2N H a b h x z)) n = bitsN (fun z => decide (0 < H x z)) n ||| 2 ^ y := by
    intro x y hx hy hxy
    refine (bitsN_eq (q := fun z => decide (0 < h2N H a b h x z)) fun i => ?_).symm
    rw [Nat.testBit_or, bitsN_tb, Nat.testBit_two_pow]
    by_cases ci : i = y
    · subst ci
      have hv : h2N H a b h x i = h := if_pos hxy
      rw [decide_eq_true rfl, Bool.or_true, hv, decide_eq_true hy, decide_eq_true hh]
      rfl
    · have hv : h2N H a b h x i = H x i := if_neg (by omega)
      rw [decide_eq_false (fun q : y = i => ci q.symm), Bool.or_false, hv]
  refine ⟨?_, ?_, ?_, ?_, fun x y hx hy => ?_, fun x hx => ?_⟩
  · rw [lm_i_ne (by omega), lm_i_ne (by omega), lm_i_ne (by omega), lm_i_ne (by omega)]; exact a1
  · rw [lm_i_ne (by omega), lm_i_ne (by omega), lm_i_ne (by omega), lm_i_ne (by omega)]; exact a2
  · rw [lm_i_ne (by omega), lm_i_ne (by omega), lm_i_ne (by omega), lm_i_ne (by omega)]; exact a3
  · rw [lm_i_ne (by omega), lm_i_ne (by omega), lm_i_ne (by omega), lm_i_ne (by omega)]; exact a4
  · have hx : x < n := hx
    have hy : y < n := hy
    rw [lm_i_ne (by omega)]
    show _ = nI (if (x = a ∧ y = b) ∨ (x = b ∧ y = a) then h else H x y)
    by_cases c1 : x = b ∧ y = a
    · rw [c1.1, c1.2, lm_i_eq, if_pos (Or.inr ⟨rfl, rfl⟩)]
    · rw [lm_i_ns (by omega), lm_i_ne (by omega)]
      by_cases c2 : x = a ∧ y = b
      · rw [c2.1, c2.2, lm_i_eq, if_pos (Or.inl ⟨rfl, rfl⟩)]
      · rw [lm_i_ns (by omega), if_neg (by omega)]
        exact a5 x y hx hy
  · have hx : x < n := hx
    show _ = nI (bitsN (fun z => decide (0 < h2N H a b h x z)) n)
    by_cases c1 : x = b
    · subst c1
      rw [lm_i_eq, bup x a hx ha (Or.inr ⟨rfl, rfl⟩)]
    · rw [lm_i_ns (by omega), lm_i_ne (by omega)]
      by_cases c2 : x = a
      · subst c2
        rw [lm_i_eq, bup x b hx hb (Or.inl ⟨rfl, rfl⟩)]
      · rw [lm_i_ns (by omega), lm_i_ne (by omega), a6 x hx]
        congr 1
        exact bitsN_congr fun i hi => by
          have : h2N H a b h x i = H x i := if_neg (by omega)
          show decide (0 < H x i) = decide (0 < h2N H a b h x i)
          rw [this]
end NRD

/-! ===== a ROUTE told by a text: the class ===== -/
def rtN (H : Nat → Nat → Nat) (n : Nat) (tx : Nat → Nat) (tk : Nat) : Nat → Nat → (Nat → Nat) → Nat → Nat → Nat ⊕ (Nat × (Nat → Nat) × Nat)
  | 0, _, _, _, _ => .inl 0
  | f + 1, k, r, s, p => match nuN tx tk (dgs n) 0 n p with
    | .inl e => .inl e
    | .inr (o, p1) => if (orN r k).testBit o = true ∨ (0 < k ∧ H (r (k - 1)) o = 0) then .inl (p1 - 1)
      else if k + 1 < 8 ∧ sg tx tk p1 = 45 then rtN H n tx tk f (k + 1) (wset r k o) (s + if k = 0 then 0 else H (r (k - 1)) o) (p1 + 1)
      else if p1 < tk ∨ k + 1 < 2 then .inl p1 else .inr (k + 1, wset r k o, s + if k = 0 then 0 else H (r (k - 1)) o)
/-- what a ROUTE that was read is -/
def rtOK (H : Nat → Nat → Nat) (n k : Nat) (r : Nat → Nat) (s : Nat) : Prop := (∀ j, j < k → r j < n) ∧ (∀ j, j + 1 < k → 0 < H (r j) (r (j + 1))) ∧ s = sumN (fun j => H (r j) (r (j + 1))) (k - 1)
theorem orN_set {r : Nat → Nat} {k o : Nat} : orN (wset r k o) (k + 1) = orN r k ||| 2 ^ o := by
  have : ∀ n, n ≤ k → orN (wset r k o) n = orN r n := by
    intro n
    induction n with
    | zero => intro _; rfl
    | succ n ih => intro h; simp only [orN]; rw [ih (by omega), wset_ne (by omega)]
  simp only [orN]
  rw [this k (Nat.le_refl k), wset_eq]
theorem rtN_ok {H : Nat → Nat → Nat} {n : Nat} {tx : Nat → Nat} {tk : Nat} : ∀ f k r s p k' r' s', k + f = 8 → p ≤ tk → rtOK H n k r s → rtN H n tx tk f k r s p = .inr (k', r', s') → 2 ≤ k' ∧ k' ≤ 8 ∧ rtOK H n k' r' s' := by
  intro f
  induction f with
  | zero => intro k r s p k' r' s' _ _ _ h; cases h
  | succ f ih =>
    intro k r s p k' r' s' hk hp ho h
    simp only [rtN] at h
    cases hn : nuN tx tk (dgs n) 0 n p with
    | inl e => rw [hn] at h; cases h
    | inr q =>
      obtain ⟨o, p1⟩ := q
      rw [hn] at h
      simp only at h
      obtain ⟨-, b2, -, -, -, b6⟩ := nuN_r hp (dgs_le n).2 hn
      by_cases c1 : (orN r k).testBit o = true ∨ (0 < k ∧ H (r (k - 1)) o = 0)
      · rw [if_pos c1] at h; cases h
      · rw [if_neg c1] at h
        have hok : rtOK H n (k + 1) (wset r k o) (s + if k = 0 then 0 else H (r (k - 1)) o) := by
          obtain ⟨o1, o2, o3⟩ := ho
          refine ⟨fun j hj => ?_, fun j hj => ?_, ?_⟩
          · by_cases e : j = k
            · subst e; rw [wset_eq]; exact b2
            · rw [wset_ne e]; exact o1 j (by omega)
          · by_cases e : j + 1 = k
            · rw [wset_ne (by omega), e, wset_eq]
              have hz : ¬ H (r (k - 1)) o = 0 := fun q => c1 (Or.inr ⟨by omega, q⟩)
              rw [show k - 1 = j by omega] at hz
              omega
            · rw [wset_ne (by omega), wset_ne (by omega)]; exact o2 j (by omega)
          · rw [o3]
            by_cases k0 : k = 0
            · subst k0; rfl
            · obtain ⟨k1, rfl⟩ : ∃ k1, k = k1 + 1 := ⟨k - 1, by omega⟩
              rw [if_neg k0]
              show _ = sumN _ (k1 + 1)
              simp only [sumN]
              have e1 : sumN (fun j => H (wset r (k1 + 1) o j) (wset r (k1 + 1) o (j + 1))) k1 = sumN (fun j => H (r j) (r (j + 1))) k1 := sumN_congr fun j hj => by rw [wset_ne (by omega), wset_ne (by omega)]
              rw [e1, wset_ne (by omega), wset_eq]
              rfl
        by_cases c2 : k + 1 < 8 ∧ sg tx tk p1 = 45
        · rw [if_pos c2] at h
          exact ih _ _ _ _ _ _ _ (by omega) (sg_lt c2.2 (by omega)) hok h
        · rw [if_neg c2] at h
          by_cases c3 : p1 < tk ∨ k + 1 < 2
          · rw [if_pos c3] at h; cases h
          · rw [if_neg c3] at h
            injection h with h
            injection h with h1 h
            injection h with h2 h3
            subst h1; subst h2; subst h3
            exact ⟨by omega, by omega, hok⟩
theorem s_6 : ts_sh 6 = (0, 7) := sf_of sx 2 (by decide) (by decide)
theorem s_7 : ts_sh (6 + 1) = (1, 8) := sf_of s_6 0 (by decide) (by decide)
section RT
variable {N : NT} {A : Nat} {tx : Nat → Nat} {tk : Nat}
/-- all but reader, text and route -/
def cfr (m M : lt_m) : Prop := (∀ b, b ≠ 1 → b ≠ 2 → b ≠ 6 → b ≠ 7 → M.1 b = m.1 b) ∧ M.2 = m.2
theorem cfr_rf (m : lt_m) : cfr m m := ⟨fun _ _ _ _ _ => rfl, rfl⟩
theorem cfr_tr {a b c : lt_m} (h1 : cfr a b) (h2 : cfr b c) : cfr a c := ⟨fun x q1 q2 q3 q4 => (h2.1 x q1 q2 q3 q4).trans (h1.1 x q1 q2 q3 q4), h2.2.trans h1.2⟩
theorem cfr_i {m : lt_m} {a k : Nat} {v : Int32} (h : a = 1 ∨ a = 2 ∨ a = 6 ∨ a = 7) : cfr m (lm_i m a k v) := ⟨fun b _ _ _ _ => lm_i_ne (by omega), rfl⟩
theorem cfr_1 {m M : lt_m} (h : ∀ b, b ≠ 1 → M.1 b = m.1 b) (r : M.2 = m.2) : cfr m M := ⟨fun b q1 _ _ _ => h b q1, r⟩
theorem cfr_12 {m M : lt_m} (h : ∀ b, b ≠ 1 → b ≠ 2 → M.1 b = m.1 b) (r : M.2 = m.2) : cfr m M := ⟨fun b q1 q2 _ _ => h b q1 q2, r⟩
theorem nR_c {m M : lt_m} (hA : 13 ≤ A) (h : cfr m M) (hn : nR N A m) : nR N A M := nR_fr (fun b g1 g2 => h.1 b (by omega) (by omega) (by omega) (by omega)) hn
/-- what stands when the class has read a ROUTE -/
def rtE (m M : lt_m) (x : Nat ⊕ (Nat × (Nat → Nat) × Nat)) : Prop := cfr m M ∧ M.1 2 1 = 0 ∧ match x with
  | .inl e => M.1 1 2 = nI e
  | .inr (k, r, s) => M.1 1 2 = -1 ∧ M.1 6 1 = nI k ∧ M.1 6 2 = nI s ∧ ∀ j, j < k → M.1 7 j = nI (r j)
theorem k101e (x3 : Int32) (o5 o6 : Option ts_V) {e : Nat} {m : lt_m} (h : cbd tx tk e m) : ∃ M, (∀ d, L101_158 (d + 3) 6 1 A x3 0 o5 o6 m = some (none, M)) ∧ cfr m M ∧ M.1 2 1 = 0 ∧ M.1 1 2 = nI e := by
  obtain ⟨M, e1, f1, f2, f3, f4⟩ := k51b h
  refine ⟨M, fun d => ?_, cfr_12 f3 f4, f2, f1⟩
  rw [E101_158 _ _ _ _ _ _ _ _ s_6 s_1]
  split
  · rw [e1 d, lt_cV_s]
  · rw [k39b h (d + 2), lt_cV_s, e1 d, lt_cV_s]
theorem k17r (d : Nat) {m : lt_m} {k : Nat} (hk : k < 8) (v : Int32) : lt_ev (d + 1) 17 [.inr (.inr (some (6 + 1))), .inl (nI k), .inl v] m = some (none, lm_i m 7 k v) := k17 d s_7 hk (by decide) v
theorem k101b (hA : ts_sh A = (0, 5)) (x3 x5 x6 : Int32) {k e : Nat} {m : lt_m} (hk : k < 8) (h1 : m.1 6 1 = nI k) (h : cbd tx tk e m) : ∃ M, (∀ d, L101_89 (d + 3) 6 1 A x3 1 x5 x6 m = some (none, M)) ∧ cfr m M ∧ M.1 2 1 = 0 ∧ M.1 1 2 = nI e := by
  obtain ⟨M1, hM1⟩ : ∃ M1, M1 = lm_i (lm_i (lm_i m 7 k x5) 6 2 ((lm_i m 7 k x5).1 6 2 + x6)) 6 1 (nI (k + 1)) := ⟨_, rfl⟩
  have c1 : cbd tx tk e M1 := cbd_fr (fun b hb => by rw [hM1, lm_i_ne (by omega), lm_i_ne (by omega), lm_i_ne (by omega)]) h
  have f1 : cfr m M1 := by rw [hM1]; exact cfr_tr (cfr_i (by omega)) (cfr_tr (cfr_i (by omega)) (cfr_i (by omega)))
  obtain ⟨M, e4, f4, g4, w4⟩ := k101e (A := A) (x3 ||| ((1 : Int32) <<< (x5 &&& 31))) (some (.inl x5)) (some (.inl x6)) c1
  refine ⟨M, fun d => ?_, cfr_tr f1 f4, g4, w4⟩
  have e6 : ∀ d, L101_19 (d + 3) 6 1 A (x3 ||| ((1 : Int32) <<< (x5 &&& 31))) 0 (some (.inl x5)) (some (.inl x6)) M1 = some (none, M) := fun d => by
    rw [E101_19 _ _ _ _ _ _ _ _ s_6 s_1 hA, if_pos rfl, e4 d]
  have es : (lm_i (lm_i m 7 k x5) 6 2 ((lm_i m 7 k x5).1 6 2 + x6)).1 6 1 = nI k := by rw [lm_i_ns (by omega), lm_i_ne (by omega)]; exact h1
  rw [E101_89 _ _ _ _ _ _ _ _ s_6 s_1, h1, k17r (d + 2) hk, lt_cV_s, es, nI_1, ← hM1]
  split
  · exact e6 d
  · rw [k43b _ c1 (d + 1), lt_cI_s, if_pos rfl, e6 d]
theorem c102 {m : lt_m} {k : Nat} {r : Nat → Nat} (hk : k ≤ 8) (h1 : m.1 6 1 = nI k) (h2 : ∀ j, j < k → m.1 7 j = nI (r j)) : v102 m 6 (nI k - 1) = if k = 0 then -1 else nI (r (k - 1)) := by
  unfold v102
  by_cases c : k = 0
  · subst c; rw [if_pos (by decide), if_pos rfl]
  · rw [if_neg c, h1, q_1, pk_sub (by omega), if_neg (nI_pos (by omega)), if_neg (by rw [sp_len (by omega) (by omega)]; omega), c16 (by omega) (by omega)]
    exact h2 (k - 1) (by omega)
theorem c13r {m : lt_m} {x : Int32} : v13 m A x (-1) = 0 := by
  unfold v13
  split
  · rfl
  · rw [c14m, if_pos rfl]
/-- the class reads a ROUTE -/
theorem k101l (hA : ts_sh A = (0, 5)) (hA2 : 13 ≤ A) (hN : wfN N) : ∀ f k r s p o5 o6 m, k + f = 8 → 0 < f → crd tx tk p m → nR N A m → m.1 6 1 = nI k → m.1 6 2 = nI s → (∀ j, j < k → m.1 7 j = nI (r j)) → (∀ j, j < k → r j < N.1) → ∃ M, (∀ d, L101_19 (d + 3) 6 1 A (nI (orN r k)) 1 o5 o6 m = some (none, M)) ∧ rtE m M (rtN N.2.2.1 N.1 tx tk f k r s p) := by
  intro f
  have hn1 := hN.1
  have hn2 := hN.2.1
  induction f with
  | zero => intro k r s p o5 o6 m hk h0; omega
  | succ f ih =>
    intro k r s p o5 o6 m hk _ h hn h61 h62 h7 hr
    have hp := h.2.1
    have hor : orN r k < 2 ^ 12 := orN_lt fun j hj => by have := hr j hj; omega
    have head : ∀ d, L101_19 (d + 3) 6 1 A (nI (orN r k)) 1 o5 o6 m = lt_cI (lt_ev (d + 3) 37 [.inr (.inr (some 1)), .inl (nI 0), .inl (nI N.1 - 1)] m) (fun v1 m1 => (lt_cI (lt_ev (d + 3) 102 [.inr (.inr (some 6)), .inl ((m1.1 6 1) - (1 : Int32))] m1) (fun v2 m2 => (lt_cI (lt_ev (d + 3) 13 [.inr (.inr (some A)), .inl v2, .inl v1] m2) (fun v3 m3 => (if ¬ ((nI (orN r k) >>> (v1 &&& 31)) &&& (1 : Int32)) = 0 then (lt_cV (lt_ev (d + 3) 41 [.inr (.inr (some 1))] m3) (fun m4 => (L101_89 (d + 3) 6 1 A (nI (orN r k)) 1 v1 v3 m4))) else (if (m3.1 6 1) ≤ 0 then (L101_89 (d + 3) 6 1 A (nI (orN r k)) 1 v1 v3 m3) else (if ¬ v3 = 0 then (L101_89 (d + 3) 6 1 A (nI (orN r k)) 1 v1 v3 m3) else (lt_cV (lt_ev (d + 3) 41 [.inr (.inr (some 1))] m3) (fun m5 => (L101_89 (d + 3) 6 1 A (nI (orN r k)) 1 v1 v3 m5))))))))))) := fun d => by
      rw [E101_19 _ _ _ _ _ _ _ _ s_6 s_1 hA, if_neg (by decide), h61, if_neg (by rw [q_8, sp_len (by omega) (by omega)]; omega), hn.1]
      rfl
    rcases k37 (lo := 0) (hi1 := N.1) (by omega) (by omega) h with ⟨o, p1, M1, hnu, e1, c1, f1, r1⟩ | ⟨e, M1, hnu, e1, c1, f1, r1⟩
    · obtain ⟨-, b2, -, b4, -, b6⟩ := nuN_r hp (dgs_le N.1).2 hnu
      have g61 : M1.1 6 1 = nI k := by rw [f1 6 (by decide)]; exact h61
      have g62 : M1.1 6 2 = nI s := by rw [f1 6 (by decide)]; exact h62
      have g7 : ∀ j, j < k → M1.1 7 j = nI (r j) := fun j hj => by rw [f1 7 (by decide)]; exact h7 j hj
      have gn : nR N A M1 := nR_c hA2 (cfr_1 f1 r1) hn
      obtain ⟨hh, hhe⟩ : ∃ hh, hh = if k = 0 then 0 else N.2.2.1 (r (k - 1)) o := ⟨_, rfl⟩
      have hhb : hh ≤ 99 := by
        rw [hhe]
        split
        · omega
        · exact hN.2.2.2.1 _ _ (hr _ (by omega)) b2
      have ev : v13 M1 A (v102 M1 6 (nI k - 1)) (nI o) = nI hh := by
        rw [c102 (by omega) g61 g7, hhe]
        by_cases c : k = 0
        · rw [if_pos c, if_pos c, c13m]; rfl
        · rw [if_neg c, if_neg c, c13 gn hN (hr _ (by omega)) b2]
      have hbody : ∀ d, L101_19 (d + 3) 6 1 A (nI (orN r k)) 1 o5 o6 m = if (orN r k).testBit o = true ∨ (0 < k ∧ N.2.2.1 (r (k - 1)) o = 0) then (lt_cV (lt_ev (d + 3) 41 [.inr (.inr (some 1))] M1) (fun m5 => (L101_89 (d + 3) 6 1 A (nI (orN r k)) 1 (nI o) (nI hh) m5))) else L101_89 (d + 3) 6 1 A (nI (orN r k)) 1 (nI o) (nI hh) M1 := fun d => by
        rw [head, e1 d, lt_cI_s, g61, p102 (d + 1) 6 _ s_6 M1, lt_cI_s, p13 (d + 1) A _ _ hA M1, lt_cI_s, ev, sp_tb (by omega) (by omega), g61]
        by_cases ct : (orN r k).testBit o = true
        · rw [if_pos ct, if_pos (by decide), if_pos (Or.inl ct)]
        · rw [if_neg ct, if_neg (by decide)]
          by_cases ck : k = 0
          · have hno : ¬ ((orN r k).testBit o = true ∨ (0 < k ∧ N.2.2.1 (r (k - 1)) o = 0)) := by
              rintro (q | q)
              · exact ct q
              · omega
            rw [if_pos (by rw [sp_le0 (by omega)]; omega), if_neg hno]
          · rw [if_neg (by rw [sp_le0 (by omega)]; omega)]
            rw [if_neg ck] at hhe
            by_cases cz : hh = 0
            · rw [if_neg (by rw [cz]; exact fun q => q rfl), if_pos (Or.inr ⟨by omega, by omega⟩)]
            · rw [if_pos (by rw [sp_eq0 (by omega)]; exact cz), if_neg]
              rintro (q | q)
              · exact ct q
              · omega
      simp only [rtN]
      rw [hnu]
      simp only
      by_cases cb : (orN r k).testBit o = true ∨ (0 < k ∧ N.2.2.1 (r (k - 1)) o = 0)
      · rw [if_pos cb]
        obtain ⟨e4, h4⟩ := k41g c1 (by omega)
        obtain ⟨M, e5, f5, g5, w5⟩ := k101b (A := A) hA (nI (orN r k)) (nI o) (nI hh) (k := k) (by omega) (by rw [lm_i_ne (by decide)]; exact g61) h4
        refine ⟨M, fun d => ?_, cfr_tr (cfr_1 f1 r1) (cfr_tr (cfr_i (by omega)) f5), g5, w5⟩
        rw [hbody, if_pos cb, e4 (d + 2), lt_cV_s, e5 d]
      · rw [if_neg cb]
        obtain ⟨M2, hM2⟩ : ∃ M2, M2 = lm_i (lm_i (lm_i M1 7 k (nI o)) 6 2 (nI (s + hh))) 6 1 (nI (k + 1)) := ⟨_, rfl⟩
        have c2 : crd tx tk p1 M2 := crd_fr (fun b hb => by rw [hM2, lm_i_ne (by omega), lm_i_ne (by omega), lm_i_ne (by omega)]) c1
        have f2 : cfr M1 M2 := by rw [hM2]; exact cfr_tr (cfr_i (by omega)) (cfr_tr (cfr_i (by omega)) (cfr_i (by omega)))
        have n2 : nR N A M2 := nR_c hA2 f2 gn
        have z61 : M2.1 6 1 = nI (k + 1) := by rw [hM2]; exact lm_i_eq
        have z62 : M2.1 6 2 = nI (s + hh) := by rw [hM2, lm_i_ns (by omega)]; exact lm_i_eq
        have z7 : ∀ j, j < k + 1 → M2.1 7 j = nI (wset r k o j) := fun j hj => by
          rw [hM2, lm_i_ne (by omega), lm_i_ne (by omega)]
          by_cases e : j = k
          · subst e; rw [lm_i_eq, wset_eq]
          · rw [lm_i_ns (by omega), wset_ne e]; exact g7 j (by omega)
        have fm2 : cfr m M2 := cfr_tr (cfr_1 f1 r1) f2
        have ep : nI (orN r k) ||| ((1 : Int32) <<< (nI o &&& 31)) = nI (orN (wset r k o) (k + 1)) := by rw [sp_bit (by omega), sp_orN, orN_set]
        have es : (lm_i (lm_i M1 7 k (nI o)) 6 2 (nI (s + hh))).1 6 1 = nI k := by rw [lm_i_ns (by omega), lm_i_ne (by omega)]; exact g61
        have es2 : (lm_i M1 7 k (nI o)).1 6 2 = nI s := by rw [lm_i_ne (by omega)]; exact g62
        have h89 : ∀ d, L101_89 (d + 3) 6 1 A (nI (orN r k)) 1 (nI o) (nI hh) M1 = if (8 : Int32) ≤ nI (k + 1) then L101_19 (d + 3) 6 1 A (nI (orN (wset r k o) (k + 1))) 0 (some (.inl (nI o))) (some (.inl (nI hh))) M2 else (lt_cI (lt_ev (d + 3) 43 [.inr (.inr (some 1)), .inl (nI 45)] M2) (fun v1 m2 => (if v1 = 0 then (L101_19 (d + 3) 6 1 A (nI (orN (wset r k o) (k + 1))) (0 : Int32) (some (.inl (nI o))) (some (.inl (nI hh))) m2) else (L101_19 (d + 3) 6 1 A (nI (orN (wset r k o) (k + 1))) (1 : Int32) (some (.inl (nI o))) (some (.inl (nI hh))) m2)))) := fun d => by
          rw [E101_89 _ _ _ _ _ _ _ _ s_6 s_1, g61, k17r (d + 2) (by omega), lt_cV_s, es2, nI_add, es, nI_1, ← hM2, z61, ep]
          rfl
        have stop : ∀ (P : Prop), (∀ d, L101_89 (d + 3) 6 1 A (nI (orN r k)) 1 (nI o) (nI hh) M1 = L101_19 (d + 3) 6 1 A (nI (orN (wset r k o) (k + 1))) 0 (some (.inl (nI o))) (some (.inl (nI hh))) M2) → ∃ M, (∀ d, L101_19 (d + 3) 6 1 A (nI (orN r k)) 1 o5 o6 m = some (none, M)) ∧ rtE m M (if p1 < tk ∨ k + 1 < 2 then .inl p1 else .inr (k + 1, wset r k o, s + if k = 0 then 0 else N.2.2.1 (r (k - 1)) o)) := by
          intro _ hst
          rw [← hhe]
          have h158 : ∀ d, L101_19 (d + 3) 6 1 A (nI (orN r k)) 1 o5 o6 m = L101_158 (d + 3) 6 1 A (nI (orN (wset r k o) (k + 1))) 0 (some (.inl (nI o))) (some (.inl (nI hh))) M2 := fun d => by
            rw [hbody, if_neg cb, hst, E101_19 _ _ _ _ _ _ _ _ s_6 s_1 hA, if_pos rfl]
          by_cases ck : k + 1 < 2
          · rw [if_pos (Or.inr ck)]
            obtain ⟨e4, h4⟩ := k39g c2
            obtain ⟨M, e5, w5, g5, f5, r5⟩ := k51b h4
            refine ⟨M, fun d => ?_, cfr_tr fm2 (cfr_tr (cfr_i (by omega)) (cfr_12 f5 r5)), g5, w5⟩
            rw [h158, E101_158 _ _ _ _ _ _ _ _ s_6 s_1, z61, if_neg (by rw [q_2, sp_len (by omega) (by omega)]; omega), e4 (d + 2), lt_cV_s, e5 d, lt_cV_s]
          · obtain ⟨M, e5, w5, g5, f5, r5⟩ := k51g c2
            have hE : ∀ d, L101_19 (d + 3) 6 1 A (nI (orN r k)) 1 o5 o6 m = some (none, M) := fun d => by
              rw [h158, E101_158 _ _ _ _ _ _ _ _ s_6 s_1, z61, if_pos (by rw [q_2, sp_len (by omega) (by omega)]; omega), e5 d, lt_cV_s]
            by_cases cp : p1 < tk
            · rw [if_pos (Or.inl cp)]
              refine ⟨M, hE, cfr_tr fm2 (cfr_12 f5 r5), g5, ?_⟩
              show M.1 1 2 = nI p1
              rw [w5]; exact if_pos cp
            · rw [if_neg (by omega)]
              refine ⟨M, hE, cfr_tr fm2 (cfr_12 f5 r5), g5, ?_, ?_, ?_, ?_⟩
              · rw [w5]; exact if_neg cp
              · rw [f5 6 (by decide) (by decide)]; exact z61
              · rw [f5 6 (by decide) (by decide)]; exact z62
              · intro j hj; rw [f5 7 (by decide) (by decide)]; exact z7 j hj
        by_cases ck : k + 1 < 8
        · by_cases cs : sg tx tk p1 = 45
          · rw [if_pos ⟨ck, cs⟩, ← hhe]
            have c3 : crd tx tk (p1 + 1) (lm_i M2 1 1 (nI (p1 + 1))) := crd_p c2 (sg_lt cs (by omega))
            have f3 : cfr M2 (lm_i M2 1 1 (nI (p1 + 1))) := cfr_i (by omega)
            obtain ⟨M, e5, g5⟩ := ih (k + 1) (wset r k o) (s + hh) (p1 + 1) (some (.inl (nI o))) (some (.inl (nI hh))) _ (by omega) (by omega) c3 (nR_c hA2 f3 n2) (by rw [lm_i_ne (by decide)]; exact z61) (by rw [lm_i_ne (by decide)]; exact z62) (fun j hj => by rw [lm_i_ne (by decide)]; exact z7 j hj) (fun j hj => by
              by_cases e : j = k
              · subst e; rw [wset_eq]; exact b2
              · rw [wset_ne e]; exact hr j (by omega))
            refine ⟨M, fun d => ?_, cfr_tr fm2 (cfr_tr f3 g5.1), g5.2⟩
            rw [hbody, if_neg cb, h89, if_neg (by rw [q_8, sp_len (by omega) (by omega)]; omega), k43 (by omega) c2 (d + 1), if_pos cs, lt_cI_s, if_neg (by decide), if_pos cs, e5 d]
          · rw [if_neg (fun q => cs q.2)]
            refine stop True fun d => ?_
            rw [h89, if_neg (by rw [q_8, sp_len (by omega) (by omega)]; omega), k43 (by omega) c2 (d + 1), if_neg cs, lt_cI_s, if_pos rfl, if_neg cs]
        · rw [if_neg (fun q => ck q.1)]
          refine stop True fun d => ?_
          rw [h89, if_pos (by rw [q_8, sp_len (by omega) (by omega)]; omega)]
    · simp only [rtN]
      rw [hnu]
      have g61 : M1.1 6 1 = nI k := by rw [f1 6 (by decide)]; exact h61
      have e13 : ∀ x, v13 M1 A x (-1) = 0 := fun x => c13r
      obtain ⟨M, e5, f5, g5, w5⟩ := k101b (A := A) hA (nI (orN r k)) (-1) 0 (k := k) (by omega) g61 c1
      refine ⟨M, fun d => ?_, cfr_tr (cfr_1 f1 r1) f5, g5, w5⟩
      rw [head, e1 d, lt_cI_s, p102 (d + 1) 6 _ s_6 M1, lt_cI_s, p13 (d + 1) A _ _ hA M1, lt_cI_s, e13]
      split
      · rw [k41b c1 (d + 2), lt_cV_s, e5 d]
      · split
        · exact e5 d
        · rw [if_neg (fun q => q rfl), k41b c1 (d + 2), lt_cV_s, e5 d]
theorem k101 (hA : ts_sh A = (0, 5)) (hA2 : 13 ≤ A) (hN : wfN N) {m : lt_m} (h : ctx tx tk m) (hn : nR N A m) : ∃ M, (∀ d, lt_ev (d + 4) 101 [.inr (.inr (some 6)), .inr (.inr (some 1)), .inr (.inr (some A))] m = some (none, M)) ∧ rtE m M (rtN N.2.2.1 N.1 tx tk 8 0 (fun _ => 0) 0 0) := by
  obtain ⟨M0, hM0⟩ : ∃ M0, M0 = lm_i (lm_i (lm_i (lm_i m 1 1 0) 1 2 (-1)) 6 1 0) 6 2 0 := ⟨_, rfl⟩
  have f0 : cfr m M0 := by rw [hM0]; exact cfr_tr (cfr_i (by omega)) (cfr_tr (cfr_i (by omega)) (cfr_tr (cfr_i (by omega)) (cfr_i (by omega))))
  have c0 : crd tx tk 0 M0 := by
    refine ⟨ctx_fr (fun b hb => by rw [hM0, lm_i_ne (by omega), lm_i_ne (by omega), lm_i_ne (by omega), lm_i_ne (by omega)]) h, Nat.zero_le _, ?_, ?_⟩
    · rw [hM0, lm_i_ne (by omega), lm_i_ne (by omega), lm_i_ns (by omega), lm_i_eq]; rfl
    · rw [hM0, lm_i_ne (by omega), lm_i_ne (by omega), lm_i_eq]
  obtain ⟨M, e5, g5⟩ := k101l hA hA2 hN 8 0 (fun _ => 0) 0 0 none none M0 (by omega) (by omega) c0 (nR_c hA2 f0 hn) (by rw [hM0, lm_i_ns (by omega)]; exact lm_i_eq) (by rw [hM0]; exact lm_i_eq) (fun j hj => by omega) (fun j hj => by omega)
  refine ⟨M, fun d => ?_, cfr_tr f0 g5.1, g5.2⟩
  refine (E101 (d + 3) 6 1 A s_6 s_1 hA m).trans ?_
  rw [E31 (d + 2) 1 s_1 m, lt_cV_s, ← hM0]
  exact e5 d
end RT

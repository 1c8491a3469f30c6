/-! ===== a ROUTE told by a text: the reference ===== -/
/-- all but the reference's reader, text and route -/
def mfr (m M : lt_m) : Prop := (∀ b k, ¬ (b = 723 ∨ b = 711 ∧ (k = 12 ∨ k = 16 ∨ k = 17 ∨ k = 18 ∨ k = 26 ∨ k = 27)) → M.1 b k = m.1 b k) ∧ M.2 = m.2
theorem mfr_rf (m : lt_m) : mfr m m := ⟨fun _ _ _ => rfl, rfl⟩
theorem mfr_tr {a b c : lt_m} (h1 : mfr a b) (h2 : mfr b c) : mfr a c := ⟨fun x k h => (h2.1 x k h).trans (h1.1 x k h), h2.2.trans h1.2⟩
theorem mfr_i {m : lt_m} {k : Nat} {v : Int32} (h : k = 12 ∨ k = 16 ∨ k = 17 ∨ k = 18 ∨ k = 26 ∨ k = 27) : mfr m (lm_i m 711 k v) := ⟨fun b j hb => lm_i_ns (by omega), rfl⟩
theorem mfr_o {m : lt_m} {k : Nat} {v : Int32} : mfr m (lm_i m 723 k v) := ⟨fun b j hb => lm_i_ns (by omega), rfl⟩
theorem mfr_r {m M : lt_m} (h : rfr m M) : mfr m M := ⟨fun b k hb => h.1 b k (by omega), h.2⟩
theorem ml_m {N : NT} {w : Nat → Nat} {m M : lt_m} (h : mfr m M) (hm : ml N w 711 m) : ml N w 711 M := by
  obtain ⟨h0, h1, h2, h3, h4, h5⟩ := hm
  have c : ∀ b, b ≠ 711 → b ≠ 723 → M.1 b = m.1 b := fun b g1 g2 => funext fun k => h.1 b k (by omega)
  exact ⟨by rw [c (711 + 1) (by omega) (by omega)]; exact h0, by rw [h.1 711 8 (by omega)]; exact h1, by rw [h.1 711 10 (by omega)]; exact h2, by rw [c (711 + 4) (by omega) (by omega)]; exact h3, by rw [c (711 + 6) (by omega) (by omega)]; exact h4, by rw [c (711 + 5) (by omega) (by omega)]; exact h5⟩
section RM
variable {N : NT} {w : Nat → Nat} {tx : Nat → Nat} {tk : Nat}
/-- isOnRoute -/
theorem m225 {m : lt_m} {k o : Nat} {r : Nat → Nat} (hk : k ≤ 8) (ho : o < 2 ^ 31) (h26 : m.1 711 26 = nI k) (hr : ∀ j, j < k → r j < 12 ∧ m.1 723 j = nI (r j)) : ∀ d, lt_ev (d + 1) 225 [.inr (.inr (some 711)), .inl (nI o)] m = some (some (.inl (if (orN r k).testBit o = true then 1 else 0)), m) := by
  intro d
  refine (E225 d 711 _ sy m).trans ?_
  have key : ∀ n i, i + n = k → (∀ j, j < i → r j ≠ o) → L225_2 d 711 (nI o) (nI i) m = some (some (.inl (if (orN r k).testBit o = true then 1 else 0)), m) := by
    intro n
    induction n with
    | zero =>
      intro i hi hb
      have hi : i = k := hi
      subst hi
      have hno : ¬ (orN r i).testBit o = true := fun q => by
        obtain ⟨j, h1, h2⟩ := orN_bit.mp q
        exact hb j h1 h2
      rw [E225_2 _ _ _ _ sy, h26, if_pos (by rw [sp_len (by omega) (by omega)]; exact Nat.le_refl _), if_neg hno]
    | succ n ih =>
      intro i hi hb
      obtain ⟨b1, b2⟩ := hr i (by omega)
      rw [E225_2 _ _ _ _ sy, h26, if_neg (by rw [sp_len (by omega) (by omega)]; omega), lt_gd_t (sp_gd (by omega) (by omega)), nI_clamp (by omega), show m.1 (711 + 12) i = nI (r i) from b2, nI_1]
      by_cases c : r i = o
      · rw [if_neg (by rw [c]; exact fun q => q rfl), if_pos (orN_bit.mpr ⟨i, by omega, c⟩)]
      · rw [if_pos (by rw [sp_eqn (by omega) ho]; exact c)]
        exact ih (i + 1) (by omega) fun j hj => by
          by_cases e : j = i
          · subst e; exact c
          · exact hb j (by omega)
  exact key k 0 (by omega) (fun j hj => by omega)
/-- what stands when the reference has read a ROUTE -/
def rtM (m M : lt_m) (x : Nat ⊕ (Nat × (Nat → Nat) × Nat)) : Prop := mfr m M ∧ M.1 711 12 = m.1 711 12 ∧ match x with
  | .inl e => e ≤ 200 ∧ M.1 711 18 = nI e
  | .inr (k, r, s) => M.1 711 18 = -1 ∧ M.1 711 26 = nI k ∧ M.1 711 27 = nI s ∧ ∀ j, j < k → M.1 723 j = nI (r j)
theorem m224l (hN : wfN N) : ∀ f k r s p o2 o3 m, k + f = 8 → 0 < f → rrd tx tk p m → ml N w 711 m → m.1 711 26 = nI k → m.1 711 27 = nI s → (∀ j, j < k → r j < N.1 ∧ m.1 723 j = nI (r j)) → ∃ M, (∀ d, L224_16 (d + 3) 711 1 o2 o3 m = some (none, M)) ∧ rtM m M (rtN N.2.2.1 N.1 tx tk f k r s p) := by
  intro f
  have hn1 := hN.1
  have hn2 := hN.2.1
  induction f with
  | zero => intro k r s p o2 o3 m hk h0; omega
  | succ f ih =>
    intro k r s p o2 o3 m hk _ h hml h26 h27 hr
    have hp := h.2.1
    have htk := h.1.1
    have out : ∀ M x1 x2 o3 xt, ¬ M.1 711 18 = -1 → ∀ d, L224_72 (d + 3) 711 x1 x2 o3 xt M = some (none, M) := fun M x1 x2 o3 xt hb d => by
      rw [E224_72 _ _ _ _ _ _ sy, if_pos hb, E224_103 _ _ _ _ _ sy, if_neg hb]
    rcases m191 (n := N.1) ⟨hn1, hn2⟩ h with ⟨o, p1, M1, hnu, e1, c1, f1⟩ | ⟨e, u, M1, hnu, e1, c1, f1⟩
    · obtain ⟨-, b2, -, b4, -, b6⟩ := nuN_r hp (dgs_le N.1).2 hnu
      have g26 : M1.1 711 26 = nI k := by rw [f1.1 711 26 (by omega)]; exact h26
      have g27 : M1.1 711 27 = nI s := by rw [f1.1 711 27 (by omega)]; exact h27
      have g12 : M1.1 711 12 = m.1 711 12 := f1.1 711 12 (by omega)
      have gr : ∀ j, j < k → r j < N.1 ∧ M1.1 723 j = nI (r j) := fun j hj => by rw [f1.1 723 j (by omega)]; exact hr j hj
      have gml : ml N w 711 M1 := ml_m (mfr_r f1) hml
      have g18 : M1.1 711 18 = -1 := c1.2.2.2
      obtain ⟨hh, hhe⟩ : ∃ hh, hh = if k = 0 then 0 else N.2.2.1 (r (k - 1)) o := ⟨_, rfl⟩
      have hhb : hh ≤ 99 := by
        rw [hhe]
        split
        · omega
        · exact hN.2.2.2.1 _ _ (gr _ (by omega)).1 b2
      have head : ∀ d, L224_16 (d + 3) 711 1 o2 o3 m = L224_72 (d + 3) 711 1 (nI o) o3 (if k = 0 then 1 else nI hh) M1 := fun d => by
        rw [E224_16 _ _ _ _ _ sy, if_neg (by decide), if_neg (fun q => q h.2.2.2), hml.2.1, e1 d, lt_cI_s, if_neg (fun q => q g18), g26]
        by_cases ck : k = 0
        · rw [if_pos (by rw [sp_le0 (by omega)]; omega), if_pos ck]
        · rw [if_neg (by rw [sp_le0 (by omega)]; omega), if_neg ck, q_1, pk_sub (by omega), lt_gd_t (sp_gd (by omega) (by omega)), nI_clamp (by omega), show M1.1 (711 + 12) (k - 1) = nI (r (k - 1)) from (gr (k - 1) (by omega)).2, m194 (d + 2) sy gml hN (gr (k - 1) (by omega)).1 b2, lt_cI_s, hhe, if_neg ck]
      have hon := m225 (m := M1) (k := k) (o := o) (r := r) (by omega) (by omega) g26 (fun j hj => ⟨by have := (gr j hj).1; omega, (gr j hj).2⟩)
      simp only [rtN]
      rw [hnu]
      simp only
      by_cases cb : (orN r k).testBit o = true ∨ (0 < k ∧ N.2.2.1 (r (k - 1)) o = 0)
      · rw [if_pos cb]
        obtain ⟨e4, h4, f4⟩ := m187g (q := p1 - 1) (by omega) c1
        refine ⟨_, fun d => ?_, mfr_tr (mfr_r f1) (mfr_r f4), by rw [f4.1 711 12 (by omega)]; exact g12, by omega, h4.2.2⟩
        rw [head, E224_72 _ _ _ _ _ _ sy, if_neg (fun q => q g18), hon (d + 2), lt_cI_s, c1.2.2.1, q_1, pk_sub (by omega)]
        by_cases ct : (orN r k).testBit o = true
        · rw [if_pos ct, if_pos (by decide), e4 (d + 2), lt_cV_s, E224_103 _ _ _ _ _ sy, if_neg (rb18 h4)]
        · have cz := cb.resolve_left ct
          have hz : hh = 0 := by rw [hhe, if_neg (by omega)]; exact cz.2
          rw [if_neg ct, if_neg (by decide), if_neg (show ¬ k = 0 by omega), if_neg (by rw [hz]; exact fun q => q rfl), e4 (d + 2), lt_cV_s, E224_103 _ _ _ _ _ sy, if_neg (rb18 h4)]
      · rw [if_neg cb]
        have ct : ¬ (orN r k).testBit o = true := fun q => cb (Or.inl q)
        have h103 : ∀ d, L224_16 (d + 3) 711 1 o2 o3 m = L224_103 (d + 3) 711 1 (nI o) (if k = 0 then 1 else nI hh) M1 := fun d => by
          rw [head, E224_72 _ _ _ _ _ _ sy, if_neg (fun q => q g18), hon (d + 2), lt_cI_s, if_neg ct, if_neg (by decide)]
          by_cases ck : k = 0
          · rw [if_pos ck, if_pos (by decide)]
          · have hz : ¬ hh = 0 := fun q => cb (Or.inr ⟨by omega, by rw [hhe, if_neg ck] at q; exact q⟩)
            rw [if_neg ck, if_pos (by rw [sp_eq0 (by omega)]; exact hz)]
        obtain ⟨M1', hM1'⟩ : ∃ M, M = (if k = 0 then M1 else lm_i M1 711 27 (nI (s + hh))) := ⟨_, rfl⟩
        have f1' : mfr M1 M1' := by
          rw [hM1']
          split
          · exact mfr_rf _
          · exact mfr_i (by omega)
        have k26 : M1'.1 711 26 = nI k := by
          rw [hM1']
          split
          · exact g26
          · rw [lm_i_ns (by omega)]; exact g26
        have k12 : M1'.1 711 12 = M1.1 711 12 := by
          rw [hM1']
          split
          · rfl
          · exact lm_i_ns (by omega)
        have k27 : M1'.1 711 27 = nI (s + hh) := by
          rw [hM1']
          split
          · next q => rw [g27, hhe, if_pos q]; rfl
          · exact lm_i_eq
        have ko : ∀ b, b ≠ 711 → M1'.1 b = M1.1 b := fun b hb => by
          rw [hM1']
          split
          · rfl
          · exact lm_i_ne hb
        have k16 : ∀ j, j = 16 ∨ j = 17 ∨ j = 18 → M1'.1 711 j = M1.1 711 j := fun j hj => by
          rw [hM1']
          split
          · rfl
          · exact lm_i_ns (by omega)
        obtain ⟨M2, hM2⟩ : ∃ M2, M2 = lm_i (lm_i M1' 723 k (nI o)) 711 26 (nI (k + 1)) := ⟨_, rfl⟩
        have f2 : mfr M1' M2 := by rw [hM2]; exact mfr_tr mfr_o (mfr_i (by omega))
        have c2 : rrd tx tk p1 M2 := rrd_fr (by rw [hM2, lm_i_ne (by omega), lm_i_ne (by omega)]; exact ko 718 (by omega)) (fun j hj => by rw [hM2, lm_i_ns (by omega), lm_i_ne (by omega)]; exact k16 j hj) c1
        have fm2 : mfr m M2 := mfr_tr (mfr_r f1) (mfr_tr f1' f2)
        have z12 : M2.1 711 12 = m.1 711 12 := by rw [hM2, lm_i_ns (by omega), lm_i_ne (by omega), k12]; exact g12
        have z26 : M2.1 711 26 = nI (k + 1) := by rw [hM2]; exact lm_i_eq
        have z27 : M2.1 711 27 = nI (s + hh) := by rw [hM2, lm_i_ns (by omega), lm_i_ne (by omega)]; exact k27
        have zr : ∀ j, j < k + 1 → wset r k o j < N.1 ∧ M2.1 723 j = nI (wset r k o j) := fun j hj => by
          rw [hM2, lm_i_ne (by omega)]
          by_cases e : j = k
          · subst e; rw [lm_i_eq, wset_eq]; exact ⟨b2, rfl⟩
          · rw [lm_i_ns (by omega), wset_ne e, ko 723 (by omega)]; exact gr j (by omega)
        have zml : ml N w 711 M2 := ml_m fm2 hml
        have h172 : ∀ d, L224_16 (d + 3) 711 1 o2 o3 m = if sg tx tk p1 = 45 ∧ k + 1 < 8 then L224_172 (d + 3) 711 1 (nI o) (if k = 0 then 1 else nI hh) 1 M2 else L224_172 (d + 3) 711 1 (nI o) (if k = 0 then 1 else nI hh) 0 M2 := fun d => by
          have h129 : L224_103 (d + 3) 711 1 (nI o) (if k = 0 then 1 else nI hh) M1 = L224_129 (d + 3) 711 1 (nI o) (if k = 0 then 1 else nI hh) M1' := by
            rw [E224_103 _ _ _ _ _ sy, if_pos g18, g26, hM1']
            by_cases ck : k = 0
            · rw [if_pos (by rw [sp_le0 (by omega)]; omega), if_pos ck, if_pos ck]
            · rw [if_neg (by rw [sp_le0 (by omega)]; omega), if_neg ck, if_neg ck, g27, nI_add]
          have e26 : (lm_i M1' 723 k (nI o)).1 711 26 = nI k := by rw [lm_i_ne (by omega)]; exact k26
          rw [h103, h129, E224_129 _ _ _ _ _ sy, k26, lt_gd_t (sp_gd (by omega) (by omega)), nI_clamp (by omega), show (711 + 12 : Nat) = 723 from rfl, e26, nI_1, ← hM2, m186 (d + 2) c2, lt_cI_s, z26, show (45 : Int32) = nI 45 from rfl]
          by_cases cs : sg tx tk p1 = 45
          · rw [if_neg (by rw [rsg (by omega) c2]; exact fun q => q cs)]
            by_cases ck : k + 1 < 8
            · rw [if_neg (by rw [q_8, sp_len (by omega) (by omega)]; omega), if_pos (show sg tx tk p1 = 45 ∧ k + 1 < 8 from ⟨cs, ck⟩)]
            · rw [if_pos (by rw [q_8, sp_len (by omega) (by omega)]; omega), if_neg (show ¬ (sg tx tk p1 = 45 ∧ k + 1 < 8) from fun q => ck q.2)]
          · rw [if_pos (by rw [rsg (by omega) c2]; exact cs), if_neg (show ¬ (sg tx tk p1 = 45 ∧ k + 1 < 8) from fun q => cs q.1)]
        by_cases cs : k + 1 < 8 ∧ sg tx tk p1 = 45
        · rw [if_pos cs, ← hhe]
          obtain ⟨M, e5, g5, w5, x5⟩ := ih (k + 1) (wset r k o) (s + hh) (p1 + 1) (some (.inl (nI o))) (some (.inl (if k = 0 then 1 else nI hh))) (lm_i M2 711 17 (nI (p1 + 1))) (by omega) (by omega) (rrd_p c2 (sg_lt cs.2 (by omega))) (ml_m (mfr_i (by omega)) zml) (by rw [lm_i_ns (by omega)]; exact z26) (by rw [lm_i_ns (by omega)]; exact z27) (fun j hj => by rw [lm_i_ne (by omega)]; exact zr j hj)
          refine ⟨M, fun d => ?_, mfr_tr fm2 (mfr_tr (mfr_i (by omega)) g5), by rw [w5, lm_i_ns (by omega)]; exact z12, x5⟩
          rw [h172, if_pos ⟨cs.2, cs.1⟩, E224_172 _ _ _ _ _ _ sy, if_neg (by decide), c2.2.2.1, nI_1]
          exact e5 d
        · rw [if_neg cs, ← hhe]
          have h190 : ∀ d, L224_16 (d + 3) 711 1 o2 o3 m = if nI p1 < nI tk then (lt_cV (lt_ev (d + 3) 187 [.inr (.inr (some 711)), .inl (nI p1)] M2) (fun m1 => (some (none, m1)))) else (if (2 : Int32) ≤ nI (k + 1) then (some (none, M2)) else (lt_cV (lt_ev (d + 3) 187 [.inr (.inr (some 711)), .inl (nI p1)] M2) (fun m2 => (some (none, m2))))) := fun d => by
            rw [h172, if_neg (fun q => cs ⟨q.2, q.1⟩), E224_172 _ _ _ _ _ _ sy, if_pos rfl, E224_16 _ _ _ _ _ sy, if_pos rfl, E224_190 _ _ _ _ _ sy, c2.2.2.1, c2.1.2.1, z26]
          obtain ⟨e4, h4, f4⟩ := m187g (q := p1) (by omega) c2
          by_cases cp : p1 < tk
          · rw [if_pos (Or.inl cp)]
            refine ⟨_, fun d => ?_, mfr_tr fm2 (mfr_r f4), by rw [f4.1 711 12 (by omega)]; exact z12, by omega, h4.2.2⟩
            rw [h190, if_pos (by rw [sp_ltn (by omega) (by omega)]; exact cp), e4 (d + 2), lt_cV_s]
          · by_cases ck : k + 1 < 2
            · rw [if_pos (Or.inr ck)]
              refine ⟨_, fun d => ?_, mfr_tr fm2 (mfr_r f4), by rw [f4.1 711 12 (by omega)]; exact z12, by omega, h4.2.2⟩
              rw [h190, if_neg (by rw [sp_ltn (by omega) (by omega)]; exact cp), if_neg (by rw [q_2, sp_len (by omega) (by omega)]; omega), e4 (d + 2), lt_cV_s]
            · rw [if_neg (show ¬ (p1 < tk ∨ k + 1 < 2) by omega)]
              refine ⟨M2, fun d => ?_, fm2, z12, c2.2.2.2, z26, z27, fun j hj => (zr j hj).2⟩
              rw [h190, if_neg (by rw [sp_ltn (by omega) (by omega)]; exact cp), if_pos (by rw [q_2, sp_len (by omega) (by omega)]; omega)]
    · simp only [rtN]
      rw [hnu]
      refine ⟨M1, fun d => ?_, mfr_r f1, f1.1 711 12 (by omega), c1.2.1, c1.2.2⟩
      rw [E224_16 _ _ _ _ _ sy, if_neg (by decide), if_neg (fun q => q h.2.2.2), hml.2.1, e1 d, lt_cI_s, if_pos (rb18 c1), out M1 _ _ _ _ (rb18 c1) d]
theorem m224 (hN : wfN N) {m : lt_m} (h1 : tk ≤ 200) (h2 : m.1 711 12 = nI tk) (h3 : ∀ j, j < tk → tx j < 256 ∧ m.1 718 j &&& 255 = nI (tx j)) (hml : ml N w 711 m) : ∃ M, (∀ d, lt_ev (d + 4) 224 [.inr (.inr (some 711))] m = some (none, M)) ∧ mfr m M ∧ M.1 711 12 = 0 ∧ match rtN N.2.2.1 N.1 tx tk 8 0 (fun _ => 0) 0 0 with
  | .inl e => e ≤ 200 ∧ M.1 711 18 = nI e
  | .inr (k, r, s) => M.1 711 18 = -1 ∧ M.1 711 26 = nI k ∧ M.1 711 27 = nI s ∧ ∀ j, j < k → M.1 723 j = nI (r j) := by
  obtain ⟨M0, hM0⟩ : ∃ M0, M0 = lm_i (lm_i (lm_i (lm_i (lm_i (lm_i m 711 16 (nI tk)) 711 12 0) 711 17 0) 711 18 (-1)) 711 26 0) 711 27 0 := ⟨_, rfl⟩
  have f0 : mfr m M0 := by rw [hM0]; exact mfr_tr (mfr_i (by omega)) (mfr_tr (mfr_i (by omega)) (mfr_tr (mfr_i (by omega)) (mfr_tr (mfr_i (by omega)) (mfr_tr (mfr_i (by omega)) (mfr_i (by omega))))))
  have c0 : rrd tx tk 0 M0 := by
    refine ⟨⟨h1, ?_, fun j hj => ?_⟩, Nat.zero_le _, ?_, ?_⟩
    · rw [hM0, lm_i_ns (by omega), lm_i_ns (by omega), lm_i_ns (by omega), lm_i_ns (by omega), lm_i_ns (by omega), lm_i_eq]
    · rw [f0.1 718 j (by omega)]; exact h3 j hj
    · rw [hM0, lm_i_ns (by omega), lm_i_ns (by omega), lm_i_ns (by omega), lm_i_eq]; rfl
    · rw [hM0, lm_i_ns (by omega), lm_i_ns (by omega), lm_i_eq]
  have e12 : M0.1 711 12 = 0 := by rw [hM0, lm_i_ns (by omega), lm_i_ns (by omega), lm_i_ns (by omega), lm_i_ns (by omega), lm_i_eq]
  obtain ⟨M, e5, g5, w5, x5⟩ := m224l (w := w) hN 8 0 (fun _ => 0) 0 0 none none M0 (by omega) (by omega) c0 (ml_m f0 hml) (by rw [hM0, lm_i_ns (by omega)]; exact lm_i_eq) (by rw [hM0]; exact lm_i_eq) (fun j hj => by omega)
  refine ⟨M, fun d => ?_, mfr_tr f0 g5, by rw [w5, e12], x5⟩
  refine (E224 (d + 3) 711 sy m).trans ?_
  rw [E183 (d + 2) 711 sy m, lt_cV_s, h2, ← hM0]
  exact e5 d
end RM

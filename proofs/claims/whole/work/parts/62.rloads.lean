/-! ===== loads told by a text: the reference ===== -/
def ufr (m M : lt_m) : Prop := (∀ b k, ¬ (b = 725 ∨ b = 727 ∨ b = 711 ∧ (k = 12 ∨ k = 16 ∨ k = 17 ∨ k = 18 ∨ k = 36)) → M.1 b k = m.1 b k) ∧ M.2 = m.2
theorem ufr_rf (m : lt_m) : ufr m m := ⟨fun _ _ _ => rfl, rfl⟩
theorem ufr_tr {a b c : lt_m} (h1 : ufr a b) (h2 : ufr b c) : ufr a c := ⟨fun x k h => (h2.1 x k h).trans (h1.1 x k h), h2.2.trans h1.2⟩
theorem ufr_i {m : lt_m} {k : Nat} {v : Int32} (h : k = 12 ∨ k = 16 ∨ k = 17 ∨ k = 18 ∨ k = 36) : ufr m (lm_i m 711 k v) := ⟨fun b j hb => lm_i_ns (by omega), rfl⟩
theorem ufr_o {m : lt_m} {a k : Nat} {v : Int32} (h : a = 725 ∨ a = 727) : ufr m (lm_i m a k v) := ⟨fun b j hb => lm_i_ns (by omega), rfl⟩
theorem ufr_r {m M : lt_m} (h : rfr m M) : ufr m M := ⟨fun b k hb => h.1 b k (by omega), h.2⟩
theorem ml_u {N : NT} {w : Nat → Nat} {m M : lt_m} (h : ufr m M) (hm : ml N w 711 m) : ml N w 711 M := by
  obtain ⟨h0, h1, h2, h3, h4, h5⟩ := hm
  have c : ∀ b, b ≠ 711 → b ≠ 725 → b ≠ 727 → M.1 b = m.1 b := fun b g1 g2 g3 => funext fun k => h.1 b k (by omega)
  exact ⟨by rw [c (711 + 1) (by omega) (by omega) (by omega)]; exact h0, by rw [h.1 711 8 (by omega)]; exact h1, by rw [h.1 711 10 (by omega)]; exact h2, by rw [c (711 + 4) (by omega) (by omega) (by omega)]; exact h3, by rw [c (711 + 6) (by omega) (by omega) (by omega)]; exact h4, by rw [c (711 + 5) (by omega) (by omega) (by omega)]; exact h5⟩
section RL
variable {N : NT} {w : Nat → Nat} {tx : Nat → Nat} {tk : Nat}
def ldM (m M : lt_m) (x : Nat ⊕ (Nat × (Nat → Nat) × (Nat → Nat))) : Prop := ufr m M ∧ M.1 711 12 = m.1 711 12 ∧ match x with
  | .inl e => e ≤ 200 ∧ M.1 711 18 = nI e
  | .inr (k, gs, us) => M.1 711 18 = -1 ∧ M.1 711 36 = nI k ∧ ∀ j, j < k → M.1 727 j = nI (gs j) ∧ M.1 725 j = nI (us j)
theorem m262e {X : lt_m} (hb : ¬ X.1 711 18 = -1) : ∀ d, L262_120 d 711 1 0 X = some (none, X) := fun d => by
  rw [E262_120 _ _ _ _ sy, if_pos rfl, E262_22 _ _ _ sy, if_pos rfl, E262_138 _ _ _ sy, if_pos hb]
theorem m262l (hN : wfN N) : ∀ f k gs us p m, k + f = 8 → 0 < f → rrd tx tk p m → ml N w 711 m → m.1 711 36 = nI k → (∀ j, j < k → m.1 727 j = nI (gs j) ∧ m.1 725 j = nI (us j)) → ∃ M, (∀ d, L262_22 (d + 2) 711 1 m = some (none, M)) ∧ ldM m M (ldN N.2.1 tx tk f k gs us p) := by
  have hg6 := hN.2.2.1
  intro f
  induction f with
  | zero => intro k gs us p m hk h0; omega
  | succ f ih =>
    intro k gs us p m hk _ h hml h36 h7
    have hp := h.2.1
    have htk := h.1.1
    have a1 : (1 : Int32) = nI 1 := rfl
    have head : ∀ d, L262_22 (d + 2) 711 1 m = (lt_cI (lt_ev (d + 2) 188 [.inr (.inr (some 711)), .inl (nI 0), .inl (nI N.2.1 - 1), .inl (nI 1)] m) (fun v1 m1 => lt_gd (0 ≤ nI k ∧ (nI k).toNatClampNeg < 8) (lt_cV (lt_ev (d + 2) 189 [.inr (.inr (some 711)), .inl (nI 58)] (lm_i m1 727 (nI k).toNatClampNeg v1)) (fun m2 => (lt_cI (lt_ev (d + 2) 188 [.inr (.inr (some 711)), .inl (nI 1), .inl (nI 1000 - 1), .inl (nI 3)] m2) (fun v2 m3 => (lt_gd (0 ≤ (m2.1 711 36) ∧ ((m2.1 711 36)).toNatClampNeg < 8) (if ¬ ((lm_i (lm_i m3 725 ((m2.1 711 36)).toNatClampNeg v2) 711 36 (((lm_i m3 725 ((m2.1 711 36)).toNatClampNeg v2).1 711 36) + (1 : Int32))).1 711 18) = (-1 : Int32) then (L262_120 (d + 2) 711 1 (0 : Int32) (lm_i (lm_i m3 725 ((m2.1 711 36)).toNatClampNeg v2) 711 36 (((lm_i m3 725 ((m2.1 711 36)).toNatClampNeg v2).1 711 36) + (1 : Int32)))) else (lt_cI (lt_ev (d + 2) 186 [.inr (.inr (some 711))] (lm_i (lm_i m3 725 ((m2.1 711 36)).toNatClampNeg v2) 711 36 (((lm_i m3 725 ((m2.1 711 36)).toNatClampNeg v2).1 711 36) + (1 : Int32)))) (fun v3 m4 => (if ¬ v3 = (44 : Int32) then (L262_120 (d + 2) 711 1 (0 : Int32) m4) else (if (8 : Int32) ≤ (m4.1 711 36) then (L262_120 (d + 2) 711 1 (0 : Int32) m4) else (L262_120 (d + 2) 711 1 (1 : Int32) m4))))))))))))) := fun d => by
      rw [E262_22 _ _ _ sy, if_neg (by decide), if_neg (fun q => q h.2.2.2), h36, hml.2.2.1]
      rfl
    -- a round that has failed
    have fail : ∀ (m3 m2 : lt_m) (u : Int32) (e : Nat), rbd tx tk e m3 → m2.1 711 36 = nI k → m3.1 711 36 = nI k → ufr m m3 → m3.1 711 12 = m.1 711 12 → ∃ M, (∀ d, (lt_gd (0 ≤ (m2.1 711 36) ∧ ((m2.1 711 36)).toNatClampNeg < 8) (if ¬ ((lm_i (lm_i m3 725 ((m2.1 711 36)).toNatClampNeg u) 711 36 (((lm_i m3 725 ((m2.1 711 36)).toNatClampNeg u).1 711 36) + (1 : Int32))).1 711 18) = (-1 : Int32) then (L262_120 (d + 2) 711 1 (0 : Int32) (lm_i (lm_i m3 725 ((m2.1 711 36)).toNatClampNeg u) 711 36 (((lm_i m3 725 ((m2.1 711 36)).toNatClampNeg u).1 711 36) + (1 : Int32)))) else (lt_cI (lt_ev (d + 2) 186 [.inr (.inr (some 711))] (lm_i (lm_i m3 725 ((m2.1 711 36)).toNatClampNeg u) 711 36 (((lm_i m3 725 ((m2.1 711 36)).toNatClampNeg u).1 711 36) + (1 : Int32)))) (fun v3 m4 => (if ¬ v3 = (44 : Int32) then (L262_120 (d + 2) 711 1 (0 : Int32) m4) else (if (8 : Int32) ≤ (m4.1 711 36) then (L262_120 (d + 2) 711 1 (0 : Int32) m4) else (L262_120 (d + 2) 711 1 (1 : Int32) m4))))))) = some (none, M)) ∧ ldM m M (.inl e) := by
      intro m3 m2 u e hb h2 h3 hu h12
      obtain ⟨X, hX⟩ : ∃ X, X = lm_i (lm_i m3 725 k u) 711 36 (nI (k + 1)) := ⟨_, rfl⟩
      have x18 : X.1 711 18 = nI e := by rw [hX, lm_i_ns (by omega), lm_i_ne (by omega)]; exact hb.2.2
      have xb : ¬ X.1 711 18 = -1 := by have := hb.2.1; rw [x18, sp_m1 (by omega)]; exact not_false
      refine ⟨X, fun d => ?_, ufr_tr hu (by rw [hX]; exact ufr_tr (ufr_o (by omega)) (ufr_i (by omega))), by rw [hX, lm_i_ns (by omega), lm_i_ne (by omega)]; exact h12, hb.2.1, x18⟩
      have e36 : (lm_i m3 725 k u).1 711 36 = nI k := by rw [lm_i_ne (by omega)]; exact h3
      rw [h2, lt_gd_t (sp_gd (by omega) (by omega)), nI_clamp (by omega), e36, nI_1, ← hX, if_pos xb, m262e xb]
    rcases m188 (lo := 0) (hi1 := N.2.1) (dg := 1) (by omega) (by omega) (by omega) h with ⟨g, p1, M1, hnu, e1, c1, f1⟩ | ⟨e, u, M1, hnu, e1, c1, f1⟩
    · obtain ⟨-, b2, -, b4, -, b6⟩ := nuN_r hp (by decide) hnu
      obtain ⟨M2, hM2⟩ : ∃ M2, M2 = lm_i M1 727 k (nI g) := ⟨_, rfl⟩
      have c2 : rrd tx tk p1 M2 := rrd_fr (by rw [hM2, lm_i_ne (by omega)]) (fun j hj => by rw [hM2, lm_i_ne (by omega)]) c1
      have f2 : ufr m M2 := ufr_tr (ufr_r f1) (by rw [hM2]; exact ufr_o (by omega))
      have g36 : M2.1 711 36 = nI k := by rw [hM2, lm_i_ne (by omega), f1.1 711 36 (by omega)]; exact h36
      have g12 : M2.1 711 12 = m.1 711 12 := by rw [hM2, lm_i_ne (by omega), f1.1 711 12 (by omega)]
      have g7 : ∀ j, j < k + 1 → M2.1 727 j = nI (wset gs k g j) := fun j hj => by
        rw [hM2]
        by_cases e : j = k
        · subst e; rw [lm_i_eq, wset_eq]
        · rw [lm_i_ns (by omega), wset_ne e, f1.1 727 j (by omega)]; exact (h7 j (by omega)).1
      have g5 : ∀ j, j < k → M2.1 725 j = nI (us j) := fun j hj => by
        rw [hM2, lm_i_ne (by omega), f1.1 725 j (by omega)]; exact (h7 j hj).2
      by_cases cs : sg tx tk p1 = 58
      · have hLD : ldN N.2.1 tx tk (f + 1) k gs us p = (match nuN tx tk 3 1 1000 (p1 + 1) with
          | .inl e => .inl e
          | .inr (u, p2) => if k + 1 < 8 ∧ sg tx tk p2 = 44 then ldN N.2.1 tx tk f (k + 1) (wset gs k g) (wset us k u) (p2 + 1) else if p2 < tk then .inl p2 else .inr (k + 1, wset gs k g, wset us k u)) := by
          simp only [ldN]
          rw [hnu]
          simp only
          rw [if_pos cs]
          rfl
        rw [hLD]
        obtain ⟨e3, c3⟩ := m189t (by omega) c2 cs
        have f3 : ufr m (lm_i M2 711 17 (nI (p1 + 1))) := ufr_tr f2 (ufr_i (by omega))
        have y36 : (lm_i M2 711 17 (nI (p1 + 1))).1 711 36 = nI k := by rw [lm_i_ns (by omega)]; exact g36
        rcases m188 (lo := 1) (hi1 := 1000) (dg := 3) (by omega) (by omega) (by omega) c3 with ⟨u, p2, M4, hnu4, e4, c4, f4⟩ | ⟨e, u, M4, hnu4, e4, c4, f4⟩
        · obtain ⟨d1, d2, -, d4, -, d6⟩ := nuN_r c3.2.1 (by decide) hnu4
          rw [hnu4]
          simp only
          obtain ⟨M5, hM5⟩ : ∃ M5, M5 = lm_i (lm_i M4 725 k (nI u)) 711 36 (nI (k + 1)) := ⟨_, rfl⟩
          have c5 : rrd tx tk p2 M5 := rrd_fr (by rw [hM5, lm_i_ne (by omega), lm_i_ne (by omega)]) (fun j hj => by rw [hM5, lm_i_ns (by omega), lm_i_ne (by omega)]) c4
          have f5 : ufr m M5 := ufr_tr f3 (ufr_tr (ufr_r f4) (by rw [hM5]; exact ufr_tr (ufr_o (by omega)) (ufr_i (by omega))))
          have z36 : M5.1 711 36 = nI (k + 1) := by rw [hM5]; exact lm_i_eq
          have z12 : M5.1 711 12 = m.1 711 12 := by rw [hM5, lm_i_ns (by omega), lm_i_ne (by omega), f4.1 711 12 (by omega), lm_i_ns (by omega)]; exact g12
          have z7 : ∀ j, j < k + 1 → M5.1 727 j = nI (wset gs k g j) ∧ M5.1 725 j = nI (wset us k u j) := fun j hj => by
            rw [hM5, lm_i_ne (by omega), lm_i_ne (by omega), lm_i_ne (by omega), f4.1 727 j (by omega), lm_i_ne (by omega)]
            refine ⟨g7 j hj, ?_⟩
            by_cases e : j = k
            · subst e; rw [lm_i_eq, wset_eq]
            · rw [lm_i_ns (by omega), wset_ne e, f4.1 725 j (by omega), lm_i_ne (by omega)]; exact g5 j (by omega)
          have es : (lm_i M4 725 k (nI u)).1 711 36 = nI k := by rw [lm_i_ne (by omega), f4.1 711 36 (by omega)]; exact y36
          have body : ∀ d, L262_22 (d + 2) 711 1 m = if sg tx tk p2 = 44 ∧ k + 1 < 8 then (L262_120 (d + 2) 711 1 1 M5) else (L262_120 (d + 2) 711 1 0 M5) := fun d => by
            rw [head, e1 d, lt_cI_s, lt_gd_t (sp_gd (by omega) (by omega)), nI_clamp (by omega), ← hM2, e3 d, lt_cV_s, e4 d, lt_cI_s, y36, lt_gd_t (sp_gd (by omega) (by omega)), nI_clamp (by omega), es, nI_1, ← hM5, if_neg (fun q => q c5.2.2.2), m186 (d + 1) c5, lt_cI_s, z36, show (44 : Int32) = nI 44 from rfl]
            by_cases c44 : sg tx tk p2 = 44
            · rw [if_neg (by rw [rsg (by omega) c5]; exact fun q => q c44)]
              by_cases ck : k + 1 < 8
              · rw [if_neg (by rw [q_8, sp_len (by omega) (by omega)]; omega), if_pos (show sg tx tk p2 = 44 ∧ k + 1 < 8 from ⟨c44, ck⟩)]
              · rw [if_pos (by rw [q_8, sp_len (by omega) (by omega)]; omega), if_neg (show ¬ (sg tx tk p2 = 44 ∧ k + 1 < 8) from fun q => ck q.2)]
            · rw [if_pos (by rw [rsg (by omega) c5]; exact c44), if_neg (show ¬ (sg tx tk p2 = 44 ∧ k + 1 < 8) from fun q => c44 q.1)]
          by_cases cc : k + 1 < 8 ∧ sg tx tk p2 = 44
          · rw [if_pos cc]
            obtain ⟨M, e7, g7', w7, x7⟩ := ih (k + 1) (wset gs k g) (wset us k u) (p2 + 1) (lm_i M5 711 17 (nI (p2 + 1))) (by omega) (by omega) (rrd_p c5 (sg_lt cc.2 (by omega))) (ml_u (ufr_tr f5 (ufr_i (by omega))) hml) (by rw [lm_i_ns (by omega)]; exact z36) (fun j hj => by rw [lm_i_ne (by omega), lm_i_ne (by omega)]; exact z7 j hj)
            refine ⟨M, fun d => ?_, ufr_tr f5 (ufr_tr (ufr_i (by omega)) g7'), by rw [w7, lm_i_ns (by omega)]; exact z12, x7⟩
            rw [body, if_pos ⟨cc.2, cc.1⟩, E262_120 _ _ _ _ sy, if_neg (by decide), c5.2.2.1, nI_1]
            exact e7 d
          · rw [if_neg cc]
            obtain ⟨e8, h8, f8⟩ := m187g (q := p2) (by omega) c5
            have h138 : ∀ d, L262_22 (d + 2) 711 1 m = if nI tk ≤ nI p2 then (some (none, M5)) else (lt_cV (lt_ev (d + 2) 187 [.inr (.inr (some 711)), .inl (nI p2)] M5) (fun m1 => (some (none, m1)))) := fun d => by
              rw [body, if_neg (fun q => cc ⟨q.2, q.1⟩), E262_120 _ _ _ _ sy, if_pos rfl, E262_22 _ _ _ sy, if_pos rfl, E262_138 _ _ _ sy, if_neg (fun q => q c5.2.2.2), c5.2.2.1, c5.1.2.1]
            by_cases cp : p2 < tk
            · rw [if_pos cp]
              refine ⟨_, fun d => ?_, ufr_tr f5 (ufr_r f8), by rw [f8.1 711 12 (by omega)]; exact z12, by omega, h8.2.2⟩
              rw [h138, if_neg (by rw [sp_len (by omega) (by omega)]; omega), e8 (d + 1), lt_cV_s]
            · rw [if_neg cp]
              refine ⟨M5, fun d => ?_, f5, z12, c5.2.2.2, z36, z7⟩
              rw [h138, if_pos (by rw [sp_len (by omega) (by omega)]; omega)]
        · rw [hnu4]
          simp only
          obtain ⟨M, e7, g7'⟩ := fail M4 (lm_i M2 711 17 (nI (p1 + 1))) u e c4 y36 (by rw [f4.1 711 36 (by omega)]; exact y36) (ufr_tr f3 (ufr_r f4)) (by rw [f4.1 711 12 (by omega), lm_i_ns (by omega)]; exact g12)
          refine ⟨M, fun d => ?_, g7'⟩
          rw [head, e1 d, lt_cI_s, lt_gd_t (sp_gd (by omega) (by omega)), nI_clamp (by omega), ← hM2, e3 d, lt_cV_s, e4 d, lt_cI_s]
          exact e7 d
      · have hLD : ldN N.2.1 tx tk (f + 1) k gs us p = .inl p1 := by
          simp only [ldN]
          rw [hnu]
          simp only
          rw [if_neg cs]
        rw [hLD]
        obtain ⟨e3, c3⟩ := m189f (by omega) c2 cs
        obtain ⟨M, e7, g7'⟩ := fail (lm_i M2 711 18 (nI p1)) (lm_i M2 711 18 (nI p1)) (nI 1) p1 c3 (by rw [lm_i_ns (by omega)]; exact g36) (by rw [lm_i_ns (by omega)]; exact g36) (ufr_tr f2 (ufr_i (by omega))) (by rw [lm_i_ns (by omega)]; exact g12)
        refine ⟨M, fun d => ?_, g7'⟩
        rw [head, e1 d, lt_cI_s, lt_gd_t (sp_gd (by omega) (by omega)), nI_clamp (by omega), ← hM2, e3 d, lt_cV_s, m188b _ _ _ c3 d, lt_cI_s]
        exact e7 d
    · have hLD : ldN N.2.1 tx tk (f + 1) k gs us p = .inl e := by
        simp only [ldN]
        rw [hnu]
      rw [hLD]
      obtain ⟨M2, hM2⟩ : ∃ M2, M2 = lm_i M1 727 k u := ⟨_, rfl⟩
      have c2 : rbd tx tk e M2 := rbd_fr (by rw [hM2, lm_i_ne (by omega)]) (fun j hj => by rw [hM2, lm_i_ne (by omega)]) c1
      have f2 : ufr m M2 := ufr_tr (ufr_r f1) (by rw [hM2]; exact ufr_o (by omega))
      have g36 : M2.1 711 36 = nI k := by rw [hM2, lm_i_ne (by omega), f1.1 711 36 (by omega)]; exact h36
      have g12 : M2.1 711 12 = m.1 711 12 := by rw [hM2, lm_i_ne (by omega), f1.1 711 12 (by omega)]
      obtain ⟨M, e7, g7'⟩ := fail M2 M2 (nI 1) e c2 g36 g36 f2 g12
      refine ⟨M, fun d => ?_, g7'⟩
      rw [head, e1 d, lt_cI_s, lt_gd_t (sp_gd (by omega) (by omega)), nI_clamp (by omega), ← hM2, m189b _ c2 d, lt_cV_s, m188b _ _ _ c2 d, lt_cI_s]
      exact e7 d
theorem m262 (hN : wfN N) {m : lt_m} (h1 : tk ≤ 200) (h2 : m.1 711 12 = nI tk) (h3 : ∀ j, j < tk → tx j < 256 ∧ m.1 718 j &&& 255 = nI (tx j)) (hml : ml N w 711 m) : ∃ M, (∀ d, lt_ev (d + 3) 262 [.inr (.inr (some 711))] m = some (none, M)) ∧ ufr m M ∧ M.1 711 12 = 0 ∧ match ldA N.2.1 tx tk with
  | .inl e => e ≤ 200 ∧ M.1 711 18 = nI e
  | .inr (k, gs, us) => M.1 711 18 = -1 ∧ M.1 711 36 = nI k ∧ ∀ j, j < k → M.1 727 j = nI (gs j) ∧ M.1 725 j = nI (us j) := by
  obtain ⟨M0, hM0⟩ : ∃ M0, M0 = lm_i (lm_i (lm_i (lm_i (lm_i m 711 16 (nI tk)) 711 12 0) 711 17 0) 711 18 (-1)) 711 36 0 := ⟨_, rfl⟩
  have f0 : ufr m M0 := by rw [hM0]; exact ufr_tr (ufr_i (by omega)) (ufr_tr (ufr_i (by omega)) (ufr_tr (ufr_i (by omega)) (ufr_tr (ufr_i (by omega)) (ufr_i (by omega)))))
  have z16 : M0.1 711 16 = nI tk := by rw [hM0, lm_i_ns (by omega), lm_i_ns (by omega), lm_i_ns (by omega), lm_i_ns (by omega), lm_i_eq]
  have c0 : rrd tx tk 0 M0 := by
    refine ⟨⟨h1, z16, fun j hj => ?_⟩, Nat.zero_le _, ?_, ?_⟩
    · rw [f0.1 718 j (by omega)]; exact h3 j hj
    · rw [hM0, lm_i_ns (by omega), lm_i_ns (by omega), lm_i_eq]; rfl
    · rw [hM0, lm_i_ns (by omega), lm_i_eq]
  have z12 : M0.1 711 12 = 0 := by rw [hM0, lm_i_ns (by omega), lm_i_ns (by omega), lm_i_ns (by omega), lm_i_eq]
  have z36 : M0.1 711 36 = nI 0 := by rw [hM0]; exact lm_i_eq
  have head : ∀ d, lt_ev (d + 3) 262 [.inr (.inr (some 711))] m = if nI tk ≤ 0 then L262_22 (d + 2) 711 0 M0 else L262_22 (d + 2) 711 1 M0 := fun d => by
    refine (E262 (d + 2) 711 sy m).trans ?_
    rw [E183 (d + 1) 711 sy m, lt_cV_s, h2, ← hM0, z16]
  unfold ldA
  by_cases c : tk = 0
  · rw [if_pos c]
    refine ⟨M0, fun d => ?_, f0, z12, c0.2.2.2, z36, fun j hj => absurd hj (Nat.not_lt_zero _)⟩
    rw [head, if_pos (by rw [sp_le0 (by omega)]; omega), E262_22 _ _ _ sy, if_pos rfl, E262_138 _ _ _ sy, if_neg (fun q => q c0.2.2.2), z16, c0.2.2.1, if_pos (by rw [sp_len (by omega) (by omega)]; omega)]
  · rw [if_neg c]
    obtain ⟨M, e5, g5, w5, x5⟩ := m262l (w := w) hN 8 0 (fun _ => 0) (fun _ => 0) 0 M0 (by omega) (by omega) c0 (ml_u f0 hml) z36 (fun j hj => absurd hj (Nat.not_lt_zero _))
    refine ⟨M, fun d => ?_, ufr_tr f0 g5, by rw [w5, z12], x5⟩
    rw [head, if_neg (by rw [sp_le0 (by omega)]; omega), e5 d]
end RL

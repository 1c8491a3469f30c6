/-! ===== loads told by a text ===== -/
def ldN (G : Nat) (tx : Nat → Nat) (tk : Nat) : Nat → Nat → (Nat → Nat) → (Nat → Nat) → Nat → Nat ⊕ (Nat × (Nat → Nat) × (Nat → Nat))
  | 0, _, _, _, _ => .inl 0
  | f + 1, k, gs, us, p => match nuN tx tk 1 0 G p with
    | .inl e => .inl e
    | .inr (g, p1) => if sg tx tk p1 = 58 then (match nuN tx tk 3 1 1000 (p1 + 1) with
      | .inl e => .inl e
      | .inr (u, p2) => if k + 1 < 8 ∧ sg tx tk p2 = 44 then ldN G tx tk f (k + 1) (wset gs k g) (wset us k u) (p2 + 1) else if p2 < tk then .inl p2 else .inr (k + 1, wset gs k g, wset us k u)) else .inl p1
def ldOK (G k : Nat) (gs us : Nat → Nat) : Prop := ∀ j, j < k → gs j < G ∧ 1 ≤ us j ∧ us j ≤ 999
def ldA (G : Nat) (tx : Nat → Nat) (tk : Nat) : Nat ⊕ (Nat × (Nat → Nat) × (Nat → Nat)) := if tk = 0 then .inr (0, fun _ => 0, fun _ => 0) else ldN G tx tk 8 0 (fun _ => 0) (fun _ => 0) 0
theorem ld_set {G k g u : Nat} {gs us : Nat → Nat} (h : ldOK G k gs us) (hg : g < G) (hu : 1 ≤ u ∧ u ≤ 999) : ldOK G (k + 1) (wset gs k g) (wset us k u) := fun j hj => by
  by_cases e : j = k
  · subst e; rw [wset_eq, wset_eq]; exact ⟨hg, hu⟩
  · rw [wset_ne e, wset_ne e]; exact h j (by omega)
theorem s_8 : ts_sh 8 = (0, 3) := sf_of sx 3 (by decide) (by decide)
theorem s_9 : ts_sh (8 + 1) = (1, 8) := sf_of s_8 0 (by decide) (by decide)
theorem s_10 : ts_sh (8 + 2) = (1, 8) := sf_of s_8 1 (by decide) (by decide)
theorem s_11 : ts_sh (8 + 3) = (1, 8) := sf_of s_8 2 (by decide) (by decide)
section LD
variable {N : NT} {A : Nat} {tx : Nat → Nat} {tk : Nat}
def lfr (m M : lt_m) : Prop := (∀ b, b ≠ 1 → b ≠ 2 → b ≠ 8 → b ≠ 9 → b ≠ 10 → M.1 b = m.1 b) ∧ M.2 = m.2
theorem lfr_rf (m : lt_m) : lfr m m := ⟨fun _ _ _ _ _ _ => rfl, rfl⟩
theorem lfr_tr {a b c : lt_m} (h1 : lfr a b) (h2 : lfr b c) : lfr a c := ⟨fun x q1 q2 q3 q4 q5 => (h2.1 x q1 q2 q3 q4 q5).trans (h1.1 x q1 q2 q3 q4 q5), h2.2.trans h1.2⟩
theorem lfr_i {m : lt_m} {a k : Nat} {v : Int32} (h : a = 1 ∨ a = 2 ∨ a = 8 ∨ a = 9 ∨ a = 10) : lfr m (lm_i m a k v) := ⟨fun b _ _ _ _ _ => lm_i_ne (by omega), rfl⟩
theorem lfr_1 {m M : lt_m} (h : ∀ b, b ≠ 1 → M.1 b = m.1 b) (r : M.2 = m.2) : lfr m M := ⟨fun b q1 _ _ _ _ => h b q1, r⟩
theorem lfr_12 {m M : lt_m} (h : ∀ b, b ≠ 1 → b ≠ 2 → M.1 b = m.1 b) (r : M.2 = m.2) : lfr m M := ⟨fun b q1 q2 _ _ _ => h b q1 q2, r⟩
theorem nR_l {m M : lt_m} (hA : 13 ≤ A) (h : lfr m M) (hn : nR N A m) : nR N A M := nR_fr (fun b g1 g2 => h.1 b (by omega) (by omega) (by omega) (by omega) (by omega)) hn
def ldE (m M : lt_m) (x : Nat ⊕ (Nat × (Nat → Nat) × (Nat → Nat))) : Prop := lfr m M ∧ M.1 2 1 = 0 ∧ match x with
  | .inl e => M.1 1 2 = nI e
  | .inr (k, gs, us) => M.1 1 2 = -1 ∧ M.1 8 3 = nI k ∧ ∀ j, j < k → M.1 9 j = nI (gs j) ∧ M.1 10 j = nI (us j)
/-- the rest of a round, when reading has failed -/
theorem k156b (hA : ts_sh A = (0, 5)) (v2 : Int32) {k e : Nat} {m : lt_m} (hk : k < 8) (h1 : m.1 8 3 = nI k) (h : cbd tx tk e m) : ∃ M, (∀ d, lt_cV (lt_ev (d + 3) 17 [.inr (.inr (some (8 + 2))), .inl (nI k), .inl v2] m) (fun m7 => (if (8 : Int32) ≤ ((lm_i m7 8 3 ((m7.1 8 3) + (1 : Int32))).1 8 3) then (L156_22 (d + 3) 8 1 A (0 : Int32) (lm_i m7 8 3 ((m7.1 8 3) + (1 : Int32)))) else (lt_cI (lt_ev (d + 3) 43 [.inr (.inr (some 1)), .inl (44 : Int32)] (lm_i m7 8 3 ((m7.1 8 3) + (1 : Int32)))) (fun v3 m8 => (if v3 = 0 then (L156_22 (d + 3) 8 1 A (0 : Int32) m8) else (L156_22 (d + 3) 8 1 A (1 : Int32) m8)))))) = some (none, M)) ∧ lfr m M ∧ M.1 2 1 = 0 ∧ M.1 1 2 = nI e := by
  obtain ⟨M1, hM1⟩ : ∃ M1, M1 = lm_i (lm_i m 10 k v2) 8 3 (nI (k + 1)) := ⟨_, rfl⟩
  have c1 : cbd tx tk e M1 := cbd_fr (fun b hb => by rw [hM1, lm_i_ne (by omega), lm_i_ne (by omega)]) h
  have f1 : lfr m M1 := by rw [hM1]; exact lfr_tr (lfr_i (by omega)) (lfr_i (by omega))
  obtain ⟨M, e4, w4, g4, f4, r4⟩ := k51b c1
  refine ⟨M, fun d => ?_, lfr_tr f1 (lfr_12 f4 r4), g4, w4⟩
  have e22 : L156_22 (d + 3) 8 1 A 0 M1 = some (none, M) := by
    rw [E156_22 _ _ _ _ _ s_8 s_1 hA, if_pos rfl, e4 d, lt_cV_s]
  have es : (lm_i m 10 k v2).1 8 3 = nI k := by rw [lm_i_ne (by omega)]; exact h1
  rw [k17 (d + 2) s_10 hk (by decide) v2, lt_cV_s]
  show (if (8 : Int32) ≤ ((lm_i (lm_i m 10 k v2) 8 3 (((lm_i m 10 k v2).1 8 3) + (1 : Int32))).1 8 3) then _ else _) = _
  rw [es, nI_1, ← hM1]
  split
  · exact e22
  · rw [k43b _ c1 (d + 1), lt_cI_s, if_pos rfl, e22]
theorem k156l (hA : ts_sh A = (0, 5)) (hA2 : 13 ≤ A) (hN : wfN N) : ∀ f k gs us p m, k + f = 8 → 0 < f → crd tx tk p m → nR N A m → m.1 8 3 = nI k → (∀ j, j < k → m.1 9 j = nI (gs j) ∧ m.1 10 j = nI (us j)) → ldOK N.2.1 k gs us → ∃ M, (∀ d, L156_22 (d + 3) 8 1 A 1 m = some (none, M)) ∧ ldE m M (ldN N.2.1 tx tk f k gs us p) ∧ ∀ k' gs' us', ldN N.2.1 tx tk f k gs us p = .inr (k', gs', us') → k' ≤ 8 ∧ ldOK N.2.1 k' gs' us' := by
  have hg6 := hN.2.2.1
  have hd1 : dgs N.2.1 = 1 := by unfold dgs; rw [if_pos (by omega)]
  have hd3 : dgs 1000 = 3 := by decide
  intro f
  induction f with
  | zero => intro k gs us p m hk h0; omega
  | succ f ih =>
    intro k gs us p m hk _ h hn h83 h9 hok
    have hp := h.2.1
    have head : ∀ d, L156_22 (d + 3) 8 1 A 1 m = lt_cI (lt_ev (d + 3) 37 [.inr (.inr (some 1)), .inl (nI 0), .inl (nI N.2.1 - 1)] m) (fun v1 m3 => (lt_cV (lt_ev (d + 3) 17 [.inr (.inr (some (8 + 1))), .inl (nI k), .inl v1] m3) (fun m4 => (lt_cV (lt_ev (d + 3) 42 [.inr (.inr (some 1)), .inl (nI 58)] m4) (fun m5 => (lt_cI (lt_ev (d + 3) 37 [.inr (.inr (some 1)), .inl (nI 1), .inl (nI 1000 - 1)] m5) (fun v2 m6 => (lt_cV (lt_ev (d + 3) 17 [.inr (.inr (some (8 + 2))), .inl (m5.1 8 3), .inl v2] m6) (fun m7 => (if (8 : Int32) ≤ ((lm_i m7 8 3 ((m7.1 8 3) + (1 : Int32))).1 8 3) then (L156_22 (d + 3) 8 1 A (0 : Int32) (lm_i m7 8 3 ((m7.1 8 3) + (1 : Int32)))) else (lt_cI (lt_ev (d + 3) 43 [.inr (.inr (some 1)), .inl (44 : Int32)] (lm_i m7 8 3 ((m7.1 8 3) + (1 : Int32)))) (fun v3 m8 => (if v3 = 0 then (L156_22 (d + 3) 8 1 A (0 : Int32) m8) else (L156_22 (d + 3) 8 1 A (1 : Int32) m8)))))))))))))) := fun d => by
      rw [E156_22 _ _ _ _ _ s_8 s_1 hA, if_neg (by decide), h83, if_neg (by rw [q_8, sp_len (by omega) (by omega)]; omega), hn.2.1]
      rfl
    rcases k37 (lo := 0) (hi1 := N.2.1) (by omega) (by omega) h with ⟨g, p1, M1, hnu, e1, c1, f1, r1⟩ | ⟨e, M1, hnu, e1, c1, f1, r1⟩
    · rw [hd1] at hnu
      obtain ⟨-, b2, -, b4, -, b6⟩ := nuN_r hp (by decide) hnu
      obtain ⟨M2, hM2⟩ : ∃ M2, M2 = lm_i M1 9 k (nI g) := ⟨_, rfl⟩
      have c2 : crd tx tk p1 M2 := crd_fr (fun b hb => by rw [hM2, lm_i_ne (by omega)]) c1
      have f2 : lfr m M2 := lfr_tr (lfr_1 f1 r1) (by rw [hM2]; exact lfr_i (by omega))
      have k17a : ∀ d, lt_ev (d + 3) 17 [.inr (.inr (some (8 + 1))), .inl (nI k), .inl (nI g)] M1 = some (none, M2) := fun d => by rw [hM2]; exact k17 (d + 2) s_9 (by omega) (by decide) _
      have g83 : M2.1 8 3 = nI k := by rw [hM2, lm_i_ne (by omega), f1 8 (by omega)]; exact h83
      have g9 : ∀ j, j < k + 1 → M2.1 9 j = nI (wset gs k g j) := fun j hj => by
        rw [hM2]
        by_cases e : j = k
        · subst e; rw [lm_i_eq, wset_eq]
        · rw [lm_i_ns (by omega), wset_ne e, f1 9 (by omega)]; exact (h9 j (by omega)).1
      have g10 : ∀ j, j < k → M2.1 10 j = nI (us j) := fun j hj => by
        rw [hM2, lm_i_ne (by omega), f1 10 (by omega)]; exact (h9 j hj).2
      by_cases cs : sg tx tk p1 = 58
      · have hLD : ldN N.2.1 tx tk (f + 1) k gs us p = (match nuN tx tk 3 1 1000 (p1 + 1) with
          | .inl e => .inl e
          | .inr (u, p2) => if k + 1 < 8 ∧ sg tx tk p2 = 44 then ldN N.2.1 tx tk f (k + 1) (wset gs k g) (wset us k u) (p2 + 1) else if p2 < tk then .inl p2 else .inr (k + 1, wset gs k g, wset us k u)) := by
          simp only [ldN]
          rw [hnu]
          simp only
          rw [if_pos cs]
        rw [hLD]
        obtain ⟨e3, c3⟩ := k42t (by omega) c2 cs
        have f3 : lfr m (lm_i M2 1 1 (nI (p1 + 1))) := lfr_tr f2 (lfr_i (by omega))
        have y83 : (lm_i M2 1 1 (nI (p1 + 1))).1 8 3 = nI k := by rw [lm_i_ne (by omega)]; exact g83
        rcases k37 (lo := 1) (hi1 := 1000) (by omega) (by omega) c3 with ⟨u, p2, M4, hnu4, e4, c4, f4, r4⟩ | ⟨e, M4, hnu4, e4, c4, f4, r4⟩
        · rw [hd3] at hnu4
          obtain ⟨d1, d2, -, d4, -, d6⟩ := nuN_r c3.2.1 (by decide) hnu4
          rw [hnu4]
          simp only
          obtain ⟨M5, hM5⟩ : ∃ M5, M5 = lm_i (lm_i M4 10 k (nI u)) 8 3 (nI (k + 1)) := ⟨_, rfl⟩
          have c5 : crd tx tk p2 M5 := crd_fr (fun b hb => by rw [hM5, lm_i_ne (by omega), lm_i_ne (by omega)]) c4
          have f5 : lfr m M5 := lfr_tr f3 (lfr_tr (lfr_1 f4 r4) (by rw [hM5]; exact lfr_tr (lfr_i (by omega)) (lfr_i (by omega))))
          have z83 : M5.1 8 3 = nI (k + 1) := by rw [hM5]; exact lm_i_eq
          have z9 : ∀ j, j < k + 1 → M5.1 9 j = nI (wset gs k g j) ∧ M5.1 10 j = nI (wset us k u j) := fun j hj => by
            rw [hM5, lm_i_ne (by omega), lm_i_ne (by omega), lm_i_ne (by omega), f4 9 (by omega), lm_i_ne (by omega)]
            refine ⟨g9 j hj, ?_⟩
            by_cases e : j = k
            · subst e; rw [lm_i_eq, wset_eq]
            · rw [lm_i_ns (by omega), wset_ne e, f4 10 (by omega), lm_i_ne (by omega)]; exact g10 j (by omega)
          have hok5 := ld_set hok b2 ⟨d1, by omega⟩
          have es : (lm_i M4 10 k (nI u)).1 8 3 = nI k := by rw [lm_i_ne (by omega), f4 8 (by omega)]; exact y83
          have k17b : ∀ d, lt_ev (d + 3) 17 [.inr (.inr (some (8 + 2))), .inl (nI k), .inl (nI u)] M4 = some (none, lm_i M4 10 k (nI u)) := fun d => k17 (d + 2) s_10 (by omega) (by decide) _
          have body : ∀ d, L156_22 (d + 3) 8 1 A 1 m = (if (8 : Int32) ≤ nI (k + 1) then (L156_22 (d + 3) 8 1 A (0 : Int32) M5) else (lt_cI (lt_ev (d + 3) 43 [.inr (.inr (some 1)), .inl (nI 44)] M5) (fun v3 m8 => (if v3 = 0 then (L156_22 (d + 3) 8 1 A (0 : Int32) m8) else (L156_22 (d + 3) 8 1 A (1 : Int32) m8))))) := fun d => by
            rw [head, e1 d, lt_cI_s, k17a d, lt_cV_s, e3 d, lt_cV_s, e4 d, lt_cI_s, y83, k17b d, lt_cV_s]
            show (if (8 : Int32) ≤ ((lm_i (lm_i M4 10 k (nI u)) 8 3 (((lm_i M4 10 k (nI u)).1 8 3) + (1 : Int32))).1 8 3) then _ else _) = _
            rw [es, nI_1, ← hM5, z83]
            rfl
          obtain ⟨M6, e6, w6, g6, f6, r6⟩ := k51g c5
          have stop : (∀ d, L156_22 (d + 3) 8 1 A 1 m = L156_22 (d + 3) 8 1 A 0 M5) → ∃ M, (∀ d, L156_22 (d + 3) 8 1 A 1 m = some (none, M)) ∧ ldE m M (if p2 < tk then .inl p2 else .inr (k + 1, wset gs k g, wset us k u)) ∧ ∀ k' gs' us', (if p2 < tk then .inl p2 else .inr (k + 1, wset gs k g, wset us k u) : Nat ⊕ (Nat × (Nat → Nat) × (Nat → Nat))) = .inr (k', gs', us') → k' ≤ 8 ∧ ldOK N.2.1 k' gs' us' := by
            intro hst
            have hE : ∀ d, L156_22 (d + 3) 8 1 A 1 m = some (none, M6) := fun d => by
              rw [hst, E156_22 _ _ _ _ _ s_8 s_1 hA, if_pos rfl, e6 d, lt_cV_s]
            by_cases cp : p2 < tk
            · rw [if_pos cp]
              refine ⟨M6, hE, ⟨lfr_tr f5 (lfr_12 f6 r6), g6, ?_⟩, fun k' gs' us' q => by cases q⟩
              show M6.1 1 2 = nI p2
              rw [w6]; exact if_pos cp
            · rw [if_neg cp]
              refine ⟨M6, hE, ⟨lfr_tr f5 (lfr_12 f6 r6), g6, ?_, ?_, ?_⟩, fun k' gs' us' q => ?_⟩
              · rw [w6]; exact if_neg cp
              · rw [f6 8 (by omega) (by omega)]; exact z83
              · intro j hj; rw [f6 9 (by omega) (by omega), f6 10 (by omega) (by omega)]; exact z9 j hj
              · injection q with q
                injection q with q1 q
                injection q with q2 q3
                subst q1; subst q2; subst q3
                exact ⟨by omega, hok5⟩
          by_cases ck : k + 1 < 8
          · by_cases c44 : sg tx tk p2 = 44
            · rw [if_pos ⟨ck, c44⟩]
              obtain ⟨M, e7, g7, o7⟩ := ih (k + 1) (wset gs k g) (wset us k u) (p2 + 1) (lm_i M5 1 1 (nI (p2 + 1))) (by omega) (by omega) (crd_p c5 (sg_lt c44 (by omega))) (nR_l hA2 (lfr_tr f5 (lfr_i (by omega))) hn) (by rw [lm_i_ne (by omega)]; exact z83) (fun j hj => by rw [lm_i_ne (by omega), lm_i_ne (by omega)]; exact z9 j hj) hok5
              refine ⟨M, fun d => ?_, ⟨lfr_tr f5 (lfr_tr (lfr_i (by omega)) g7.1), g7.2⟩, o7⟩
              rw [body, if_neg (by rw [q_8, sp_len (by omega) (by omega)]; omega), k43 (by omega) c5 (d + 1), if_pos c44, lt_cI_s, if_neg (by decide), if_pos c44, e7 d]
            · rw [if_neg (fun q => c44 q.2)]
              refine stop fun d => ?_
              rw [body, if_neg (by rw [q_8, sp_len (by omega) (by omega)]; omega), k43 (by omega) c5 (d + 1), if_neg c44, lt_cI_s, if_pos rfl, if_neg c44]
          · rw [if_neg (fun q => ck q.1)]
            refine stop fun d => ?_
            rw [body, if_pos (by rw [q_8, sp_len (by omega) (by omega)]; omega)]
        · rw [hd3] at hnu4
          rw [hnu4]
          simp only
          obtain ⟨M, e7, f7, g7, w7⟩ := k156b (A := A) hA (-1) (k := k) (by omega) (by rw [f4 8 (by omega)]; exact y83) c4
          refine ⟨M, fun d => ?_, ⟨lfr_tr f3 (lfr_tr (lfr_1 f4 r4) f7), g7, w7⟩, fun k' gs' us' q => by cases q⟩
          rw [head, e1 d, lt_cI_s, k17a d, lt_cV_s, e3 d, lt_cV_s, e4 d, lt_cI_s, y83]
          exact e7 d
      · have hLD : ldN N.2.1 tx tk (f + 1) k gs us p = .inl p1 := by
          simp only [ldN]
          rw [hnu]
          simp only
          rw [if_neg cs]
        rw [hLD]
        obtain ⟨e3, c3⟩ := k42f (by omega) c2 cs
        obtain ⟨M, e7, f7, g7, w7⟩ := k156b (A := A) hA (-1) (k := k) (m := lm_i M2 1 2 (nI p1)) (by omega) (by rw [lm_i_ne (by omega)]; exact g83) c3
        refine ⟨M, fun d => ?_, ⟨lfr_tr f2 (lfr_tr (lfr_i (by omega)) f7), g7, w7⟩, fun k' gs' us' q => by cases q⟩
        rw [head, e1 d, lt_cI_s, k17a d, lt_cV_s, e3 d, lt_cV_s, k37b _ _ c3 d, lt_cI_s, show (lm_i M2 1 2 (nI p1)).1 8 3 = nI k by rw [lm_i_ne (by omega)]; exact g83]
        exact e7 d
    · rw [hd1] at hnu
      have hLD : ldN N.2.1 tx tk (f + 1) k gs us p = .inl e := by
        simp only [ldN]
        rw [hnu]
      rw [hLD]
      obtain ⟨M2, hM2⟩ : ∃ M2, M2 = lm_i M1 9 k (-1) := ⟨_, rfl⟩
      have c2 : cbd tx tk e M2 := cbd_fr (fun b hb => by rw [hM2, lm_i_ne (by omega)]) c1
      have f2 : lfr m M2 := lfr_tr (lfr_1 f1 r1) (by rw [hM2]; exact lfr_i (by omega))
      have g83 : M2.1 8 3 = nI k := by rw [hM2, lm_i_ne (by omega), f1 8 (by omega)]; exact h83
      obtain ⟨M, e7, f7, g7, w7⟩ := k156b (A := A) hA (-1) (k := k) (by omega) g83 c2
      refine ⟨M, fun d => ?_, ⟨lfr_tr f2 f7, g7, w7⟩, fun k' gs' us' q => by cases q⟩
      have k17a : lt_ev (d + 3) 17 [.inr (.inr (some (8 + 1))), .inl (nI k), .inl (-1)] M1 = some (none, M2) := by rw [hM2]; exact k17 (d + 2) s_9 (by omega) (by decide) _
      rw [head, e1 d, lt_cI_s, k17a, lt_cV_s, k42b _ c2 d, lt_cV_s, k37b _ _ c2 d, lt_cI_s, g83]
      exact e7 d
theorem k156 (hA : ts_sh A = (0, 5)) (hA2 : 13 ≤ A) (hN : wfN N) {m : lt_m} (h : ctx tx tk m) (hn : nR N A m) : ∃ M, (∀ d, lt_ev (d + 4) 156 [.inr (.inr (some 8)), .inr (.inr (some 1)), .inr (.inr (some A))] m = some (none, M)) ∧ ldE m M (ldA N.2.1 tx tk) ∧ ∀ k' gs' us', ldA N.2.1 tx tk = .inr (k', gs', us') → k' ≤ 8 ∧ ldOK N.2.1 k' gs' us' := by
  obtain ⟨M0, hM0⟩ : ∃ M0, M0 = lm_i (lm_i (lm_i m 1 1 0) 1 2 (-1)) 8 3 0 := ⟨_, rfl⟩
  have f0 : lfr m M0 := by rw [hM0]; exact lfr_tr (lfr_i (by omega)) (lfr_tr (lfr_i (by omega)) (lfr_i (by omega)))
  have c0 : crd tx tk 0 M0 := by
    refine ⟨ctx_fr (fun b hb => by rw [hM0, lm_i_ne (by omega), lm_i_ne (by omega), lm_i_ne (by omega)]) h, Nat.zero_le _, ?_, ?_⟩
    · rw [hM0, lm_i_ne (by omega), lm_i_ns (by omega), lm_i_eq]; rfl
    · rw [hM0, lm_i_ne (by omega), lm_i_eq]
  have z83 : M0.1 8 3 = nI 0 := by rw [hM0]; exact lm_i_eq
  have head : ∀ d, lt_ev (d + 4) 156 [.inr (.inr (some 8)), .inr (.inr (some 1)), .inr (.inr (some A))] m = if tk = 0 then L156_22 (d + 3) 8 1 A 0 M0 else L156_22 (d + 3) 8 1 A 1 M0 := fun d => by
    refine (E156 (d + 3) 8 1 A s_8 s_1 hA m).trans ?_
    rw [E31 (d + 2) 1 s_1 m, lt_cV_s, ← hM0, p45 (d + 1) 1 s_1 M0, lt_cI_s, c45 c0.1 c0.2.1 c0.2.2.1]
    by_cases c : tk = 0
    · rw [if_neg (show ¬ 0 < tk by omega), if_pos (show ¬ (1 : Int32) = 0 by decide), if_pos c]
    · rw [if_pos (show 0 < tk by omega), if_neg (show ¬ ¬ (0 : Int32) = 0 by decide), if_neg c]
  unfold ldA
  by_cases c : tk = 0
  · rw [if_pos c]
    obtain ⟨M, e6, w6, g6, f6, r6⟩ := k51g c0
    refine ⟨M, fun d => ?_, ⟨lfr_tr f0 (lfr_12 f6 r6), g6, ?_, ?_, fun j hj => absurd hj (Nat.not_lt_zero _)⟩, fun k' gs' us' q => ?_⟩
    · rw [head, if_pos c, E156_22 _ _ _ _ _ s_8 s_1 hA, if_pos rfl, e6 d, lt_cV_s]
    · rw [w6]; unfold wrI; rw [if_neg (by omega)]
    · rw [f6 8 (by omega) (by omega)]; exact z83
    · injection q with q
      injection q with q1 q
      subst q1
      exact ⟨Nat.zero_le _, fun j hj => absurd hj (Nat.not_lt_zero _)⟩
  · rw [if_neg c]
    obtain ⟨M, e5, g5, o5⟩ := k156l hA hA2 hN 8 0 (fun _ => 0) (fun _ => 0) 0 M0 (by omega) (by omega) c0 (nR_l hA2 f0 hn) z83 (fun j hj => absurd hj (Nat.not_lt_zero _)) (fun j hj => absurd hj (Nat.not_lt_zero _))
    refine ⟨M, fun d => ?_, ⟨lfr_tr f0 g5.1, g5.2⟩, o5⟩
    rw [head, if_neg c, e5 d]
end LD

/-! ===== the class reads a NET ===== -/
section NR3
variable {B n : Nat} {tx : Nat → Nat} {tk : Nat} {c : Nat → Nat}
def duE (B n : Nat) (H : Nat → Nat → Nat) (c : Nat → Nat) (tx : Nat → Nat) (tk : Nat) (M : lt_m) (x : Nat ⊕ (Nat × (Nat → Nat) × Nat)) : Prop := match x with
  | .inl e => cbd tx tk e M
  | .inr (g, dd, p) => crd tx tk p M ∧ nR (n, g, H, c, dd) B M
theorem k50l (hB : ts_sh B = (0, 5)) (hB2 : 13 ≤ B) {H : Nat → Nat → Nat} : ∀ f g dd p m, g + f = 6 → 0 < f → crd tx tk p m → nR (n, g, H, c, dd) B m → ∃ M, (∀ d, L50_22 (d + 4) B 1 1 m = some (none, M)) ∧ gfr B m M ∧ M.1 (B + 6) = m.1 (B + 6) ∧ M.1 B 7 = m.1 B 7 ∧ duE B n H c tx tk M (dtP tx tk f g dd p) := by
  have s2 : ts_sh (B + 2) = (1, 6) := sf_of hB 1 (by decide) (by decide)
  intro f
  induction f with
  | zero => intro g dd p m _ h0; omega
  | succ f ih =>
    intro g dd p m hg _ h hr
    have hp := h.2.1
    have hb8 : m.1 B 8 = nI g := hr.2.1
    have zero : ∀ m d, L50_22 (d + 4) B 1 0 m = some (none, m) := fun m d => by rw [E50_22 _ _ _ _ hB s_1, if_pos rfl]
    have head : ∀ d, L50_22 (d + 4) B 1 1 m = (lt_cI (lt_ev (d + 4) 37 [.inr (.inr (some 1)), .inl (nI 1), .inl (nI 1000 - 1)] m) (fun v1 m1 => (lt_cV (lt_ev (d + 4) 17 [.inr (.inr (some (B + 2))), .inl (nI g), .inl v1] m1) (fun m2 => (if (6 : Int32) ≤ ((lm_i m2 B 8 ((m2.1 B 8) + (1 : Int32))).1 B 8) then (L50_22 (d + 4) B 1 (0 : Int32) (lm_i m2 B 8 ((m2.1 B 8) + (1 : Int32)))) else (lt_cI (lt_ev (d + 4) 43 [.inr (.inr (some 1)), .inl (nI 44)] (lm_i m2 B 8 ((m2.1 B 8) + (1 : Int32)))) (fun v2 m3 => (if v2 = 0 then (L50_22 (d + 4) B 1 (0 : Int32) m3) else (L50_22 (d + 4) B 1 (1 : Int32) m3))))))))) := fun d => by
      rw [E50_22 _ _ _ _ hB s_1, if_neg (by decide), hb8, if_neg (by rw [q_6, sp_len (by omega) (by omega)]; omega)]
      rfl
    rcases k37 (lo := 1) (hi1 := 1000) (by omega) (by omega) h with ⟨v, p1, M1, hnu, e1, c1, f1, r1⟩ | ⟨e, M1, hnu, e1, c1, f1, r1⟩
    · rw [show dgs 1000 = 3 by decide] at hnu
      obtain ⟨d1, d2, -, d4, -, d6⟩ := nuN_r hp (by decide) hnu
      simp only [dtP]
      rw [hnu]
      simp only
      obtain ⟨M2, hM2⟩ : ∃ M2, M2 = lm_i (lm_i M1 (B + 2) g (nI v)) B 8 (nI (g + 1)) := ⟨_, rfl⟩
      have hr1 := nR_1 f1 hB2 hr
      have c2 : crd tx tk p1 M2 := crd_fr (fun x hx => by rw [hM2, lm_i_ne (by omega), lm_i_ne (by omega)]) c1
      have hr2 : nR (n, g + 1, H, c, wset dd g v) B M2 := by
        obtain ⟨q1, q2, q3, q4, q5, q6⟩ := hr1
        refine ⟨by rw [hM2, lm_i_ns (by omega), lm_i_ne (by omega)]; exact q1, by rw [hM2, lm_i_eq], by rw [hM2, lm_i_ne (by omega), lm_i_ne (by omega)]; exact q3, fun j hj => ?_, by rw [hM2, lm_i_ne (by omega), lm_i_ne (by omega)]; exact q5, by rw [hM2, lm_i_ne (by omega), lm_i_ne (by omega)]; exact q6⟩
        have hj : j < g + 1 := hj
        show M2.1 (B + 2) j = nI (wset dd g v j)
        rw [hM2, lm_i_ne (by omega)]
        by_cases e : j = g
        · subst e; rw [lm_i_eq, wset_eq]
        · rw [lm_i_ns (by omega), wset_ne e]; exact q4 j (show j < g by omega)
      have g2 : gfr B m M2 := gfr_tr (gfr_1 f1 r1) (by rw [hM2]; exact gfr_tr (gfr_i (by omega)) (gfr_i (by omega)))
      have b62 : M2.1 (B + 6) = m.1 (B + 6) := by rw [hM2, lm_i_ne (by omega), lm_i_ne (by omega), f1 (B + 6) (by omega)]
      have b72 : M2.1 B 7 = m.1 B 7 := by rw [hM2, lm_i_ns (by omega), lm_i_ne (by omega), f1 B (by omega)]
      have es : (lm_i M1 (B + 2) g (nI v)).1 B 8 = nI g := by rw [lm_i_ne (by omega), f1 B (by omega)]; exact hb8
      have body : ∀ d, L50_22 (d + 4) B 1 1 m = (if (6 : Int32) ≤ nI (g + 1) then (L50_22 (d + 4) B 1 (0 : Int32) M2) else (lt_cI (lt_ev (d + 4) 43 [.inr (.inr (some 1)), .inl (nI 44)] M2) (fun v2 m3 => (if v2 = 0 then (L50_22 (d + 4) B 1 (0 : Int32) m3) else (L50_22 (d + 4) B 1 (1 : Int32) m3))))) := fun d => by
        have e1' := e1 (d + 1)
        rw [head, e1', lt_cI_s, k17 (d + 3) s2 (by omega) (by decide), lt_cV_s, es, nI_1, ← hM2, show M2.1 B 8 = nI (g + 1) from hr2.2.1]
      by_cases cg : g + 1 < 6
      · by_cases c44 : sg tx tk p1 = 44
        · rw [if_pos ⟨cg, c44⟩]
          obtain ⟨M, e3, g3, k3, b3, x3⟩ := ih (g + 1) (wset dd g v) (p1 + 1) (lm_i M2 1 1 (nI (p1 + 1))) (by omega) (by omega) (crd_p c2 (sg_lt c44 (by omega))) (nR_1 (fun x hx => lm_i_ne hx) hB2 hr2)
          refine ⟨M, fun d => ?_, gfr_tr g2 (gfr_tr (gfr_i (by omega)) g3), by rw [k3, lm_i_ne (by omega)]; exact b62, by rw [b3, lm_i_ne (by omega)]; exact b72, x3⟩
          rw [body, if_neg (by rw [q_6, sp_len (by omega) (by omega)]; omega), k43 (by omega) c2 (d + 2), if_pos c44, lt_cI_s, if_neg (by decide), if_pos c44, e3 d]
        · rw [if_neg (fun q => c44 q.2)]
          refine ⟨M2, fun d => ?_, g2, b62, b72, c2, hr2⟩
          rw [body, if_neg (by rw [q_6, sp_len (by omega) (by omega)]; omega), k43 (by omega) c2 (d + 2), if_neg c44, lt_cI_s, if_pos rfl, if_neg c44, zero M2 d]
      · rw [if_neg (fun q => cg q.1)]
        refine ⟨M2, fun d => ?_, g2, b62, b72, c2, hr2⟩
        rw [body, if_pos (by rw [q_6, sp_len (by omega) (by omega)]; omega), zero M2 d]
    · rw [show dgs 1000 = 3 by decide] at hnu
      simp only [dtP]
      rw [hnu]
      obtain ⟨M2, hM2⟩ : ∃ M2, M2 = lm_i (lm_i M1 (B + 2) g (-1)) B 8 (nI (g + 1)) := ⟨_, rfl⟩
      have c2 : cbd tx tk e M2 := cbd_fr (fun x hx => by rw [hM2, lm_i_ne (by omega), lm_i_ne (by omega)]) c1
      refine ⟨M2, fun d => ?_, gfr_tr (gfr_1 f1 r1) (by rw [hM2]; exact gfr_tr (gfr_i (by omega)) (gfr_i (by omega))), by rw [hM2, lm_i_ne (by omega), lm_i_ne (by omega), f1 (B + 6) (by omega)], by rw [hM2, lm_i_ns (by omega), lm_i_ne (by omega), f1 B (by omega)], c2⟩
      have e1' := e1 (d + 1)
      have es : (lm_i M1 (B + 2) g (-1)).1 B 8 = nI g := by rw [lm_i_ne (by omega), f1 B (by omega)]; exact hb8
      rw [head, e1', lt_cI_s, k17 (d + 3) s2 (by omega) (by decide), lt_cV_s, es, nI_1, ← hM2]
      split
      · exact zero M2 d
      · rw [k43b _ c2 (d + 2), lt_cI_s, if_pos rfl, zero M2 d]
/-- readFrom -/
theorem k30 (hB : ts_sh B = (0, 5)) (hB2 : 13 ≤ B) {m : lt_m} (h : ctx tx tk m) {s : Nat} (hs : s ≤ 200) (h6 : m.1 (B + 6) 1 = nI s) : ∃ M, (∀ d, lt_ev (d + 8) 30 [.inr (.inr (some B)), .inr (.inr (some 1))] m = some (none, M)) ∧ gfr B m M ∧ M.1 2 1 = 0 ∧ match ntP tx tk with
  | .inl e => e ≤ 200 ∧ M.1 1 2 = nI e ∧ M.1 (B + 6) 1 = nI s
  | .inr (N, q) => M.1 1 2 = -1 ∧ nR N B M ∧ M.1 B 7 = nI q ∧ AR N B (dsN N.2.2.1 N.1) M ∧ CT B (wtx N) M := by
  obtain ⟨M0, hM0⟩ : ∃ M0, M0 = lm_i (lm_i m 1 1 0) 1 2 (-1) := ⟨_, rfl⟩
  have c0 : crd tx tk 0 M0 := by
    refine ⟨ctx_fr (fun b hb => by rw [hM0, lm_i_ne (by omega), lm_i_ne (by omega)]) h, Nat.zero_le _, ?_, ?_⟩
    · rw [hM0, lm_i_ns (by omega), lm_i_eq]; rfl
    · rw [hM0, lm_i_eq]
  have f0 : ∀ b, b ≠ 1 → M0.1 b = m.1 b := fun b hb => by rw [hM0, lm_i_ne hb, lm_i_ne hb]
  have r0 : M0.2 = m.2 := by rw [hM0]; rfl
  obtain ⟨M1, e1, d1, f1, r1, b1⟩ := k32 hB M0
  have c1 : crd tx tk 0 M1 := crd_fr (fun b hb => f1 b (by omega)) c0
  have g1 : gfr B m M1 := gfr_tr (gfr_1 f0 r0) ⟨fun b _ _ q => f1 b q, r1⟩
  have b61 : M1.1 (B + 6) = m.1 (B + 6) := by rw [b1, f0 (B + 6) (by omega)]
  obtain ⟨M2, e2, g2, b2, x2⟩ := k34l hB hB2 12 0 (fun _ => 0) 0 M1 rfl c1 d1
  have e34 : ∀ d, lt_ev (d + 5) 34 [.inr (.inr (some B)), .inr (.inr (some 1))] M1 = some (none, M2) := fun d => (E34 (d + 4) B 1 hB s_1 M1).trans (e2 d)
  have b62 : M2.1 (B + 6) = m.1 (B + 6) := by rw [b2, b61]
  have z44 : ∀ m d, L44_29 (d + 5) B 1 0 m = some (none, m) := fun m d => by rw [E44_29 _ _ _ _ hB s_1, if_pos rfl]
  have z50 : ∀ m d, L50_22 (d + 4) B 1 0 m = some (none, m) := fun m d => by rw [E50_22 _ _ _ _ hB s_1, if_pos rfl]
  have b44 : ∀ {e m}, cbd tx tk e m → ∀ d, lt_ev (d + 6) 44 [.inr (.inr (some B)), .inr (.inr (some 1))] m = some (none, m) := fun {e m} hb d => by
    refine (E44 (d + 5) B 1 hB s_1 m).trans ?_
    rw [p38 (d + 4) 1 s_1 m, lt_cI_s, c38b hb.2.2.2 hb.2.1, if_pos (by decide), z44 m d]
  have b50 : ∀ {e m}, cbd tx tk e m → ∀ d, lt_ev (d + 5) 50 [.inr (.inr (some B)), .inr (.inr (some 1))] m = some (none, m) := fun {e m} hb d => by
    refine (E50 (d + 4) B 1 hB s_1 m).trans ?_
    rw [p38 (d + 3) 1 s_1 m, lt_cI_s, c38b hb.2.2.2 hb.2.1, if_pos (by decide), z50 m d]
  have head : ∀ d, lt_ev (d + 8) 30 [.inr (.inr (some B)), .inr (.inr (some 1))] m = (lt_cV (lt_ev (d + 7) 44 [.inr (.inr (some B)), .inr (.inr (some 1))] M2) (fun m4 => (lt_cV (lt_ev (d + 7) 50 [.inr (.inr (some B)), .inr (.inr (some 1))] m4) (fun m5 => (lt_cV (lt_ev (d + 7) 51 [.inr (.inr (some 1))] m5) (fun m6 => (lt_cI (lt_ev (d + 7) 38 [.inr (.inr (some 1))] m6) (fun v1 m7 => (if ¬ v1 = 0 then (some (none, m7)) else (lt_cV (lt_ev (d + 7) 12 [.inr (.inr (some B))] m7) (fun m8 => (lt_cV (lt_ev (d + 7) 19 [.inr (.inr (some B))] m8) (fun m9 => (some (none, m9))))))))))))))) := fun d => by
    have e1' := e1 (d + 5)
    have e34' := e34 (d + 2)
    refine (E30 (d + 7) B 1 hB s_1 m).trans ?_
    rw [E31 (d + 6) 1 s_1 m, lt_cV_s, ← hM0, e1', lt_cV_s, e34', lt_cV_s]
  -- the end of one that has failed
  have bad : ∀ e M5, cbd tx tk e M5 → gfr B m M5 → M5.1 (B + 6) = m.1 (B + 6) → (∀ d, lt_ev (d + 8) 30 [.inr (.inr (some B)), .inr (.inr (some 1))] m = (lt_cV (lt_ev (d + 7) 51 [.inr (.inr (some 1))] M5) (fun m6 => (lt_cI (lt_ev (d + 7) 38 [.inr (.inr (some 1))] m6) (fun v1 m7 => (if ¬ v1 = 0 then (some (none, m7)) else (lt_cV (lt_ev (d + 7) 12 [.inr (.inr (some B))] m7) (fun m8 => (lt_cV (lt_ev (d + 7) 19 [.inr (.inr (some B))] m8) (fun m9 => (some (none, m9)))))))))))) → ∃ M, (∀ d, lt_ev (d + 8) 30 [.inr (.inr (some B)), .inr (.inr (some 1))] m = some (none, M)) ∧ gfr B m M ∧ M.1 2 1 = 0 ∧ e ≤ 200 ∧ M.1 1 2 = nI e ∧ M.1 (B + 6) 1 = nI s := by
    intro e M5 c5 g5 b5 he
    obtain ⟨M, e6, w6, g6, f6, r6⟩ := k51b c5
    refine ⟨M, fun d => ?_, gfr_tr g5 ⟨fun b q1 q2 _ => f6 b q1 q2, r6⟩, g6, c5.2.1, w6, by rw [f6 (B + 6) (by omega) (by omega), b5]; exact h6⟩
    have e6' := e6 (d + 4)
    rw [he, e6', lt_cV_s, p38 (d + 6) 1 s_1 M, lt_cI_s, c38b w6 c5.2.1, if_pos (by decide)]
  unfold ntP
  cases h1 : ctP tx tk 12 0 (fun _ => 0) 0 with
  | inl e =>
    rw [h1] at x2
    simp only
    have x2 : cbd tx tk e M2 := x2
    refine bad e M2 x2 (gfr_tr g1 g2) b62 fun d => ?_
    have e44 := b44 x2 (d + 1)
    have e50 := b50 x2 (d + 2)
    rw [head, e44, lt_cV_s, e50, lt_cV_s]
  | inr r =>
    obtain ⟨n, c, p⟩ := r
    rw [h1] at x2
    simp only
    obtain ⟨x2, y2⟩ : crd tx tk p M2 ∧ d0R B n c M2 := x2
    obtain ⟨n1, n2, n3, n4, n5⟩ := ctP_ok 12 0 _ 0 n c p rfl rfl (Nat.zero_le _) (fun j hj => absurd hj (Nat.not_lt_zero _)) h1
    have h0 : hOK n (fun _ _ => 0) := ⟨fun _ _ => Nat.zero_le _, fun _ _ => rfl, fun _ => rfl, fun _ _ _ => rfl⟩
    have hr2 := nR_0 (dd := fun _ => 0) n2 y2
    -- roads
    have roads : ∃ M3, (∀ d, lt_ev (d + 6) 44 [.inr (.inr (some B)), .inr (.inr (some 1))] M2 = some (none, M3)) ∧ gfr B M2 M3 ∧ M3.1 (B + 6) = M2.1 (B + 6) ∧ roE B n c (fun _ => 0) tx tk M3 (rdA n tx tk p) := by
      have hd44 : ∀ d, lt_ev (d + 6) 44 [.inr (.inr (some B)), .inr (.inr (some 1))] M2 = if p < tk ∧ ¬ sg tx tk p = 124 then L44_29 (d + 5) B 1 1 M2 else L44_29 (d + 5) B 1 0 M2 := fun d => by
        refine (E44 (d + 5) B 1 hB s_1 M2).trans ?_
        rw [p38 (d + 4) 1 s_1 M2, lt_cI_s, c38g x2.2.2.2, if_neg (by decide), p45 (d + 3) 1 s_1 M2, lt_cI_s, c45 x2.1 x2.2.1 x2.2.2.1]
        by_cases cp : p < tk
        · rw [if_pos cp, if_neg (show ¬ ¬ (0 : Int32) = 0 by decide), show (124 : Int32) = nI 124 from rfl, p46 (d + 3) 1 _ s_1 M2, lt_cI_s, c46 (by omega) x2.1 x2.2.1 x2.2.2.1]
          by_cases cs : sg tx tk p = 124
          · rw [if_pos cs, if_pos (show ¬ (1 : Int32) = 0 by decide), if_neg (show ¬ (p < tk ∧ ¬ sg tx tk p = 124) from fun q => q.2 cs)]
          · rw [if_neg cs, if_neg (show ¬ ¬ (0 : Int32) = 0 by decide), if_pos (show p < tk ∧ ¬ sg tx tk p = 124 from ⟨cp, cs⟩)]
        · rw [if_neg cp, if_pos (show ¬ (1 : Int32) = 0 by decide), if_neg (show ¬ (p < tk ∧ ¬ sg tx tk p = 124) from fun q => cp q.1)]
      unfold rdA
      by_cases cc : p < tk ∧ ¬ sg tx tk p = 124
      · rw [if_pos cc]
        obtain ⟨M3, e3, g3, b3, x3⟩ := k44l hB hB2 n1 n2 n3 (fun _ => 0) 40 0 (fun _ _ => 0) p M2 rfl (by omega) h0 x2 hr2 y2.2.1
        exact ⟨M3, fun d => by rw [hd44, if_pos cc, e3 d], g3, b3, x3⟩
      · rw [if_neg cc]
        exact ⟨M2, fun d => by rw [hd44, if_neg cc, z44 M2 d], gfr_rf M2, rfl, x2, hr2, y2.2.1⟩
    obtain ⟨M3, e3, g3, b3, x3⟩ := roads
    cases h2 : rdA n tx tk p with
    | inl e =>
      rw [h2] at x3
      simp only
      have x3 : cbd tx tk e M3 := x3
      refine bad e M3 x3 (gfr_tr g1 (gfr_tr g2 g3)) (by rw [b3, b62]) fun d => ?_
      have e44 := e3 (d + 1)
      have e50 := b50 x3 (d + 2)
      rw [head, e44, lt_cV_s, e50, lt_cV_s]
    | inr r =>
      obtain ⟨q, H, p2⟩ := r
      rw [h2] at x3
      simp only
      obtain ⟨x3, y3, z3⟩ : crd tx tk p2 M3 ∧ nR (n, 0, H, c, fun _ => 0) B M3 ∧ M3.1 B 7 = nI q := x3
      have duties : ∃ M4, (∀ d, lt_ev (d + 5) 50 [.inr (.inr (some B)), .inr (.inr (some 1))] M3 = some (none, M4)) ∧ gfr B M3 M4 ∧ M4.1 (B + 6) = M3.1 (B + 6) ∧ M4.1 B 7 = M3.1 B 7 ∧ duE B n H c tx tk M4 (dtA tx tk p2) := by
        have hd50 : ∀ d, lt_ev (d + 5) 50 [.inr (.inr (some B)), .inr (.inr (some 1))] M3 = if sg tx tk p2 = 124 then L50_22 (d + 4) B 1 1 (lm_i M3 1 1 (nI (p2 + 1))) else L50_22 (d + 4) B 1 0 M3 := fun d => by
          have e43 := k43 (c := 124) (by omega) x3 (d + 2)
          refine (E50 (d + 4) B 1 hB s_1 M3).trans ?_
          rw [p38 (d + 3) 1 s_1 M3, lt_cI_s, c38g x3.2.2.2, if_neg (by decide), show (124 : Int32) = nI 124 from rfl, e43]
          by_cases cs : sg tx tk p2 = 124
          · rw [if_pos cs, if_pos cs, if_pos cs, lt_cI_s, if_neg (by decide)]
          · rw [if_neg cs, if_neg cs, if_neg cs, lt_cI_s, if_pos rfl]
        unfold dtA
        by_cases cs : sg tx tk p2 = 124
        · rw [if_pos cs]
          obtain ⟨M4, e4, g4, b4, w4, x4⟩ := k50l (c := c) hB hB2 (H := H) 6 0 (fun _ => 0) (p2 + 1) (lm_i M3 1 1 (nI (p2 + 1))) rfl (by omega) (crd_p x3 (sg_lt cs (by omega))) (nR_1 (fun x hx => lm_i_ne hx) hB2 y3)
          exact ⟨M4, fun d => by rw [hd50, if_pos cs, e4 d], gfr_tr (gfr_i (by omega)) g4, by rw [b4, lm_i_ne (by omega)], by rw [w4, lm_i_ne (by omega)], x4⟩
        · rw [if_neg cs]
          exact ⟨M3, fun d => by rw [hd50, if_neg cs, z50 M3 d], gfr_rf M3, rfl, rfl, x3, y3⟩
      obtain ⟨M4, e4, g4, b4, w4, x4⟩ := duties
      have g04 := gfr_tr g1 (gfr_tr g2 (gfr_tr g3 g4))
      have b64 : M4.1 (B + 6) = m.1 (B + 6) := by rw [b4, b3, b62]
      have h44 : ∀ d, lt_ev (d + 8) 30 [.inr (.inr (some B)), .inr (.inr (some 1))] m = (lt_cV (lt_ev (d + 7) 51 [.inr (.inr (some 1))] M4) (fun m6 => (lt_cI (lt_ev (d + 7) 38 [.inr (.inr (some 1))] m6) (fun v1 m7 => (if ¬ v1 = 0 then (some (none, m7)) else (lt_cV (lt_ev (d + 7) 12 [.inr (.inr (some B))] m7) (fun m8 => (lt_cV (lt_ev (d + 7) 19 [.inr (.inr (some B))] m8) (fun m9 => (some (none, m9))))))))))) := fun d => by
        have e3' := e3 (d + 1)
        have e4' := e4 (d + 2)
        rw [head, e3', lt_cV_s, e4', lt_cV_s]
      cases h3 : dtA tx tk p2 with
      | inl e =>
        rw [h3] at x4
        simp only
        have x4 : cbd tx tk e M4 := x4
        exact bad e M4 x4 g04 b64 h44
      | inr r =>
        obtain ⟨g, dd, p3⟩ := r
        rw [h3] at x4
        simp only
        obtain ⟨x4, y4⟩ : crd tx tk p3 M4 ∧ nR (n, g, H, c, dd) B M4 := x4
        obtain ⟨M5, e5, w5, g5, f5, r5⟩ := k51g x4
        have g05 : gfr B m M5 := gfr_tr g04 ⟨fun b q1 q2 _ => f5 b q1 q2, r5⟩
        by_cases cp : p3 < tk
        · rw [if_pos cp]
          have hw : M5.1 1 2 = nI p3 := by rw [w5]; exact if_pos cp
          have htk := x4.1.1
          refine ⟨M5, fun d => ?_, g05, g5, by omega, hw, by rw [f5 (B + 6) (by omega) (by omega), b64]; exact h6⟩
          have e5' := e5 (d + 4)
          rw [h44, e5', lt_cV_s, p38 (d + 6) 1 s_1 M5, lt_cI_s, c38b hw (by omega), if_pos (by decide)]
        · rw [if_neg cp]
          have hw : M5.1 1 2 = -1 := by rw [w5]; exact if_neg cp
          have hnt : ntP tx tk = .inr ((n, g, H, c, dd), q) := by
            unfold ntP
            rw [h1]
            simp only
            rw [h2]
            simp only
            rw [h3]
            simp only
            rw [if_neg cp]
          obtain ⟨hwf, hlen, -⟩ := ntP_ok hnt
          have htk := x4.1.1
          have y5 : nR (n, g, H, c, dd) B M5 := nR_fr (fun b b1 b2 => f5 b (by omega) (by omega)) y4
          obtain ⟨M6, e6, i6, f6, r6⟩ := k12 hB hwf y5
          have y6 : nR (n, g, H, c, dd) B M6 := nR_4 f6 y5
          obtain ⟨M7, e7, t7, f7⟩ := k19 hB hwf y6 hs (by rw [f6 (B + 6) (by omega), f5 (B + 6) (by omega) (by omega), b64]; exact h6) (by omega)
          refine ⟨M7, fun d => ?_, gfr_tr g05 (gfr_tr ⟨fun b q1 q2 q3 => f6 b (by omega), r6⟩ ⟨fun b q1 q2 q3 => f7.1 b (by omega) (by omega), f7.2⟩), ?_, ?_, nR_a f7 y6, ?_, ?_, t7⟩
          · have e5' := e5 (d + 4)
            have e6' := e6 (d + 4)
            have e7' := e7 (d + 2)
            rw [h44, e5', lt_cV_s, p38 (d + 6) 1 s_1 M5, lt_cI_s, c38g hw, if_neg (by decide), e6', lt_cV_s, e7', lt_cV_s]
          · rw [f7.1 2 (by omega) (by omega), f6 2 (by omega)]; exact g5
          · rw [f7.1 1 (by omega) (by omega), f6 1 (by omega)]; exact hw
          · rw [f7.1 B (by omega) (by omega), f6 B (by omega), f5 B (by omega) (by omega), w4]; exact z3
          · intro a b ha hb
            rw [f7.1 (B + 4) (by omega) (by omega)]
            exact i6 a b ha hb
end NR3

/-! ===== the class reads roads and duties ===== -/
section NR2
variable {B n : Nat} {tx : Nat → Nat} {tk : Nat} {c : Nat → Nat}
theorem wf_h {H : Nat → Nat → Nat} {dd : Nat → Nat} (h2 : 2 ≤ n) (hn : n ≤ 12) (hc : ∀ j, j < n → c j ≤ 5) (ho : hOK n H) : wfN (n, 0, H, c, dd) := ⟨h2, hn, Nat.zero_le _, fun a b _ _ => ho.1 a b, fun a b _ _ => ho.2.1 a b, fun a _ => ho.2.2.1 a, hc, fun g hg => absurd hg (Nat.not_lt_zero _)⟩
theorem k47e (hB : ts_sh B = (0, 5)) {e : Nat} {m : lt_m} (h : cbd tx tk e m) (x y : Int32) : ∀ d, L47_48 (d + 3) B 1 x y m = some (none, m) := fun d => by
  rw [E47_48 _ _ _ _ _ hB s_1, k42b _ h d, lt_cV_s, k37b _ _ h d, lt_cI_s, p38 (d + 2) 1 s_1 m, lt_cI_s, c38b h.2.2.2 h.2.1, if_pos (by decide)]
/-- what reading roads leaves -/
def roE (B n : Nat) (c dd : Nat → Nat) (tx : Nat → Nat) (tk : Nat) (M : lt_m) (x : Nat ⊕ (Nat × (Nat → Nat → Nat) × Nat)) : Prop := match x with
  | .inl e => cbd tx tk e M
  | .inr (q, H, p) => crd tx tk p M ∧ nR (n, 0, H, c, dd) B M ∧ M.1 B 7 = nI q
theorem nR_1 {N : NT} {m M : lt_m} (h : ∀ b, b ≠ 1 → M.1 b = m.1 b) (hB2 : 13 ≤ B) (hr : nR N B m) : nR N B M := nR_fr (fun b b1 b2 => h b (by omega)) hr
theorem k44l (hB : ts_sh B = (0, 5)) (hB2 : 13 ≤ B) (h2 : 2 ≤ n) (hn : n ≤ 12) (hc : ∀ j, j < n → c j ≤ 5) (dd : Nat → Nat) : ∀ f q H p m, q + f = 40 → 0 < f → hOK n H → crd tx tk p m → nR (n, 0, H, c, dd) B m → m.1 B 7 = nI q → ∃ M, (∀ d, L44_29 (d + 5) B 1 1 m = some (none, M)) ∧ gfr B m M ∧ M.1 (B + 6) = m.1 (B + 6) ∧ roE B n c dd tx tk M (rdP n tx tk f q H p) := by
  intro f
  induction f with
  | zero => intro q H p m _ h0; omega
  | succ f ih =>
    intro q H p m hq _ ho h hr h7
    have hp := h.2.1
    have hwf := wf_h (dd := dd) h2 hn hc ho
    have hb6 : m.1 B 6 = nI n := hr.1
    have head : ∀ d, L44_29 (d + 5) B 1 1 m = (lt_cV (lt_ev (d + 5) 47 [.inr (.inr (some B)), .inr (.inr (some 1))] m) (fun m1 => (if (40 : Int32) ≤ ((lm_i m1 B 7 ((m1.1 B 7) + (1 : Int32))).1 B 7) then (L44_29 (d + 5) B 1 (0 : Int32) (lm_i m1 B 7 ((m1.1 B 7) + (1 : Int32)))) else (lt_cI (lt_ev (d + 5) 43 [.inr (.inr (some 1)), .inl (44 : Int32)] (lm_i m1 B 7 ((m1.1 B 7) + (1 : Int32)))) (fun v1 m2 => (if v1 = 0 then (L44_29 (d + 5) B 1 (0 : Int32) m2) else (L44_29 (d + 5) B 1 (1 : Int32) m2))))))) := fun d => by
      rw [E44_29 _ _ _ _ hB s_1, if_neg (by decide), h7, if_neg (by rw [q_40, sp_len (by omega) (by omega)]; omega)]
    have zero : ∀ m d, L44_29 (d + 5) B 1 0 m = some (none, m) := fun m d => by rw [E44_29 _ _ _ _ hB s_1, if_pos rfl]
    -- a road that fails
    have fail : ∀ e M1, cbd tx tk e M1 → gfr B m M1 → M1.1 (B + 6) = m.1 (B + 6) → (∀ d, lt_ev (d + 5) 47 [.inr (.inr (some B)), .inr (.inr (some 1))] m = some (none, M1)) → ∃ M, (∀ d, L44_29 (d + 5) B 1 1 m = some (none, M)) ∧ gfr B m M ∧ M.1 (B + 6) = m.1 (B + 6) ∧ cbd tx tk e M := by
      intro e M1 c1 f1 g1 e1
      obtain ⟨M2, hM2⟩ : ∃ M2, M2 = lm_i M1 B 7 (M1.1 B 7 + 1) := ⟨_, rfl⟩
      have c2 : cbd tx tk e M2 := cbd_fr (fun b hb => by rw [hM2, lm_i_ne (by omega)]) c1
      refine ⟨M2, fun d => ?_, gfr_tr f1 (by rw [hM2]; exact gfr_i (by omega)), by rw [hM2, lm_i_ne (by omega)]; exact g1, c2⟩
      rw [head, e1 d, lt_cV_s, ← hM2]
      split
      · exact zero M2 d
      · rw [k43b _ c2 (d + 3), lt_cI_s, if_pos rfl, zero M2 d]
    have h47 : ∀ d, lt_ev (d + 5) 47 [.inr (.inr (some B)), .inr (.inr (some 1))] m = lt_cI (lt_ev (d + 4) 37 [.inr (.inr (some 1)), .inl (nI 0), .inl (nI n - 1)] m) (fun v1 m1 => (lt_cV (lt_ev (d + 4) 42 [.inr (.inr (some 1)), .inl (nI 45)] m1) (fun m2 => (lt_cI (lt_ev (d + 4) 37 [.inr (.inr (some 1)), .inl (nI 0), .inl ((m2.1 B 6) - (1 : Int32))] m2) (fun v2 m3 => (if v1 = v2 then (lt_cV (lt_ev (d + 4) 41 [.inr (.inr (some 1))] m3) (fun m4 => (L47_48 (d + 4) B 1 v1 v2 m4))) else (lt_cI (lt_ev (d + 4) 13 [.inr (.inr (some B)), .inl v1, .inl v2] m3) (fun v3 m5 => (if v3 ≤ 0 then (L47_48 (d + 4) B 1 v1 v2 m5) else (lt_cV (lt_ev (d + 4) 41 [.inr (.inr (some 1))] m5) (fun m6 => (L47_48 (d + 4) B 1 v1 v2 m6)))))))))))) := fun d => by
      refine (E47 (d + 4) B 1 hB s_1 m).trans ?_
      rw [hb6]
      rfl
    rcases k37 (lo := 0) (hi1 := n) (by omega) (by omega) h with ⟨a, p1, M1, hnu, e1, c1, f1, r1⟩ | ⟨e, M1, hnu, e1, c1, f1, r1⟩
    · obtain ⟨-, a2, -, a4, -, a6⟩ := nuN_r hp (dgs_le n).2 hnu
      by_cases c45 : sg tx tk p1 = 45
      · obtain ⟨e2, c2⟩ := k42t (by omega) c1 c45
        have f2 : ∀ b, b ≠ 1 → (lm_i M1 1 1 (nI (p1 + 1))).1 b = m.1 b := fun b hb => by rw [lm_i_ne hb, f1 b hb]
        rcases k37 (lo := 0) (hi1 := n) (by omega) (by omega) c2 with ⟨b, p2, M3, hnu3, e3, c3, f3, r3⟩ | ⟨e, M3, hnu3, e3, c3, f3, r3⟩
        · obtain ⟨-, b2, -, b4, -, b6⟩ := nuN_r c2.2.1 (dgs_le n).2 hnu3
          have f03 : ∀ b, b ≠ 1 → M3.1 b = m.1 b := fun b hb => by rw [f3 b hb, f2 b hb]
          have r03 : M3.2 = m.2 := by rw [r3]; exact r1
          have hr3 := nR_1 f03 hB2 hr
          have hab : H a b ≤ 99 := ho.1 a b
          have pre : ∀ d, lt_ev (d + 5) 47 [.inr (.inr (some B)), .inr (.inr (some 1))] m = if a = b ∨ 0 < H a b then (lt_cV (lt_ev (d + 4) 41 [.inr (.inr (some 1))] M3) (fun m6 => (L47_48 (d + 4) B 1 (nI a) (nI b) m6))) else (L47_48 (d + 4) B 1 (nI a) (nI b) M3) := fun d => by
            have e1' := e1 (d + 1)
            have e2' := e2 (d + 1)
            have e3' := e3 (d + 1)
            rw [h47, e1', lt_cI_s, e2', lt_cV_s, f2 B (by omega), hb6, e3', lt_cI_s]
            by_cases q1 : a = b
            · rw [if_pos (by rw [q1]), if_pos (Or.inl q1)]
            · rw [if_neg (by rw [sp_eqn (by omega) (by omega)]; exact q1), p13 (d + 2) B _ _ hB M3, lt_cI_s, c13 hr3 hwf a2 b2]
              show (if nI (H a b) ≤ 0 then _ else _) = _
              by_cases q2 : 0 < H a b
              · rw [if_neg (by rw [sp_le0 (by omega)]; omega), if_pos (Or.inr q2)]
              · rw [if_pos (by rw [sp_le0 (by omega)]; omega), if_neg (fun q => q.elim q1 q2)]
          by_cases cab : a = b ∨ 0 < H a b
          · have hRD : rdP n tx tk (f + 1) q H p = .inl (p2 - 1) := by
              simp only [rdP]
              rw [hnu]
              simp only
              rw [if_pos c45, hnu3]
              simp only
              rw [if_pos cab]
            rw [hRD]
            obtain ⟨e4, c4⟩ := k41g c3 (by omega)
            refine fail (p2 - 1) _ c4 (gfr_tr (gfr_1 f03 r03) (gfr_i (by omega))) (by rw [lm_i_ne (by omega), f03 (B + 6) (by omega)]) fun d => ?_
            have e5 := k47e hB c4 (nI a) (nI b) (d + 1)
            rw [pre, if_pos cab, e4 (d + 3), lt_cV_s, e5]
          · have hne : a ≠ b := fun q => cab (Or.inl q)
            have hz : H a b = 0 := by
              rcases Nat.eq_zero_or_pos (H a b) with q | q
              · exact q
              · exact absurd (Or.inr q) cab
            by_cases c58 : sg tx tk p2 = 58
            · obtain ⟨e4, c4⟩ := k42t (by omega) c3 c58
              have f4 : ∀ b, b ≠ 1 → (lm_i M3 1 1 (nI (p2 + 1))).1 b = m.1 b := fun b hb => by rw [lm_i_ne hb, f03 b hb]
              rcases k37 (lo := 1) (hi1 := 100) (by omega) (by omega) c4 with ⟨hh, p3, M5, hnu5, e5, c5, f5, r5⟩ | ⟨e, M5, hnu5, e5, c5, f5, r5⟩
              · rw [show dgs 100 = 2 by decide] at hnu5
                obtain ⟨d1, d2, -, d4, -, d6⟩ := nuN_r c4.2.1 (by decide) hnu5
                have hRD : rdP n tx tk (f + 1) q H p = if q + 1 < 40 ∧ sg tx tk p3 = 44 then rdP n tx tk f (q + 1) (h2N H a b hh) (p3 + 1) else .inr (q + 1, h2N H a b hh, p3) := by
                  simp only [rdP]
                  rw [hnu]
                  simp only
                  rw [if_pos c45, hnu3]
                  simp only
                  rw [if_neg cab, if_pos c58, hnu5]
                rw [hRD]
                have f05 : ∀ b, b ≠ 1 → M5.1 b = m.1 b := fun b hb => by rw [f5 b hb, f4 b hb]
                have hr5 := nR_1 f05 hB2 hr
                have ho2 := h2_ok (h := hh) ho a2 b2 hne (by omega)
                obtain ⟨M6, hM6⟩ : ∃ M6, M6 = lm_i (lm_i (lm_i (lm_i M5 (B + 3) (12 * a + b) (nI hh)) (B + 5) a (nI (bitsN (fun y => decide (0 < H a y)) n ||| 2 ^ b))) (B + 3) (12 * b + a) (nI hh)) (B + 5) b (nI (bitsN (fun y => decide (0 < H b y)) n ||| 2 ^ a)) := ⟨_, rfl⟩
                have hr6 : nR (n, 0, h2N H a b hh, c, dd) B M6 := by
                  rw [hM6]
                  exact nR_h2 hn a2 b2 hne (by omega) hr5 ho.2.1
                have f6 : ∀ x, x ≠ B + 3 → x ≠ B + 5 → M6.1 x = M5.1 x := fun x x1 x2 => by rw [hM6, lm_i_ne x2, lm_i_ne x1, lm_i_ne x2, lm_i_ne x1]
                have g6 : gfr B m M6 := gfr_tr (gfr_1 f05 (by rw [r5]; exact r03)) (by rw [hM6]; exact gfr_tr (gfr_i (by omega)) (gfr_tr (gfr_i (by omega)) (gfr_tr (gfr_i (by omega)) (gfr_i (by omega)))))
                have e47 : ∀ d, lt_ev (d + 5) 47 [.inr (.inr (some B)), .inr (.inr (some 1))] m = some (none, M6) := fun d => by
                  have e4' := e4 (d + 1)
                  have e5' := e5 (d + 1)
                  have na : M5.1 (B + 5) a = nI (bitsN (fun y => decide (0 < H a y)) n) := hr5.2.2.2.2.2 a a2
                  have nb : (lm_i (lm_i M5 (B + 3) (12 * a + b) (nI hh)) (B + 5) a (nI (bitsN (fun y => decide (0 < H a y)) n ||| 2 ^ b))).1 (B + 5) b = nI (bitsN (fun y => decide (0 < H b y)) n) := by
                    rw [lm_i_ns (by omega), lm_i_ne (by omega)]
                    exact hr5.2.2.2.2.2 b b2
                  rw [pre, if_neg cab, E47_48 _ _ _ _ _ hB s_1, show (58 : Int32) = nI 58 from rfl, e4', lt_cV_s]
                  show lt_cI (lt_ev (d + 4) 37 [.inr (.inr (some 1)), .inl (nI 1), .inl (nI 100 - 1)] (lm_i M3 1 1 (nI (p2 + 1)))) _ = _
                  rw [e5', lt_cI_s, p38 (d + 3) 1 s_1 M5, lt_cI_s, c38g c5.2.2.2, if_neg (by decide), k48 hB (by omega) (by omega) na (nI hh) (d + 1), lt_cV_s, k48 hB (by omega) (by omega) nb (nI hh) (d + 1), lt_cV_s, hM6]
                obtain ⟨M7, hM7⟩ : ∃ M7, M7 = lm_i M6 B 7 (nI (q + 1)) := ⟨_, rfl⟩
                have c7 : crd tx tk p3 M7 := crd_fr (fun x hx => by rw [hM7, lm_i_ne (by omega), f6 x (by omega) (by omega)]) c5
                have z67 : M6.1 B 7 = nI q := by rw [f6 B (by omega) (by omega), f05 B (by omega)]; exact h7
                have hr7 : nR (n, 0, h2N H a b hh, c, dd) B M7 := by
                  obtain ⟨q1, q2, q3, q4, q5, q6⟩ := hr6
                  exact ⟨by rw [hM7, lm_i_ns (by omega)]; exact q1, by rw [hM7, lm_i_ns (by omega)]; exact q2, by rw [hM7, lm_i_ne (by omega)]; exact q3, by rw [hM7, lm_i_ne (by omega)]; exact q4, by rw [hM7, lm_i_ne (by omega)]; exact q5, by rw [hM7, lm_i_ne (by omega)]; exact q6⟩
                have g7 : gfr B m M7 := gfr_tr g6 (by rw [hM7]; exact gfr_i (by omega))
                have z77 : M7.1 B 7 = nI (q + 1) := by rw [hM7, lm_i_eq]
                have b67 : M7.1 (B + 6) = m.1 (B + 6) := by rw [hM7, lm_i_ne (by omega), f6 (B + 6) (by omega) (by omega), f05 (B + 6) (by omega)]
                have body : ∀ d, L44_29 (d + 5) B 1 1 m = (if (40 : Int32) ≤ nI (q + 1) then (L44_29 (d + 5) B 1 (0 : Int32) M7) else (lt_cI (lt_ev (d + 5) 43 [.inr (.inr (some 1)), .inl (nI 44)] M7) (fun v1 m2 => (if v1 = 0 then (L44_29 (d + 5) B 1 (0 : Int32) m2) else (L44_29 (d + 5) B 1 (1 : Int32) m2))))) := fun d => by
                  rw [head, e47 d, lt_cV_s, z67, nI_1, ← hM7, z77]
                  rfl
                by_cases cq : q + 1 < 40
                · by_cases c44 : sg tx tk p3 = 44
                  · rw [if_pos ⟨cq, c44⟩]
                    obtain ⟨M, e8, g8, k8, x8⟩ := ih (q + 1) (h2N H a b hh) (p3 + 1) (lm_i M7 1 1 (nI (p3 + 1))) (by omega) (by omega) ho2 (crd_p c7 (sg_lt c44 (by omega))) (nR_1 (fun x hx => lm_i_ne hx) hB2 hr7) (by rw [lm_i_ne (by omega)]; exact z77)
                    refine ⟨M, fun d => ?_, gfr_tr g7 (gfr_tr (gfr_i (by omega)) g8), by rw [k8, lm_i_ne (by omega)]; exact b67, x8⟩
                    have e43 := k43 (c := 44) (by omega) c7 (d + 3)
                    rw [body, if_neg (by rw [q_40, sp_len (by omega) (by omega)]; omega), e43, if_pos c44, lt_cI_s, if_neg (by decide), if_pos c44, e8 d]
                  · rw [if_neg (fun q => c44 q.2)]
                    refine ⟨M7, fun d => ?_, g7, b67, c7, hr7, z77⟩
                    have e43 := k43 (c := 44) (by omega) c7 (d + 3)
                    rw [body, if_neg (by rw [q_40, sp_len (by omega) (by omega)]; omega), e43, if_neg c44, lt_cI_s, if_pos rfl, if_neg c44, zero M7 d]
                · rw [if_neg (fun q => cq q.1)]
                  refine ⟨M7, fun d => ?_, g7, b67, c7, hr7, z77⟩
                  rw [body, if_pos (by rw [q_40, sp_len (by omega) (by omega)]; omega), zero M7 d]
              · rw [show dgs 100 = 2 by decide] at hnu5
                have hRD : rdP n tx tk (f + 1) q H p = .inl e := by
                  simp only [rdP]
                  rw [hnu]
                  simp only
                  rw [if_pos c45, hnu3]
                  simp only
                  rw [if_neg cab, if_pos c58, hnu5]
                rw [hRD]
                refine fail e M5 c5 (gfr_1 (fun x hx => by rw [f5 x hx, f4 x hx]) (by rw [r5]; exact r03)) (by rw [f5 (B + 6) (by omega), f4 (B + 6) (by omega)]) fun d => ?_
                have e4' := e4 (d + 1)
                have e5' := e5 (d + 1)
                rw [pre, if_neg cab, E47_48 _ _ _ _ _ hB s_1, show (58 : Int32) = nI 58 from rfl, e4', lt_cV_s]
                show lt_cI (lt_ev (d + 4) 37 [.inr (.inr (some 1)), .inl (nI 1), .inl (nI 100 - 1)] (lm_i M3 1 1 (nI (p2 + 1)))) _ = _
                rw [e5', lt_cI_s, p38 (d + 3) 1 s_1 M5, lt_cI_s, c38b c5.2.2.2 c5.2.1, if_pos (by decide)]
            · have hRD : rdP n tx tk (f + 1) q H p = .inl p2 := by
                simp only [rdP]
                rw [hnu]
                simp only
                rw [if_pos c45, hnu3]
                simp only
                rw [if_neg cab, if_neg c58]
              rw [hRD]
              obtain ⟨e4, c4⟩ := k42f (by omega) c3 c58
              refine fail p2 _ c4 (gfr_tr (gfr_1 f03 r03) (gfr_i (by omega))) (by rw [lm_i_ne (by omega), f03 (B + 6) (by omega)]) fun d => ?_
              have e4' := e4 (d + 1)
              have e5 := k37b 1 99 c4 (d + 1)
              rw [pre, if_neg cab, E47_48 _ _ _ _ _ hB s_1, show (58 : Int32) = nI 58 from rfl, e4', lt_cV_s, e5, lt_cI_s, p38 (d + 3) 1 s_1 _, lt_cI_s, c38b c4.2.2.2 c4.2.1, if_pos (by decide)]
        · have hRD : rdP n tx tk (f + 1) q H p = .inl e := by
            simp only [rdP]
            rw [hnu]
            simp only
            rw [if_pos c45, hnu3]
          rw [hRD]
          have f03 : ∀ b, b ≠ 1 → M3.1 b = m.1 b := fun b hb => by rw [f3 b hb, f2 b hb]
          refine fail e M3 c3 (gfr_1 f03 (by rw [r3]; exact r1)) (f03 (B + 6) (by omega)) fun d => ?_
          have e1' := e1 (d + 1)
          have e2' := e2 (d + 1)
          have e3' := e3 (d + 1)
          have e5 := k47e hB c3 (nI a) (-1) (d + 1)
          rw [h47, e1', lt_cI_s, e2', lt_cV_s, f2 B (by omega), hb6, e3', lt_cI_s, if_neg (by rw [sp_m1 (by omega)]; exact not_false), p13 (d + 2) B _ _ hB M3, lt_cI_s, c13r, if_pos (by decide), e5]
      · have hRD : rdP n tx tk (f + 1) q H p = .inl p1 := by
          simp only [rdP]
          rw [hnu]
          simp only
          rw [if_neg c45]
        rw [hRD]
        obtain ⟨e2, c2⟩ := k42f (by omega) c1 c45
        refine fail p1 _ c2 (gfr_tr (gfr_1 f1 r1) (gfr_i (by omega))) (by rw [lm_i_ne (by omega), f1 (B + 6) (by omega)]) fun d => ?_
        have e1' := e1 (d + 1)
        have e2' := e2 (d + 1)
        have e3' := k37b (nI 0) (nI n - 1) c2 (d + 1)
        have e5 := k47e hB c2 (nI a) (-1) (d + 1)
        have hb6' : (lm_i M1 1 2 (nI p1)).1 B 6 = nI n := by rw [lm_i_ne (by omega), f1 B (by omega)]; exact hb6
        rw [h47, e1', lt_cI_s, e2', lt_cV_s, hb6', e3', lt_cI_s, if_neg (by rw [sp_m1 (by omega)]; exact not_false), p13 (d + 2) B _ _ hB _, lt_cI_s, c13r, if_pos (by decide), e5]
    · have hRD : rdP n tx tk (f + 1) q H p = .inl e := by
        simp only [rdP]
        rw [hnu]
      rw [hRD]
      refine fail e M1 c1 (gfr_1 f1 r1) (f1 (B + 6) (by omega)) fun d => ?_
      have e1' := e1 (d + 1)
      have e2' := k42b (nI 45) c1 (d + 1)
      have e3' := k37b (nI 0) (nI n - 1) c1 (d + 1)
      have e5 := k47e hB c1 (-1) (-1) (d + 1)
      have hb6' : M1.1 B 6 = nI n := by rw [f1 B (by omega)]; exact hb6
      rw [h47, e1', lt_cI_s, e2', lt_cV_s, hb6', e3', lt_cI_s, if_pos rfl, k41b c1 (d + 3), lt_cV_s, e5]
end NR2

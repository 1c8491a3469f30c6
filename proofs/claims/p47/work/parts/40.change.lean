/-! ===== hours: one change of the class ===== -/
section HR
variable {w : Nat → Nat} {L T : Nat} {m : lt_m}
theorem k128a (h0 : ts_sh L = (0, 2)) {i t : Nat} (hi : i < 20) (hT : T < 2 ^ 30) (hw3 : w 3 ≤ 30) (hb : bkR w L T m) (e7 : m.1 (L + 3 + 5 + 3 * i) 7 = nI 0) (e6 : m.1 (L + 3 + 5 + 3 * i) 6 = nI t) (en : m.1 (L + 3 + 5 + 3 * i) 0 = nI i) : ∃ m', (∀ d, lt_ev (d + 3) 128 [.inr (.inr (some L)), .inr (.inr (some (L + 3 + 5 + 3 * i)))] m = some (none, m')) ∧ bkR (wnote w 4 i (t + 1)) L (T + 1) m' ∧ m'.2 = m.2 ∧ ∀ b, ¬ (L + 4 ≤ b ∧ b < L + 8) → m'.1 b = (lm_i m (L + 3 + 5 + 3 * i) 7 3).1 b := by
  have hq := sh_mv h0 hi
  have hb2 : bkR w L T (lm_i m (L + 3 + 5 + 3 * i) 7 3) := bkR_cg (m := m) rfl (fun _ _ => rfl) (fun b b1 b2 => lm_i_ne (by omega)) hb
  obtain ⟨M3, e3, hb3, r3, f3⟩ := k112 h0 hT hw3 hb2 4 i (t + 1)
  refine ⟨M3, fun d => ?_, hb3, r3, f3⟩
  have hv : v127 m (L + 3 + 5 + 3 * i) = nI (t + 1) := by
    unfold v127
    rw [e7, e6, if_neg (by decide), nI_1]
  refine (E128 (d + 2) L _ h0 hq m).trans ?_
  rw [p127 (d + 1) _ hq m, lt_cI_s, e7, if_neg (by decide), hv, lm_i_ns (by omega), en, q_4, e3 d, lt_cV_s]
theorem k128b (h0 : ts_sh L = (0, 2)) {i t D : Nat} (hi : i < 20) (hT : T < 2 ^ 30) (hw3 : w 3 ≤ 30) (hb : bkR w L T m) (e7 : m.1 (L + 3 + 5 + 3 * i) 7 = nI 3) (e6 : m.1 (L + 3 + 5 + 3 * i) 6 = nI t) (e4 : m.1 (L + 3 + 5 + 3 * i) 4 = nI D) (en : m.1 (L + 3 + 5 + 3 * i) 0 = nI i) : ∃ m', (∀ d, lt_ev (d + 3) 128 [.inr (.inr (some L)), .inr (.inr (some (L + 3 + 5 + 3 * i)))] m = some (none, m')) ∧ bkR (wnote w 5 i (t + 72)) L (T + 1) m' ∧ m'.2 = m.2 ∧ ∀ b, ¬ (L + 4 ≤ b ∧ b < L + 8) → m'.1 b = (lm_i (lm_i m (L + 3 + 5 + 3 * i) 7 4) (L + 3 + 5 + 3 * i) 10 (nI D)).1 b := by
  have hq := sh_mv h0 hi
  have hb2 : bkR w L T (lm_i (lm_i m (L + 3 + 5 + 3 * i) 7 4) (L + 3 + 5 + 3 * i) 10 (nI D)) := bkR_cg (m := m) rfl (fun _ _ => rfl) (fun b b1 b2 => by rw [lm_i_ne (by omega), lm_i_ne (by omega)]) hb
  obtain ⟨M3, e3, hb3, r3, f3⟩ := k112 h0 hT hw3 hb2 5 i (t + 72)
  refine ⟨M3, fun d => ?_, hb3, r3, f3⟩
  have hv : v127 m (L + 3 + 5 + 3 * i) = nI (t + 72) := by
    unfold v127
    rw [e7, e6, if_pos (by decide), if_neg (by decide), q_72, nI_add]
  have hn2 : (lm_i (lm_i m (L + 3 + 5 + 3 * i) 7 4) (L + 3 + 5 + 3 * i) 10 (nI D)).1 (L + 3 + 5 + 3 * i) 0 = nI i := by rw [lm_i_ns (by omega), lm_i_ns (by omega)]; exact en
  refine (E128 (d + 2) L _ h0 hq m).trans ?_
  rw [p127 (d + 1) _ hq m, lt_cI_s, e7, if_pos (by decide), e4, hv, E120 (d + 1) _ _ hq m, lt_cV_s, hn2, q_5, e3 d, lt_cV_s]
end HR

/-! ===== writeDown; written ===== -/
section WD
variable {N : NT} {A : Nat} {m M : lt_m} {w : Nat → Nat} {T : Nat}
theorem nR_a {M : lt_m} (h : afr A m M) (hn : nR N A m) : nR N A M := by
  unfold nR at hn ⊢
  rw [h.1 A (by omega) (by omega), h.1 (A + 1) (by omega) (by omega), h.1 (A + 2) (by omega) (by omega), h.1 (A + 3) (by omega) (by omega), h.1 (A + 5) (by omega) (by omega)]
  exact hn
def stL (f : Bool) : List Nat := if f then [] else [44]
/-- a road -/
theorem k24 (hA : ts_sh A = (0, 5)) (hN : wfN N) {a b : Nat} (ha : a < N.1) (hb : b < N.1) {l : List Nat} {f : Bool} (hn : nR N A m) (hl : (l ++ (stL f ++ rdL a b (N.2.2.1 a b))).length ≤ 200) (h : CT A l m) : ∃ M, (∀ d, lt_ev (d + 4) 24 [.inr (.inr (some A)), .inl (nI a), .inl (nI b), .inl (if f then 1 else 0)] m = some (none, M)) ∧ CT A (l ++ (stL f ++ rdL a b (N.2.2.1 a b))) M ∧ afr A m M := by
  have hn2 := hN.2.1
  have hh := hN.2.2.2.1 a b ha hb
  have body : ∀ (x3 : Int32) l m, nR N A m → (l ++ rdL a b (N.2.2.1 a b)).length ≤ 200 → CT A l m → ∃ M, (∀ d, L24_13 (d + 3) A (nI a) (nI b) x3 m = some (none, M)) ∧ CT A (l ++ rdL a b (N.2.2.1 a b)) M ∧ afr A m M := by
    intro x3 l m hn hl h
    unfold rdL at hl ⊢
    simp only [List.length_append, List.length_cons, List.length_nil] at hl
    obtain ⟨M1, e1, c1, f1⟩ := k22 hA (v := a) (by omega) (by rw [List.length_append]; omega) h
    obtain ⟨M2, e2, c2, f2⟩ := k23 hA (v := 45) (by rw [List.length_append]; omega) c1
    obtain ⟨M3, e3, c3, f3⟩ := k22 hA (v := b) (by omega) (by simp only [List.length_append, List.length_cons, List.length_nil]; omega) c2
    obtain ⟨M4, e4, c4, f4⟩ := k23 hA (v := 58) (by simp only [List.length_append, List.length_cons, List.length_nil]; omega) c3
    obtain ⟨M5, e5, c5, f5⟩ := k22 hA (v := N.2.2.1 a b) (by omega) (by simp only [List.length_append, List.length_cons, List.length_nil]; omega) c4
    have hn4 := nR_a f4 (nR_a f3 (nR_a f2 (nR_a f1 hn)))
    refine ⟨M5, fun d => ?_, ?_, afr_tr f1 (afr_tr f2 (afr_tr f3 (afr_tr f4 f5)))⟩
    · have e2' := e2 (d + 1)
      have e4' := e4 (d + 1)
      rw [E24_13 _ _ _ _ _ hA, e1 d, lt_cV_s, show (45 : Int32) = nI 45 from rfl, e2', lt_cV_s, e3 d, lt_cV_s, show (58 : Int32) = nI 58 from rfl, e4', lt_cV_s, p13 (d + 1) A _ _ hA M4, lt_cI_s, c13 hn4 hN ha hb, e5 d, lt_cV_s]
    · rw [List.append_assoc, List.append_assoc, List.append_assoc, List.append_assoc] at c5
      exact c5
  cases f with
  | true =>
    obtain ⟨M, e1, c1, f1⟩ := body 1 l m hn (by simpa [stL] using hl) h
    refine ⟨M, fun d => ?_, by simpa [stL] using c1, f1⟩
    refine (E24 (d + 3) A _ _ _ hA m).trans ?_
    rw [if_pos (by decide)]
    exact e1 d
  | false =>
    have hl' : ((l ++ [44]) ++ rdL a b (N.2.2.1 a b)).length ≤ 200 := by rw [List.append_assoc]; exact hl
    obtain ⟨M1, e1, c1, f1⟩ := k23 hA (v := 44) (by rw [List.length_append, List.length_append] at hl'; simp at hl'; omega) h
    obtain ⟨M2, e2, c2, f2⟩ := body 0 (l ++ [44]) M1 (nR_a f1 hn) hl' c1
    refine ⟨M2, fun d => ?_, by rw [List.append_assoc] at c2; exact c2, afr_tr f1 f2⟩
    refine (E24 (d + 3) A _ _ _ hA m).trans ?_
    have e1' := e1 (d + 1)
    rw [if_neg (by decide), show (44 : Int32) = nI 44 from rfl, e1', lt_cV_s]
    exact e2 d
def fsL (l : List Nat) : Bool := match l with
  | [] => true
  | _ :: _ => false
theorem rl_s {H : Nat → Nat → Nat} {n k : Nat} (h : rcd H n k = true) : rlL H n (k + 1) = rlL H n k ++ (stL (fsL (rlL H n k)) ++ rdL (k / 12) (k % 12) (H (k / 12) (k % 12))) := by
  simp only [rlL]
  rw [if_pos h]
  cases q : rlL H n k with
  | nil => rfl
  | cons x t =>
    rw [if_neg (by simp)]
    rfl
theorem fs_app {l r : List Nat} (h : r ≠ []) : fsL (l ++ r) = false := by
  cases l with
  | nil =>
    cases r with
    | nil => exact absurd rfl h
    | cons x t => rfl
  | cons x t => rfl
theorem fs_rl {H : Nat → Nat → Nat} {n k : Nat} (h : rcd H n k = true) : fsL (rlL H n (k + 1)) = false := by
  rw [rl_s h]
  refine fs_app fun q => ?_
  have := congrArg List.length q
  rw [List.length_append] at this
  have h2 : (rdL (k / 12) (k % 12) (H (k / 12) (k % 12))).length ≠ 0 := fun q2 => rd_ne _ _ _ (List.eq_nil_of_length_eq_zero q2)
  simp only [List.length_nil] at this
  omega
/-- the roads, one row -/
theorem k19r (hA : ts_sh A = (0, 5)) (hN : wfN N) {P : List Nat} {a : Nat} (ha : a < N.1) (hlen : P.length + (rlL N.2.2.1 N.1 144).length ≤ 200) : ∀ r b m, b + r = N.1 → a < b → nR N A m → CT A (P ++ rlL N.2.2.1 N.1 (12 * a + b)) m → ∃ M o, (∀ d, L19_61 (d + 4) A (if fsL (rlL N.2.2.1 N.1 (12 * a + b)) then 1 else 0) (nI a) (nI b) m = L19_49 (d + 4) A (if fsL (rlL N.2.2.1 N.1 (12 * a + N.1)) then 1 else 0) (nI (a + 1)) o M) ∧ CT A (P ++ rlL N.2.2.1 N.1 (12 * a + N.1)) M ∧ afr A m M := by
  have hn1 := hN.1
  have hn2 := hN.2.1
  intro r
  induction r with
  | zero =>
    intro b m hb hab hn h
    have hb : b = N.1 := hb
    subst hb
    refine ⟨m, some (.inl (nI N.1)), fun d => ?_, h, afr_rf m⟩
    rw [E19_61 _ _ _ _ _ hA, hn.1, if_pos (by rw [sp_len (by omega) (by omega)]; exact Nat.le_refl _), nI_1]
  | succ r ih =>
    intro b m hb hab hn h
    have hb2 : b < N.1 := by omega
    have hh := hN.2.2.2.1 a b ha hb2
    have kd : (12 * a + b) / 12 = a := by omega
    have km : (12 * a + b) % 12 = b := by omega
    by_cases c : N.2.2.1 a b = 0
    · have hr : rcd N.2.2.1 N.1 (12 * a + b) = false := decide_eq_false (by rw [kd, km]; omega)
      have e : rlL N.2.2.1 N.1 (12 * a + b + 1) = rlL N.2.2.1 N.1 (12 * a + b) := by
        simp only [rlL]
        rw [hr, if_neg (by decide)]
      obtain ⟨M, o, e1, c1, f1⟩ := ih (b + 1) m (by omega) (by omega) hn (by rw [← Nat.add_assoc, e]; exact h)
      refine ⟨M, o, fun d => ?_, c1, f1⟩
      have e1' := e1 d
      rw [← Nat.add_assoc, e] at e1'
      rw [E19_61 _ _ _ _ _ hA, hn.1, if_neg (by rw [sp_len (by omega) (by omega)]; omega), p13 (d + 2) A _ _ hA m, lt_cI_s, c13 hn hN ha hb2, if_pos (by rw [sp_le0 (by omega)]; omega), nI_1, e1']
    · have hr : rcd N.2.2.1 N.1 (12 * a + b) = true := decide_eq_true (by rw [kd, km]; omega)
      have e := rl_s hr
      rw [kd, km] at e
      have hfs := fs_rl hr
      have hle : (rlL N.2.2.1 N.1 (12 * a + b + 1)).length ≤ (rlL N.2.2.1 N.1 144).length := rl_le (by omega)
      obtain ⟨M1, e2, c2, f2⟩ := k24 hA hN (a := a) (b := b) (f := fsL (rlL N.2.2.1 N.1 (12 * a + b))) ha hb2 hn (l := P ++ rlL N.2.2.1 N.1 (12 * a + b)) (by
        rw [List.append_assoc, ← e, List.length_append]
        omega) h
      rw [List.append_assoc, ← e] at c2
      obtain ⟨M, o, e1, c1, f1⟩ := ih (b + 1) M1 (by omega) (by omega) (nR_a f2 hn) (by rw [← Nat.add_assoc]; exact c2)
      refine ⟨M, o, fun d => ?_, c1, afr_tr f2 f1⟩
      have e1' := e1 d
      rw [← Nat.add_assoc, hfs] at e1'
      rw [E19_61 _ _ _ _ _ hA, hn.1, if_neg (by rw [sp_len (by omega) (by omega)]; omega), p13 (d + 2) A _ _ hA m, lt_cI_s, c13 hn hN ha hb2, if_neg (by rw [sp_le0 (by omega)]; omega), e2 d, lt_cV_s, nI_1]
      exact e1'
theorem k19a (hA : ts_sh A = (0, 5)) (hN : wfN N) {P : List Nat} (hlen : P.length + (rlL N.2.2.1 N.1 144).length ≤ 200) : ∀ r a o m, a + r = N.1 → nR N A m → CT A (P ++ rlL N.2.2.1 N.1 (12 * a)) m → ∃ M o' x, (∀ d, L19_49 (d + 4) A (if fsL (rlL N.2.2.1 N.1 (12 * a)) then 1 else 0) (nI a) o m = L19_101 (d + 4) A x 0 o' M) ∧ CT A (P ++ rlL N.2.2.1 N.1 144) M ∧ afr A m M := by
  have hn1 := hN.1
  have hn2 := hN.2.1
  intro r
  induction r with
  | zero =>
    intro a o m ha hn h
    have ha : a = N.1 := ha
    subst ha
    have e : rlL N.2.2.1 N.1 144 = rlL N.2.2.1 N.1 (12 * N.1) := by
      have := rl_skip (H := N.2.2.1) (n := N.1) (144 - 12 * N.1) (12 * N.1) (fun i h1 h2 => decide_eq_false (by omega))
      rw [show 12 * N.1 + (144 - 12 * N.1) = 144 by omega] at this
      exact this
    refine ⟨m, o, if fsL (rlL N.2.2.1 N.1 (12 * N.1)) then 1 else 0, fun d => ?_, by rw [e]; exact h, afr_rf m⟩
    rw [E19_49 _ _ _ _ _ hA, hn.1, if_pos (by rw [sp_len (by omega) (by omega)]; exact Nat.le_refl _)]
  | succ r ih =>
    intro a o m ha hn h
    have sk1 : rlL N.2.2.1 N.1 (12 * a + (a + 1)) = rlL N.2.2.1 N.1 (12 * a) := rl_skip (a + 1) (12 * a) fun i h1 h2 => decide_eq_false (by omega)
    have sk2 : rlL N.2.2.1 N.1 (12 * (a + 1)) = rlL N.2.2.1 N.1 (12 * a + N.1) := by
      have := rl_skip (H := N.2.2.1) (n := N.1) (12 - N.1) (12 * a + N.1) (fun i h1 h2 => decide_eq_false (by omega))
      rw [show 12 * a + N.1 + (12 - N.1) = 12 * (a + 1) by omega] at this
      exact this
    obtain ⟨M1, o1, e1, c1, f1⟩ := k19r hA hN (P := P) (a := a) (by omega) hlen (N.1 - (a + 1)) (a + 1) m (by omega) (by omega) hn (by rw [sk1]; exact h)
    obtain ⟨M2, o2, x2, e2, c2, f2⟩ := ih (a + 1) o1 M1 (by omega) (nR_a f1 hn) (by rw [sk2]; exact c1)
    refine ⟨M2, o2, x2, fun d => ?_, c2, afr_tr f1 f2⟩
    have e1' := e1 d
    have e2' := e2 d
    rw [sk1] at e1'
    rw [sk2] at e2'
    rw [E19_49 _ _ _ _ _ hA, hn.1, if_neg (by rw [sp_len (by omega) (by omega)]; omega), nI_1]
    exact e1'.trans e2'
theorem k19d (hA : ts_sh A = (0, 5)) (hN : wfN N) {P : List Nat} (hlen : P.length + (dtL N.2.2.2.2 N.2.1).length ≤ 200) : ∀ r g o x m, g + r = N.2.1 → nR N A m → CT A (P ++ dtL N.2.2.2.2 g) m → ∃ M, (∀ d, L19_101 (d + 4) A x (nI g) o m = some (none, M)) ∧ CT A (P ++ dtL N.2.2.2.2 N.2.1) M ∧ afr A m M := by
  have hg6 := hN.2.2.1
  intro r
  induction r with
  | zero =>
    intro g o x m hg hn h
    have hg : g = N.2.1 := hg
    subst hg
    refine ⟨m, fun d => ?_, h, afr_rf m⟩
    rw [E19_101 _ _ _ _ _ hA, hn.2.1, if_pos (by rw [sp_len (by omega) (by omega)]; exact Nat.le_refl _)]
  | succ r ih =>
    intro g o x m hg hn h
    have hg2 : g < N.2.1 := by omega
    have hd := hN.2.2.2.2.2.2.2 g hg2
    have hle : (dtL N.2.2.2.2 (g + 1)).length ≤ (dtL N.2.2.2.2 N.2.1).length := dt_le (by omega)
    have hdt : dtL N.2.2.2.2 (g + 1) = dtL N.2.2.2.2 g ++ ([if g = 0 then 124 else 44] ++ dgL (N.2.2.2.2 g)) := rfl
    have hle2 : (dtL N.2.2.2.2 g).length + 1 + (dgL (N.2.2.2.2 g)).length ≤ (dtL N.2.2.2.2 N.2.1).length := by
      rw [hdt] at hle
      simp only [List.length_append, List.length_cons, List.length_nil] at hle
      omega
    obtain ⟨M1, e1, c1, f1⟩ := k23 hA (v := if g = 0 then 124 else 44) (by rw [List.length_append]; omega) h
    obtain ⟨M2, e2, c2, f2⟩ := k22 hA (v := N.2.2.2.2 g) (by omega) (by simp only [List.length_append, List.length_cons, List.length_nil]; omega) c1
    rw [List.append_assoc, List.append_assoc, ← hdt] at c2
    have hn1 := nR_a f1 hn
    obtain ⟨M3, e3, c3, f3⟩ := ih (g + 1) o x M2 (by omega) (nR_a f2 hn1) c2
    refine ⟨M3, fun d => ?_, c3, afr_tr f1 (afr_tr f2 f3)⟩
    have e1' := e1 (d + 2)
    rw [E19_101 _ _ _ _ _ hA, hn.2.1, if_neg (by rw [sp_len (by omega) (by omega)]; omega)]
    by_cases c : g = 0
    · rw [if_pos c] at e1'
      rw [if_neg (by rw [c]; exact fun q => q rfl), show (124 : Int32) = nI 124 from rfl, e1', lt_cV_s, p25 (d + 2) A _ hA M1, lt_cI_s, c25 hn1 hN hg2, e2 (d + 1), lt_cV_s, nI_1, e3 d]
    · rw [if_neg c] at e1'
      rw [if_pos (by rw [sp_eq0 (by omega)]; exact c), show (44 : Int32) = nI 44 from rfl, e1', lt_cV_s, p25 (d + 2) A _ hA M1, lt_cI_s, c25 hn1 hN hg2, e2 (d + 1), lt_cV_s, nI_1, e3 d]
theorem dg_1 {c : Nat} (h : c ≤ 5) : dgL c = [48 + c] := by
  unfold dgL
  rw [if_neg (by omega), if_neg (by omega), Nat.mod_eq_of_lt (by omega)]
  rfl
/-- writeDown -/
theorem k19 (hA : ts_sh A = (0, 5)) (hN : wfN N) (hn : nR N A m) {s : Nat} (hs : s ≤ 200) (h6 : m.1 (A + 6) 1 = nI s) (hlen : (wtx N).length ≤ 200) : ∃ M, (∀ d, lt_ev (d + 5) 19 [.inr (.inr (some A))] m = some (none, M)) ∧ CT A (wtx N) M ∧ afr A m M := by
  have hn1 := hN.1
  have hn2 := hN.2.1
  have s6 : ts_sh (A + 6) = (0, 10) := sf_of hA 5 (by decide) (by decide)
  have hlen' := hlen
  unfold wtx at hlen'
  simp only [List.length_append, List.length_cons, List.length_nil, ct_len] at hlen'
  obtain ⟨M0, hM0⟩ : ∃ M0, M0 = lm_i m (A + 6) 1 0 := ⟨_, rfl⟩
  have f0 : afr A m M0 := ⟨fun b b1 b2 => by rw [hM0, lm_i_ne b1], by rw [hM0]; rfl⟩
  have c0 : CT A (ctL N.2.2.2.1 0) M0 := ⟨by rw [hM0, lm_i_eq]; rfl, fun j v hj => by simp [ctL] at hj⟩
  have cts : ∀ r k m', k + r = N.1 → nR N A m' → CT A (ctL N.2.2.2.1 k) m' → ∃ M, (∀ d, L19_10 (d + 4) A (nI k) m' = lt_cV (lt_ev (d + 4) 23 [.inr (.inr (some (A + 6))), .inl (124 : Int32)] M) (fun m1 => (L19_49 (d + 4) A (1 : Int32) (0 : Int32) none m1))) ∧ CT A (ctL N.2.2.2.1 N.1) M ∧ afr A m' M := by
    intro r
    induction r with
    | zero =>
      intro k m' hk hn h
      have hk : k = N.1 := hk
      subst hk
      refine ⟨m', fun d => ?_, h, afr_rf m'⟩
      rw [E19_10 _ _ _ hA, hn.1, if_pos (by rw [sp_len (by omega) (by omega)]; exact Nat.le_refl _)]
    | succ r ih =>
      intro k m' hk hn h
      have hc := hN.2.2.2.2.2.2.1 k (by omega)
      have hdg := dg_1 hc
      obtain ⟨M1, e1, c1, f1⟩ := k22 hA (v := N.2.2.2.1 k) (by omega) (by rw [hdg, List.length_append, ct_len]; simp; omega) h
      rw [hdg] at c1
      obtain ⟨M2, e2, c2, f2⟩ := ih (k + 1) M1 (by omega) (nR_a f1 hn) c1
      refine ⟨M2, fun d => ?_, c2, afr_tr f1 f2⟩
      rw [E19_10 _ _ _ hA, hn.1, if_neg (by rw [sp_len (by omega) (by omega)]; omega), p21 (d + 2) A _ hA m', lt_cI_s, c21 hn hN (by omega), e1 (d + 1), lt_cV_s, nI_1, e2 d]
  obtain ⟨M1, e1, c1, f1⟩ := cts N.1 0 M0 (by omega) (nR_a f0 hn) c0
  obtain ⟨M2, e2, c2, f2⟩ := k23 hA (v := 124) (by rw [ct_len]; omega) c1
  have hn12 := nR_a f2 (nR_a f1 (nR_a f0 hn))
  obtain ⟨M3, o3, x3, e3, c3, f3⟩ := k19a hA hN (P := ctL N.2.2.2.1 N.1 ++ [124]) (by rw [List.length_append, ct_len]; simp; omega) N.1 0 none M2 (by omega) hn12 (by
    show CT A ((ctL N.2.2.2.1 N.1 ++ [124]) ++ []) M2
    rw [List.append_nil]; exact c2)
  obtain ⟨M4, e4, c4, f4⟩ := k19d hA hN (P := (ctL N.2.2.2.1 N.1 ++ [124]) ++ rlL N.2.2.1 N.1 144) (by simp only [List.length_append, List.length_cons, List.length_nil, ct_len]; omega) N.2.1 0 o3 x3 M3 (by omega) (nR_a f3 hn12) (by
    show CT A (((ctL N.2.2.2.1 N.1 ++ [124]) ++ rlL N.2.2.1 N.1 144) ++ []) M3
    rw [List.append_nil]; exact c3)
  rw [List.append_assoc (ctL N.2.2.2.1 N.1 ++ [124])] at c4
  refine ⟨M4, fun d => ?_, c4, afr_tr f0 (afr_tr f1 (afr_tr f2 (afr_tr f3 f4)))⟩
  refine (E19 (d + 4) A hA m).trans ?_
  have e2' := e2 (d + 2)
  rw [E20 (d + 3) _ _ s6 m, if_neg (by decide), h6, if_neg (by rw [q_0, sp_ltn (by omega) (by omega)]; omega), lt_cV_s, ← hM0]
  refine (e1 d).trans ?_
  rw [show (124 : Int32) = nI 124 from rfl, e2', lt_cV_s]
  exact (e3 d).trans (e4 d)
end WD

/-! ===== the NET written down: texts ===== -/
def dgL (v : Nat) : List Nat := (if 100 ≤ v then [48 + v / 100 % 10] else []) ++ ((if 10 ≤ v then [48 + v / 10 % 10] else []) ++ [48 + v % 10])
def rdL (a b h : Nat) : List Nat := dgL a ++ ([45] ++ (dgL b ++ ([58] ++ dgL h)))
def rcd (H : Nat → Nat → Nat) (n k : Nat) : Bool := decide (k / 12 < k % 12 ∧ k % 12 < n ∧ 0 < H (k / 12) (k % 12))
def rlL (H : Nat → Nat → Nat) (n : Nat) : Nat → List Nat
  | 0 => []
  | k + 1 => if rcd H n k = true then (if rlL H n k = [] then rdL (k / 12) (k % 12) (H (k / 12) (k % 12)) else rlL H n k ++ ([44] ++ rdL (k / 12) (k % 12) (H (k / 12) (k % 12)))) else rlL H n k
def ctL (c : Nat → Nat) : Nat → List Nat
  | 0 => []
  | n + 1 => ctL c n ++ [48 + c n]
def dtL (dd : Nat → Nat) : Nat → List Nat
  | 0 => []
  | g + 1 => dtL dd g ++ ([if g = 0 then 124 else 44] ++ dgL (dd g))
def wtx (N : NT) : List Nat := (ctL N.2.2.2.1 N.1 ++ [124]) ++ (rlL N.2.2.1 N.1 144 ++ dtL N.2.2.2.2 N.2.1)
def wlD : DT := fun N i j => if i = 0 then (wtx N).length else (wtx N).getD j 0
theorem dg_ne (v : Nat) : dgL v ≠ [] := by
  unfold dgL
  intro h
  have := congrArg List.length h
  simp at this
theorem rd_ne (a b h : Nat) : rdL a b h ≠ [] := by
  unfold rdL
  intro q
  have := congrArg List.length q
  simp at this
theorem rl_mono {H : Nat → Nat → Nat} {n : Nat} : ∀ j k, (rlL H n k).length ≤ (rlL H n (k + j)).length := by
  intro j
  induction j with
  | zero => intro k; exact Nat.le_refl _
  | succ j ih =>
    intro k
    refine Nat.le_trans (ih k) ?_
    rw [← Nat.add_assoc]
    simp only [rlL]
    split
    · split
      · next q => rw [q]; exact Nat.zero_le _
      · rw [List.length_append]; exact Nat.le_add_right _ _
    · exact Nat.le_refl _
theorem rl_le {H : Nat → Nat → Nat} {n j k : Nat} (h : j ≤ k) : (rlL H n j).length ≤ (rlL H n k).length := by
  obtain ⟨i, rfl⟩ := Nat.le.dest h
  exact rl_mono i j
theorem rl_skip {H : Nat → Nat → Nat} {n : Nat} : ∀ j k, (∀ i, k ≤ i → i < k + j → rcd H n i = false) → rlL H n (k + j) = rlL H n k := by
  intro j
  induction j with
  | zero => intro k _; rfl
  | succ j ih =>
    intro k h
    rw [← Nat.add_assoc]
    simp only [rlL]
    rw [h (k + j) (by omega) (by omega), if_neg (by decide)]
    exact ih k fun i h1 h2 => h i h1 (by omega)
theorem dt_mono {dd : Nat → Nat} : ∀ j g, (dtL dd g).length ≤ (dtL dd (g + j)).length := by
  intro j
  induction j with
  | zero => intro g; exact Nat.le_refl _
  | succ j ih =>
    intro g
    refine Nat.le_trans (ih g) ?_
    rw [← Nat.add_assoc]
    simp only [dtL]
    rw [List.length_append]
    exact Nat.le_add_right _ _
theorem dt_le {dd : Nat → Nat} {j k : Nat} (h : j ≤ k) : (dtL dd j).length ≤ (dtL dd k).length := by
  obtain ⟨i, rfl⟩ := Nat.le.dest h
  exact dt_mono i j
theorem ct_len {c : Nat → Nat} : ∀ n, (ctL c n).length = n := by
  intro n
  induction n with
  | zero => rfl
  | succ n ih => simp only [ctL]; rw [List.length_append, ih]; rfl
section CTX
variable {A : Nat} {l : List Nat} {m M : lt_m}
/-- a text of the class; of the reference -/
def CT (A : Nat) (l : List Nat) (m : lt_m) : Prop := m.1 (A + 6) 1 = nI l.length ∧ ∀ j v, l[j]? = some v → m.1 (A + 6 + 1) j = nI v
def PT (l : List Nat) (m : lt_m) : Prop := m.1 711 38 = nI l.length ∧ ∀ j v, l[j]? = some v → m.1 728 j = nI v
def afr (A : Nat) (m M : lt_m) : Prop := (∀ b, b ≠ A + 6 → b ≠ A + 6 + 1 → M.1 b = m.1 b) ∧ M.2 = m.2
def pfr (m M : lt_m) : Prop := (∀ b k, ¬ (b = 728 ∨ b = 711 ∧ k = 38) → M.1 b k = m.1 b k) ∧ M.2 = m.2
theorem afr_rf (m : lt_m) : afr A m m := ⟨fun _ _ _ => rfl, rfl⟩
theorem afr_tr {a b c : lt_m} (h1 : afr A a b) (h2 : afr A b c) : afr A a c := ⟨fun x k q => (h2.1 x k q).trans (h1.1 x k q), h2.2.trans h1.2⟩
theorem pfr_rf (m : lt_m) : pfr m m := ⟨fun _ _ _ => rfl, rfl⟩
theorem pfr_tr {a b c : lt_m} (h1 : pfr a b) (h2 : pfr b c) : pfr a c := ⟨fun x k q => (h2.1 x k q).trans (h1.1 x k q), h2.2.trans h1.2⟩
theorem k23 (hA : ts_sh A = (0, 5)) {v : Nat} (hl : l.length < 200) (h : CT A l m) : ∃ M, (∀ d, lt_ev (d + 2) 23 [.inr (.inr (some (A + 6))), .inl (nI v)] m = some (none, M)) ∧ CT A (l ++ [v]) M ∧ afr A m M := by
  have s6 : ts_sh (A + 6) = (0, 10) := sf_of hA 5 (by decide) (by decide)
  have s7 : ts_sh (A + 6 + 1) = (1, 200) := sf_of s6 0 (by decide) (by decide)
  refine ⟨lm_i (lm_i m (A + 6 + 1) l.length (nI v)) (A + 6) 1 (nI (l.length + 1)), fun d => ?_, ⟨?_, fun j u hj => ?_⟩, fun b b1 b2 => by rw [lm_i_ne b1, lm_i_ne b2], rfl⟩
  · refine (E23 (d + 1) _ _ s6 m).trans ?_
    rw [h.1, if_neg (by rw [q_200, sp_len (by omega) (by omega)]; omega), k17 d s7 hl (by decide), lt_cV_s, show (lm_i m (A + 6 + 1) l.length (nI v)).1 (A + 6) 1 = nI l.length by rw [lm_i_ne (by omega)]; exact h.1, nI_1]
  · rw [lm_i_eq, List.length_append]; rfl
  · rw [lm_i_ne (by omega)]
    by_cases hl2 : j < l.length
    · rw [List.getElem?_append_left hl2] at hj
      rw [lm_i_ns (by omega)]
      exact h.2 j u hj
    · rw [List.getElem?_append_right (by omega)] at hj
      have hz : j - l.length < 1 := (List.getElem?_eq_some_iff.mp hj).1
      have e : j = l.length := by omega
      subst e
      rw [Nat.sub_self] at hj
      cases hj
      exact lm_i_eq
theorem k22 (hA : ts_sh A = (0, 5)) {v : Nat} (hv : v < 1000) (hl : (l ++ dgL v).length ≤ 200) (h : CT A l m) : ∃ M, (∀ d, lt_ev (d + 3) 22 [.inr (.inr (some (A + 6))), .inl (nI v)] m = some (none, M)) ∧ CT A (l ++ dgL v) M ∧ afr A m M := by
  have s6 : ts_sh (A + 6) = (0, 10) := sf_of hA 5 (by decide) (by decide)
  have e100 : (100 : Int32) = nI 100 := rfl
  have e48 : (48 : Int32) = nI 48 := rfl
  have hd1 : nI v - nI v / nI 10 * nI 10 = nI (v % 10) := pk_rem (by omega) (by decide) (by decide)
  have hd2 : nI v / nI 10 - nI v / nI 10 / nI 10 * nI 10 = nI (v / 10 % 10) := by rw [pk_div (by omega) (by decide) (by decide)]; exact pk_rem (by omega) (by decide) (by decide)
  -- the last two
  have last : ∀ l m, (l ++ ((if 10 ≤ v then [48 + v / 10 % 10] else []) ++ [48 + v % 10])).length ≤ 200 → CT A l m → ∃ M, (∀ d, L22_20 (d + 2) (A + 6) (nI v) m = some (none, M)) ∧ CT A (l ++ ((if 10 ≤ v then [48 + v / 10 % 10] else []) ++ [48 + v % 10])) M ∧ afr A m M := by
    intro l m hl h
    by_cases c : 10 ≤ v
    · rw [if_pos c] at hl ⊢
      simp only [List.length_append, List.length_cons, List.length_nil] at hl
      obtain ⟨M1, e1, c1, f1⟩ := k23 hA (v := 48 + v / 10 % 10) (by omega) h
      obtain ⟨M2, e2, c2, f2⟩ := k23 hA (v := 48 + v % 10) (by rw [List.length_append]; simp; omega) c1
      refine ⟨M2, fun d => ?_, by rw [List.append_assoc] at c2; exact c2, afr_tr f1 f2⟩
      rw [E22_20 _ _ _ s6, if_neg (by rw [q_10, sp_ltn (by omega) (by omega)]; omega), q_10, hd2, hd1, e48, nI_add, nI_add, e1 d, lt_cV_s, e2 d, lt_cV_s]
    · rw [if_neg c] at hl ⊢
      simp only [List.length_append, List.length_cons, List.length_nil] at hl
      obtain ⟨M2, e2, c2, f2⟩ := k23 hA (v := 48 + v % 10) (by omega) h
      refine ⟨M2, fun d => ?_, c2, f2⟩
      rw [E22_20 _ _ _ s6, if_pos (by rw [q_10, sp_ltn (by omega) (by omega)]; omega), q_10, pk_rem (by omega) (by decide) (by decide), e48, nI_add, e2 d, lt_cV_s]
  unfold dgL at hl ⊢
  by_cases c : 100 ≤ v
  · rw [if_pos c] at hl ⊢
    obtain ⟨M1, e1, c1, f1⟩ := k23 hA (v := 48 + v / 100 % 10) (by simp only [List.length_append, List.length_cons, List.length_nil] at hl; omega) h
    obtain ⟨M2, e2, c2, f2⟩ := last (l ++ [48 + v / 100 % 10]) M1 (by rw [List.append_assoc]; exact hl) c1
    refine ⟨M2, fun d => ?_, by rw [List.append_assoc] at c2; exact c2, afr_tr f1 f2⟩
    refine (E22 (d + 2) _ _ s6 m).trans ?_
    rw [if_neg (by rw [e100, sp_ltn (by omega) (by omega)]; omega), e100, pk_div (by omega) (by decide) (by decide), q_10, pk_rem (by omega) (by decide) (by decide), e48, nI_add, e1 (d + 0), lt_cV_s, e2 d]
  · rw [if_neg c] at hl ⊢
    rw [List.nil_append] at hl ⊢
    obtain ⟨M2, e2, c2, f2⟩ := last l m hl h
    refine ⟨M2, fun d => ?_, c2, f2⟩
    refine (E22 (d + 2) _ _ s6 m).trans ?_
    rw [if_pos (by rw [e100, sp_ltn (by omega) (by omega)]; omega), e2 d]
theorem by_nar : ∀ v, v < 128 → vp_nar .byte ((nI v).toInt8.toInt32) = nI v := by decide +kernel
end CTX

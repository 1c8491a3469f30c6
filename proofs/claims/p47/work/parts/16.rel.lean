/-! ===== the relation between class and reference ===== -/
theorem lm_i_ne {m : lt_m} {a b j : Nat} {v : Int32} (h : b ≠ a) : (lm_i m a j v).1 b = m.1 b := ts_up_ne h
theorem lm_l_1 {m : lt_m} {a j : Nat} {v : Int64} : (lm_l m a j v).1 = m.1 := rfl
theorem lm_i_ns {m : lt_m} {a b j k : Nat} {v : Int32} (h : ¬ (b = a ∧ k = j)) : (lm_i m a j v).1 b k = m.1 b k := if_neg h
theorem lm_i_eq {m : lt_m} {a j : Nat} {v : Int32} : (lm_i m a j v).1 a j = v := if_pos ⟨rfl, rfl⟩
section FR
variable {N : NT} {w : Nat → Nat} {L A T : Nat} {m m' : lt_m}
theorem cl_fr (hf : ∀ b, L ≤ b → b < L + 68 → m'.1 b = m.1 b) (h : cl N w L m) (hw : w 2 ≤ 20) : cl N w L m' := by
  obtain ⟨h1, h2, h3, h4, h5, h6, h7⟩ := h
  refine ⟨by rw [hf L (by omega) (by omega)]; exact h1, by rw [hf L (by omega) (by omega)]; exact h2, by rw [hf L (by omega) (by omega)]; exact h3, fun t ht => ?_, fun i hi => ?_, fun i g1 g2 => ?_, fun i hi => ?_⟩
  · rw [hf (L + 1) (by omega) (by omega), hf (L + 2) (by omega) (by omega)]; exact h4 t ht
  · have := h5 i hi
    unfold mvR at this ⊢
    rw [hf (L + 3 + 5 + 3 * i) (by omega) (by omega), hf (L + 3 + 5 + 3 * i + 1) (by omega) (by omega), hf (L + 3 + 5 + 3 * i + 2) (by omega) (by omega)]
    exact this
  · rw [hf (L + 3 + 5 + 3 * i) (by omega) (by omega)]; exact h6 i g1 g2
  · rw [hf (L + 3 + 5 + 3 * i) (by omega) (by omega)]; exact h7 i hi
/-- the class's BOOK: a ring -/
def bkR (w : Nat → Nat) (L T : Nat) (m : lt_m) : Prop := ∃ tot, tot ≤ T ∧ m.1 (L + 4) 3 = nI tot ∧ w 3 = min tot 30 ∧ ∀ j, j < w 3 → m.1 (L + 4 + 1) ((tot - 1 - j) % 30) = nI (w (536 + 3 * (w 3 - 1 - j))) ∧ m.1 (L + 4 + 2) ((tot - 1 - j) % 30) = nI (w (537 + 3 * (w 3 - 1 - j))) ∧ m.1 (L + 4 + 3) ((tot - 1 - j) % 30) = nI (w (538 + 3 * (w 3 - 1 - j)))
theorem bkR_fr (hf : ∀ b, L ≤ b → b < L + 68 → m'.1 b = m.1 b) (h : bkR w L T m) : bkR w L T m' := by
  obtain ⟨tot, h1, h2, h3, h4⟩ := h
  refine ⟨tot, h1, by rw [hf _ (by omega) (by omega)]; exact h2, h3, fun j hj => ?_⟩
  rw [hf (L + 4 + 1) (by omega) (by omega), hf (L + 4 + 2) (by omega) (by omega), hf (L + 4 + 3) (by omega) (by omega)]
  exact h4 j hj
theorem bkR_mono {T' : Nat} (hT : T ≤ T') (h : bkR w L T m) : bkR w L T' m := by
  obtain ⟨tot, h1, h2⟩ := h
  exact ⟨tot, by omega, h2⟩
theorem nR_fr (hf : ∀ b, A ≤ b → b < A + 8 → m'.1 b = m.1 b) (h : nR N A m) : nR N A m' := by
  unfold nR at h ⊢
  rw [hf A (by omega) (by omega), hf (A + 1) (by omega) (by omega), hf (A + 2) (by omega) (by omega), hf (A + 3) (by omega) (by omega), hf (A + 5) (by omega) (by omega)]
  exact h
/-- a ledger of the class, with its book -/
def LED (N : NT) (w : Nat → Nat) (L T : Nat) (m : lt_m) : Prop := cl N w L m ∧ bkR w L T m ∧ wfL N w
theorem LED_fr (hf : ∀ b, L ≤ b → b < L + 68 → m'.1 b = m.1 b) (h : LED N w L T m) : LED N w L T m' := ⟨cl_fr hf h.1 h.2.2.2.2.1, bkR_fr hf h.2.1, h.2.2⟩
theorem LED_mono {T' : Nat} (hT : T ≤ T') (h : LED N w L T m) : LED N w L T' m := ⟨h.1, bkR_mono hT h.2.1, h.2.2⟩
/-- what every ledger of the class keeps: its movements' numbers; broken is 0 or 1 -/
def nmR (L : Nat) (m : lt_m) : Prop := ∀ i, i < 20 → m.1 (L + 3 + 5 + 3 * i) 0 = nI i ∧ (m.1 (L + 3 + 5 + 3 * i) 11 = 0 ∨ m.1 (L + 3 + 5 + 3 * i) 11 = 1)
theorem nmR_fr (hf : ∀ b, L ≤ b → b < L + 68 → m'.1 b = m.1 b) (h : nmR L m) : nmR L m' := by
  intro i hi
  rw [hf (L + 3 + 5 + 3 * i) (by omega) (by omega)]
  exact h i hi
end FR
/-- the ROW: the class's, the reference's -/
def rwC (vs : List Int32) (m : lt_m) : Prop := m.1 4 1 = nI vs.length ∧ ∀ j v, vs[j]? = some v → m.1 5 j = v
/-- the shortest ways and the text of the NET, as the class keeps them: filled in where they are proved -/
def wyR (N : NT) (dist wl : Nat → Nat → Nat) (A : Nat) (m : lt_m) : Prop := (∀ a b, a < N.1 → b < N.1 → m.1 (A + 4) (12 * a + b) = nI (dist a b)) ∧ m.1 (A + 6) 1 = nI (wl 0 0) ∧ wl 0 0 ≤ 200 ∧ (∀ j, j < wl 0 0 → m.1 (A + 7) j = nI (wl 1 j)) ∧ ∃ s t, s ≤ 200 ∧ t ≤ 200 ∧ m.1 701 1 = nI s ∧ m.1 709 1 = nI t
/-- cells that RS doesn't look at -/
def scr (b k : Nat) : Bool := b == 1 || b == 4 || b == 5 || (decide (6 ≤ b) && decide (b ≤ 12)) || (b == 711 && !(k == 2 || k == 4 || k == 8 || k == 9 || k == 10 || k == 12)) || (decide (719 ≤ b))
def same (m m' : lt_m) : Prop := m'.2.2.1 = m.2.2.1 ∧ m'.2.2.2.1 = m.2.2.2.1 ∧ ∀ b k, scr b k = false → m'.1 b k = m.1 b k
theorem same_rf (m : lt_m) : same m m := ⟨rfl, rfl, fun _ _ _ => rfl⟩
theorem same_tr {a b c : lt_m} (h1 : same a b) (h2 : same b c) : same a c := ⟨h2.1.trans h1.1, h2.2.1.trans h1.2.1, fun x k h => (h2.2.2 x k h).trans (h1.2.2 x k h)⟩
theorem same_i {m : lt_m} {a j : Nat} {v : Int32} (h : scr a j = true) : same m (lm_i m a j v) := ⟨rfl, rfl, fun b k hb => lm_i_ns (by rintro ⟨rfl, rfl⟩; rw [h] at hb; cases hb)⟩
theorem same_l {m : lt_m} {a j : Nat} {v : Int64} : same m (lm_l m a j v) := ⟨rfl, rfl, fun _ _ _ => rfl⟩
theorem same_cell {m m' : lt_m} (h : same m m') {b : Nat} (hb : ∀ k, scr b k = false) : m'.1 b = m.1 b := funext fun k => h.2.2 b k (hb k)
theorem scr_mid {b k : Nat} (h : 13 ≤ b) (h2 : b < 711) : scr b k = false := by
  unfold scr
  have e1 : (b == 1) = false := by rw [beq_eq_false_iff_ne]; omega
  have e2 : (b == 4) = false := by rw [beq_eq_false_iff_ne]; omega
  have e3 : (b == 5) = false := by rw [beq_eq_false_iff_ne]; omega
  have e4 : (b == 711) = false := by rw [beq_eq_false_iff_ne]; omega
  rw [e1, e2, e3, e4]
  simp
  omega
theorem scr_hi {b k : Nat} (h : 712 ≤ b) (h2 : b < 719) : scr b k = false := by
  unfold scr
  have e1 : (b == 1) = false := by rw [beq_eq_false_iff_ne]; omega
  have e2 : (b == 4) = false := by rw [beq_eq_false_iff_ne]; omega
  have e3 : (b == 5) = false := by rw [beq_eq_false_iff_ne]; omega
  have e4 : (b == 711) = false := by rw [beq_eq_false_iff_ne]; omega
  rw [e1, e2, e3, e4]
  simp
  omega
section RS
variable {N : NT} {w : Nat → Nat} {T : Nat} {m m' : lt_m} {dist wl : NT → Nat → Nat → Nat}
theorem same_led (h : same m m') {L : Nat} (h1 : 13 ≤ L) (h2 : L + 68 ≤ 711) : ∀ b, L ≤ b → b < L + 68 → m'.1 b = m.1 b := fun b g1 g2 => same_cell h fun k => scr_mid (by omega) (by omega)
end RS
set_option maxRecDepth 10000 in
theorem sx : ts_sh 0 = (0, 11) := by decide +kernel
theorem sL : ts_sh (0 + 13) = (0, 2) := sf_of sx 5 (by decide) (by decide)
/-- one number more in the class's ROW; in the reference's -/
def radd (m : lt_m) (k : Nat) (v : Int32) : lt_m := lm_i (lm_i m 5 k v) 4 1 (nI (k + 1))
def rclr (m : lt_m) : lt_m := lm_i m 4 1 0
theorem same_radd {m : lt_m} {k : Nat} {v : Int32} : same m (radd m k v) := same_tr (same_i (by unfold scr; simp)) (same_i (by decide))
theorem same_rclr {m : lt_m} : same m (rclr m) := same_i (by decide)
theorem rwC_clr (m : lt_m) : rwC [] (rclr m) := ⟨rfl, fun j v h => by simp at h⟩
theorem rwC_add {m : lt_m} {vs : List Int32} {v : Int32} (h : rwC vs m) : rwC (vs ++ [v]) (radd m vs.length v) := by
  refine ⟨by unfold radd; rw [lm_i_eq, List.length_append]; rfl, fun j u hj => ?_⟩
  unfold radd
  rw [lm_i_ne (by decide)]
  by_cases hl : j < vs.length
  · rw [List.getElem?_append_left hl] at hj
    rw [lm_i_ns (by omega)]
    exact h.2 j u hj
  · rw [List.getElem?_append_right (by omega)] at hj
    have hz : j - vs.length < 1 := (List.getElem?_eq_some_iff.mp hj).1
    have e : j = vs.length := by omega
    subst e
    rw [Nat.sub_self] at hj
    cases hj
    exact lm_i_eq
theorem rwC_i {m : lt_m} {vs : List Int32} {a j : Nat} {v : Int32} (h : rwC vs m) (hn : a ≠ 4 ∧ a ≠ 5) : rwC vs (lm_i m a j v) := ⟨by rw [lm_i_ne (by omega)]; exact h.1, fun k u hk => by rw [lm_i_ne (by omega)]; exact h.2 k u hk⟩
theorem rwC_l {m : lt_m} {vs : List Int32} {a j : Nat} {v : Int64} (h : rwC vs m) : rwC vs (lm_l m a j v) := h
section TELL
variable {m : lt_m} {vs : List Int32} {v u : Int32}
/-- Row.add -/
theorem k68 (d : Nat) (h : rwC vs m) (hl : vs.length < 12) : lt_ev (d + 2) 68 [.inr (.inr (some (0 + 4))), .inl v] m = some (none, radd m vs.length v) := by
  have s4 : ts_sh (0 + 4) = (0, 8) := sf_of sx 1 (by decide) (by decide)
  have s5 : ts_sh (0 + 4 + 1) = (1, 12) := sf_of s4 0 (by decide) (by decide)
  have hc : m.1 (0 + 4) 1 = nI vs.length := h.1
  refine (E68 (d + 1) (0 + 4) v s4 m).trans ?_
  rw [hc, q_12]
  simp (disch := omega) only [sp_len]
  rw [if_neg (by omega), E17 d _ 12 _ _ s5 m]
  simp (disch := omega) only [q_0, sp_ltn, show Int32.ofNat 12 = nI 12 from rfl, sp_len, nI_clamp]
  rw [if_neg (by omega), if_neg (by omega), lt_gd_t ⟨Nat.zero_le _, hl⟩, lt_cV_s, lm_i_ne (by decide), hc, nI_1]
  rfl
/-- tell, of one and of two numbers -/
theorem k75 (d : Nat) : lt_ev (d + 3) 75 [.inr (.inr (some 0)), .inl v] m = some (none, radd (rclr m) 0 v) := by
  have s4 : ts_sh (0 + 4) = (0, 8) := sf_of sx 1 (by decide) (by decide)
  refine (E75 (d + 2) 0 v sx m).trans ?_
  rw [E56 (d + 1) (0 + 4) s4 m, lt_cV_s]
  have := k68 (m := rclr m) (vs := []) (v := v) d (rwC_clr m) (by decide)
  rw [show lm_i m (0 + 4) 1 0 = rclr m from rfl, this, lt_cV_s]
  rfl
theorem k74 (d : Nat) : lt_ev (d + 4) 74 [.inr (.inr (some 0)), .inl v, .inl u] m = some (none, radd (radd (rclr m) 0 v) 1 u) := by
  refine (E74 (d + 3) 0 v u sx m).trans ?_
  rw [k75 d, lt_cV_s]
  have := k68 (m := radd (rclr m) 0 v) (vs := [v]) (v := u) (d + 1) (rwC_add (vs := []) (rwC_clr m)) (by simp)
  rw [this, lt_cV_s]
  rfl
end TELL

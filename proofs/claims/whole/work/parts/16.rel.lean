/-! ===== the relation between class and reference ===== -/
theorem lm_i_ne {m : lt_m} {a b j : Nat} {v : Int32} (h : b ≠ a) : (lm_i m a j v).1 b = m.1 b := ts_up_ne h
theorem lm_l_1 {m : lt_m} {a j : Nat} {v : Int64} : (lm_l m a j v).1 = m.1 := rfl
theorem lm_i_ns {m : lt_m} {a b j k : Nat} {v : Int32} (h : ¬ (b = a ∧ k = j)) : (lm_i m a j v).1 b k = m.1 b k := if_neg h
theorem lm_i_eq {m : lt_m} {a j : Nat} {v : Int32} : (lm_i m a j v).1 a j = v := if_pos ⟨rfl, rfl⟩
section FR
variable {N : NT} {w : Nat → Nat} {L A T : Nat} {m m' : lt_m}
theorem cl_fr (hf : ∀ b, L ≤ b → b < L + 68 → m'.1 b = m.1 b) (h : cl N w L m) (hw : w 2 ≤ 20) : cl N w L m' := by
  obtain ⟨h1, h2, h3, h4, h5, h6, h7⟩ := h
  refine ⟨by rw [hf L (by omega) (by omega)]; exact h1, by rw [hf L (by omega) (by omega)]; exact h2, by rw [hf L (by omega) (by omega)]; exact h3, fun t ht => ?_, fun i hi => ?_, fun i g1 g2 => ?_, fun i hi => ?_⟩
  · rw [hf (L + 1) (by omega) (by omega), hf (L + 2) (by omega) (by omega)]; exact h4 t ht
  · have := h5 i hi
    unfold mvR at this ⊢
    rw [hf (L + 3 + 5 + 3 * i) (by omega) (by omega), hf (L + 3 + 5 + 3 * i + 1) (by omega) (by omega), hf (L + 3 + 5 + 3 * i + 2) (by omega) (by omega)]
    exact this
  · rw [hf (L + 3 + 5 + 3 * i) (by omega) (by omega)]; exact h6 i g1 g2
  · rw [hf (L + 3 + 5 + 3 * i) (by omega) (by omega)]; exact h7 i hi
/-- the class's BOOK: a ring -/
def bkR (w : Nat → Nat) (L T : Nat) (m : lt_m) : Prop := ∃ tot, tot ≤ T ∧ m.1 (L + 4) 3 = nI tot ∧ w 3 = min tot 30 ∧ ∀ j, j < w 3 → m.1 (L + 4 + 1) ((tot - 1 - j) % 30) = nI (w (536 + 3 * (w 3 - 1 - j))) ∧ m.1 (L + 4 + 2) ((tot - 1 - j) % 30) = nI (w (537 + 3 * (w 3 - 1 - j))) ∧ m.1 (L + 4 + 3) ((tot - 1 - j) % 30) = nI (w (538 + 3 * (w 3 - 1 - j)))
theorem bkR_fr (hf : ∀ b, L ≤ b → b < L + 68 → m'.1 b = m.1 b) (h : bkR w L T m) : bkR w L T m' := by
  obtain ⟨tot, h1, h2, h3, h4⟩ := h
  refine ⟨tot, h1, by rw [hf _ (by omega) (by omega)]; exact h2, h3, fun j hj => ?_⟩
  rw [hf (L + 4 + 1) (by omega) (by omega), hf (L + 4 + 2) (by omega) (by omega), hf (L + 4 + 3) (by omega) (by omega)]
  exact h4 j hj
theorem bkR_mono {T' : Nat} (hT : T ≤ T') (h : bkR w L T m) : bkR w L T' m := by
  obtain ⟨tot, h1, h2⟩ := h
  exact ⟨tot, by omega, h2⟩
theorem nR_fr (hf : ∀ b, A ≤ b → b < A + 8 → m'.1 b = m.1 b) (h : nR N A m) : nR N A m' := by
  unfold nR at h ⊢
  rw [hf A (by omega) (by omega), hf (A + 1) (by omega) (by omega), hf (A + 2) (by omega) (by omega), hf (A + 3) (by omega) (by omega), hf (A + 5) (by omega) (by omega)]
  exact h
/-- a ledger of the class, with its book -/
def LED (N : NT) (w : Nat → Nat) (L T : Nat) (m : lt_m) : Prop := cl N w L m ∧ bkR w L T m ∧ wfL N w
theorem LED_fr (hf : ∀ b, L ≤ b → b < L + 68 → m'.1 b = m.1 b) (h : LED N w L T m) : LED N w L T m' := ⟨cl_fr hf h.1 h.2.2.2.2.1, bkR_fr hf h.2.1, h.2.2⟩
theorem LED_mono {T' : Nat} (hT : T ≤ T') (h : LED N w L T m) : LED N w L T' m := ⟨h.1, bkR_mono hT h.2.1, h.2.2⟩
/-- what every ledger of the class keeps: its movements' numbers; broken is 0 or 1 -/
def nmR (L : Nat) (m : lt_m) : Prop := ∀ i, i < 20 → m.1 (L + 3 + 5 + 3 * i) 0 = nI i ∧ (m.1 (L + 3 + 5 + 3 * i) 11 = 0 ∨ m.1 (L + 3 + 5 + 3 * i) 11 = 1)
theorem nmR_fr (hf : ∀ b, L ≤ b → b < L + 68 → m'.1 b = m.1 b) (h : nmR L m) : nmR L m' := by
  intro i hi
  rw [hf (L + 3 + 5 + 3 * i) (by omega) (by omega)]
  exact h i hi
end FR
/-- the texts that are told: of tk signs tx -/
def tR (tx : Nat → Nat) (tk : Nat) (m : lt_m) : Prop := tk ≤ 200 ∧ m.1 2 1 = nI tk ∧ m.1 711 12 = nI tk ∧ ∀ j, j < tk → tx j < 256 ∧ m.1 3 j = nI (tx j) ∧ m.1 718 j &&& 255 = nI (tx j)
/-- the ROW: the class's, the reference's -/
def rwC (vs : List Int32) (m : lt_m) : Prop := m.1 4 1 = nI vs.length ∧ ∀ j v, vs[j]? = some v → m.1 5 j = v
def rwM (vs : List Int32) (m : lt_m) : Prop := m.1 711 14 = nI vs.length ∧ ∀ j v, vs[j]? = some v → m.2.1 719 j = v.toInt64
/-- the shortest ways and the text of the NET, as the class keeps them: filled in where they are proved -/
def wyR (N : NT) (dist wl : Nat → Nat → Nat) (A : Nat) (m : lt_m) : Prop := (∀ a b, a < N.1 → b < N.1 → m.1 (A + 4) (12 * a + b) = nI (dist a b)) ∧ m.1 (A + 6) 1 = nI (wl 0 0) ∧ wl 0 0 ≤ 200 ∧ (∀ j, j < wl 0 0 → m.1 (A + 7) j = nI (wl 1 j)) ∧ ∃ s t, s ≤ 200 ∧ t ≤ 200 ∧ m.1 701 1 = nI s ∧ m.1 709 1 = nI t
def netR (N : NT) (dist wl : Nat → Nat → Nat) (A B : Nat) (m : lt_m) : Prop := m.2.2.1 = A ∧ m.2.2.2.1 = B ∧ (A = 695 ∧ B = 703 ∨ A = 703 ∧ B = 695) ∧ wfN N ∧ nR N A m ∧ m.1 A 7 = m.1 711 9 ∧ wyR N dist wl A m ∧
  m.1 711 8 = nI N.1 ∧ m.1 711 10 = nI N.2.1 ∧ (∀ o, o < N.1 → m.1 715 o = nI (N.2.2.2.1 o)) ∧ (∀ g, g < N.2.1 → m.1 717 g = nI (N.2.2.2.2 g)) ∧ (∀ x y, x < N.1 → y < N.1 → m.1 716 (12 * x + y) = nI (N.2.2.1 x y)) ∧ ∀ k, k < 144 → ¬ (k / 12 < N.1 ∧ k % 12 < N.1) → m.1 716 k = 0
/-- what was before, and what is kept -/
def hiR (N : NT) (D l : Nat) (pw : Nat → Nat → Nat) (kb : Nat) (kw : Nat → Nat) (T : Nat) (m : lt_m) : Prop := D ≤ 8 ∧ l < 8 ∧ m.1 81 4 = nI D ∧ m.1 711 4 = nI D ∧ m.1 81 3 = nI l ∧ (∀ j, j < D → LED N (pw j) (151 + 68 * ((l + 8 - (D - 1 - j)) % 8)) T m ∧ ∀ k, k < 626 → m.1 714 (626 * j + k) = nI (pw j k)) ∧
  kb ≤ 1 ∧ m.1 81 2 = nI kb ∧ m.1 711 2 = nI kb ∧ (kb = 1 → LED N kw 83 T m ∧ ∀ k, k < 626 → m.1 713 k = nI (kw k)) ∧ nmR 13 m ∧ nmR 83 m ∧ ∀ j, j < 8 → nmR (151 + 68 * j) m
/-- all but the ROW -/
def RS (dist : NT → Nat → Nat → Nat) (wl : NT → Nat → Nat → Nat) (N : NT) (w : Nat → Nat) (T : Nat) (m : lt_m) : Prop := (∃ A B, netR N (dist N) (wl N) A B m) ∧ (∃ tx tk, tR tx tk m) ∧ LED N w 13 T m ∧ (∀ k, k < 626 → m.1 712 k = nI (w k)) ∧ ∃ D l pw kb kw, hiR N D l pw kb kw T m
/-- cells that RS doesn't look at -/
def scr (b k : Nat) : Bool := b == 1 || b == 4 || b == 5 || (decide (6 ≤ b) && decide (b ≤ 12)) || (b == 711 && !(k == 2 || k == 4 || k == 8 || k == 9 || k == 10 || k == 12)) || (decide (719 ≤ b))
def same (m m' : lt_m) : Prop := m'.2.2.1 = m.2.2.1 ∧ m'.2.2.2.1 = m.2.2.2.1 ∧ ∀ b k, scr b k = false → m'.1 b k = m.1 b k
theorem same_rf (m : lt_m) : same m m := ⟨rfl, rfl, fun _ _ _ => rfl⟩
theorem same_tr {a b c : lt_m} (h1 : same a b) (h2 : same b c) : same a c := ⟨h2.1.trans h1.1, h2.2.1.trans h1.2.1, fun x k h => (h2.2.2 x k h).trans (h1.2.2 x k h)⟩
theorem same_i {m : lt_m} {a j : Nat} {v : Int32} (h : scr a j = true) : same m (lm_i m a j v) := ⟨rfl, rfl, fun b k hb => lm_i_ns (by rintro ⟨rfl, rfl⟩; rw [h] at hb; cases hb)⟩
theorem same_l {m : lt_m} {a j : Nat} {v : Int64} : same m (lm_l m a j v) := ⟨rfl, rfl, fun _ _ _ => rfl⟩
theorem same_cell {m m' : lt_m} (h : same m m') {b : Nat} (hb : ∀ k, scr b k = false) : m'.1 b = m.1 b := funext fun k => h.2.2 b k (hb k)
theorem scr_mid {b k : Nat} (h : 13 ≤ b) (h2 : b < 711) : scr b k = false := by
  unfold scr
  have e1 : (b == 1) = false := by rw [beq_eq_false_iff_ne]; omega
  have e2 : (b == 4) = false := by rw [beq_eq_false_iff_ne]; omega
  have e3 : (b == 5) = false := by rw [beq_eq_false_iff_ne]; omega
  have e4 : (b == 711) = false := by rw [beq_eq_false_iff_ne]; omega
  rw [e1, e2, e3, e4]
  simp
  omega
theorem scr_hi {b k : Nat} (h : 712 ≤ b) (h2 : b < 719) : scr b k = false := by
  unfold scr
  have e1 : (b == 1) = false := by rw [beq_eq_false_iff_ne]; omega
  have e2 : (b == 4) = false := by rw [beq_eq_false_iff_ne]; omega
  have e3 : (b == 5) = false := by rw [beq_eq_false_iff_ne]; omega
  have e4 : (b == 711) = false := by rw [beq_eq_false_iff_ne]; omega
  rw [e1, e2, e3, e4]
  simp
  omega
section RS
variable {N : NT} {w : Nat → Nat} {T : Nat} {m m' : lt_m} {dist wl : NT → Nat → Nat → Nat}
theorem netR_fr {di wi : Nat → Nat → Nat} {A B : Nat} (h : same m m') (hn : netR N di wi A B m) : netR N di wi A B m' := by
  obtain ⟨h1, h2, h3, h4, h5, h6, h7, h8, h9, h10, h11, h12, h13⟩ := hn
  have hA : ∀ b, A ≤ b → b < A + 8 → m'.1 b = m.1 b := fun b g1 g2 => same_cell h fun k => scr_mid (by omega) (by omega)
  have h715 := same_cell h (b := 715) fun k => scr_hi (by omega) (by omega)
  have h716 := same_cell h (b := 716) fun k => scr_hi (by omega) (by omega)
  have h717 := same_cell h (b := 717) fun k => scr_hi (by omega) (by omega)
  refine ⟨h.1.trans h1, h.2.1.trans h2, h3, h4, nR_fr hA h5, ?_, ?_, ?_, ?_, ?_, ?_, ?_, ?_⟩
  · rw [hA A (by omega) (by omega), h.2.2 711 9 (by decide)]; exact h6
  · unfold wyR at h7 ⊢
    rw [hA (A + 4) (by omega) (by omega), hA (A + 6) (by omega) (by omega), hA (A + 7) (by omega) (by omega), show m'.1 701 = m.1 701 from same_cell h fun k => scr_mid (by omega) (by omega), show m'.1 709 = m.1 709 from same_cell h fun k => scr_mid (by omega) (by omega)]
    exact h7
  · rw [h.2.2 711 8 (by decide)]; exact h8
  · rw [h.2.2 711 10 (by decide)]; exact h9
  · rw [h715]; exact h10
  · rw [h717]; exact h11
  · rw [h716]; exact h12
  · rw [h716]; exact h13
theorem tR_fr {tx : Nat → Nat} {tk : Nat} (h : same m m') (ht : tR tx tk m) : tR tx tk m' := by
  obtain ⟨h1, h2, h3, h4⟩ := ht
  have h718 := same_cell h (b := 718) fun k => scr_hi (by omega) (by omega)
  refine ⟨h1, by rw [h.2.2 2 1 (by decide)]; exact h2, by rw [h.2.2 711 12 (by decide)]; exact h3, fun j hj => ?_⟩
  have e3 : m'.1 3 j = m.1 3 j := h.2.2 3 j (by unfold scr; simp)
  rw [e3, h718]
  exact h4 j hj
theorem same_led (h : same m m') {L : Nat} (h1 : 13 ≤ L) (h2 : L + 68 ≤ 711) : ∀ b, L ≤ b → b < L + 68 → m'.1 b = m.1 b := fun b g1 g2 => same_cell h fun k => scr_mid (by omega) (by omega)
theorem hiR_fr {D l kb : Nat} {pw : Nat → Nat → Nat} {kw : Nat → Nat} (h : same m m') (hh : hiR N D l pw kb kw T m) : hiR N D l pw kb kw T m' := by
  obtain ⟨h1, h2, h3, h4, h5, h6, h7, h8, h9, h10, h11, h12, h13⟩ := hh
  have h81 : m'.1 81 = m.1 81 := same_cell h fun k => scr_mid (by omega) (by omega)
  have h713 := same_cell h (b := 713) fun k => scr_hi (by omega) (by omega)
  have h714 := same_cell h (b := 714) fun k => scr_hi (by omega) (by omega)
  refine ⟨h1, h2, by rw [h81]; exact h3, by rw [h.2.2 711 4 (by decide)]; exact h4, by rw [h81]; exact h5, fun j hj => ?_, h7, by rw [h81]; exact h8, by rw [h.2.2 711 2 (by decide)]; exact h9, fun hk => ?_, nmR_fr (same_led h (by omega) (by omega)) h11, nmR_fr (same_led h (by omega) (by omega)) h12, fun j hj => nmR_fr (same_led h (by omega) (by omega)) (h13 j hj)⟩
  · rw [h714]
    exact ⟨LED_fr (same_led h (by omega) (by have : (l + 8 - (D - 1 - j)) % 8 < 8 := Nat.mod_lt _ (by decide); omega)) (h6 j hj).1, (h6 j hj).2⟩
  · rw [h713]
    exact ⟨LED_fr (same_led h (by omega) (by omega)) (h10 hk).1, (h10 hk).2⟩
theorem RS_fr (h : same m m') (hr : RS dist wl N w T m) : RS dist wl N w T m' := by
  obtain ⟨⟨A, B, h1⟩, ⟨tx, tk, h2⟩, h3, h4, ⟨D, l, pw, kb, kw, h5⟩⟩ := hr
  have h712 := same_cell h (b := 712) fun k => scr_hi (by omega) (by omega)
  exact ⟨⟨A, B, netR_fr h h1⟩, ⟨tx, tk, tR_fr h h2⟩, LED_fr (same_led h (by omega) (by omega)) h3, by rw [h712]; exact h4, ⟨D, l, pw, kb, kw, hiR_fr h h5⟩⟩
theorem RS.wfN (hr : RS dist wl N w T m) : wfN N := by obtain ⟨⟨A, B, h1⟩, -⟩ := hr; exact h1.2.2.2.1
theorem RS.wfL (hr : RS dist wl N w T m) : wfL N w := hr.2.2.1.2.2
theorem RS.cl (hr : RS dist wl N w T m) : cl N w (0 + 13) m := hr.2.2.1.1
theorem RS.nR (hr : RS dist wl N w T m) : nR N m.2.2.1 m := by obtain ⟨⟨A, B, h1⟩, -⟩ := hr; rw [h1.1]; exact h1.2.2.2.2.1
set_option maxRecDepth 10000 in
theorem RS.sA (hr : RS dist wl N w T m) : ts_sh m.2.2.1 = (0, 5) := by
  obtain ⟨⟨A, B, h1⟩, -⟩ := hr
  rw [h1.1]
  rcases h1.2.2.1 with ⟨rfl, -⟩ | ⟨rfl, -⟩ <;> decide +kernel
theorem RS.ml (hr : RS dist wl N w T m) : ml N w 711 m := by
  obtain ⟨⟨A, B, h1⟩, -, -, h4, -⟩ := hr
  obtain ⟨-, -, -, -, -, -, -, h8, h9, h10, h11, h12, -⟩ := h1
  exact ⟨h4, h8, h9, h10, h11, h12⟩
end RS
set_option maxRecDepth 10000 in
theorem sx : ts_sh 0 = (0, 11) := by decide +kernel
set_option maxRecDepth 10000 in
theorem sy : ts_sh 711 = (0, 12) := by decide +kernel
theorem sL : ts_sh (0 + 13) = (0, 2) := sf_of sx 5 (by decide) (by decide)
/-- the two, with the ROW -/
def RR (dist wl : NT → Nat → Nat → Nat) (T : Nat) (m : lt_m) : Prop := ∃ N w vs, RS dist wl N w T m ∧ vs.length ≤ 12 ∧ rwC vs m ∧ rwM vs m
/-- one number more in the class's ROW; in the reference's -/
def radd (m : lt_m) (k : Nat) (v : Int32) : lt_m := lm_i (lm_i m 5 k v) 4 1 (nI (k + 1))
def rclr (m : lt_m) : lt_m := lm_i m 4 1 0
def rtel (m : lt_m) (k : Nat) (v : Int64) : lt_m := lm_i (lm_l m 719 k v) 711 14 (nI (k + 1))
def rzer (m : lt_m) : lt_m := lm_i m 711 14 0
def thr0 (m : lt_m) : lt_m := lm_i m 711 15 0
theorem same_radd {m : lt_m} {k : Nat} {v : Int32} : same m (radd m k v) := same_tr (same_i (by unfold scr; simp)) (same_i (by decide))
theorem same_rclr {m : lt_m} : same m (rclr m) := same_i (by decide)
theorem same_rtel {m : lt_m} {k : Nat} {v : Int64} : same m (rtel m k v) := same_tr same_l (same_i (by decide))
theorem same_rzer {m : lt_m} : same m (rzer m) := same_i (by decide)
theorem same_thr0 {m : lt_m} : same m (thr0 m) := same_i (by decide)
theorem rwC_clr (m : lt_m) : rwC [] (rclr m) := ⟨rfl, fun j v h => by simp at h⟩
theorem rwM_zer (m : lt_m) : rwM [] (rzer m) := ⟨rfl, fun j v h => by simp at h⟩
theorem rwC_add {m : lt_m} {vs : List Int32} {v : Int32} (h : rwC vs m) : rwC (vs ++ [v]) (radd m vs.length v) := by
  refine ⟨by unfold radd; rw [lm_i_eq, List.length_append]; rfl, fun j u hj => ?_⟩
  unfold radd
  rw [lm_i_ne (by decide)]
  by_cases hl : j < vs.length
  · rw [List.getElem?_append_left hl] at hj
    rw [lm_i_ns (by omega)]
    exact h.2 j u hj
  · rw [List.getElem?_append_right (by omega)] at hj
    have hz : j - vs.length < 1 := (List.getElem?_eq_some_iff.mp hj).1
    have e : j = vs.length := by omega
    subst e
    rw [Nat.sub_self] at hj
    cases hj
    exact lm_i_eq
theorem rwM_tel {m : lt_m} {vs : List Int32} {v : Int32} (h : rwM vs m) : rwM (vs ++ [v]) (rtel m vs.length v.toInt64) := by
  refine ⟨by unfold rtel; rw [lm_i_eq, List.length_append]; rfl, fun j u hj => ?_⟩
  show (lm_l m 719 vs.length v.toInt64).2.1 719 j = _
  by_cases hl : j < vs.length
  · rw [List.getElem?_append_left hl] at hj
    rw [← h.2 j u hj]
    exact if_neg (by omega)
  · rw [List.getElem?_append_right (by omega)] at hj
    have hz : j - vs.length < 1 := (List.getElem?_eq_some_iff.mp hj).1
    have e : j = vs.length := by omega
    subst e
    rw [Nat.sub_self] at hj
    cases hj
    exact if_pos ⟨rfl, rfl⟩
/-- what the class writes elsewhere doesn't touch the reference's ROW, and so on -/
theorem rwM_i {m : lt_m} {vs : List Int32} {a j : Nat} {v : Int32} (h : rwM vs m) (hn : ¬ (711 = a ∧ 14 = j)) : rwM vs (lm_i m a j v) := ⟨by rw [lm_i_ns hn]; exact h.1, h.2⟩
theorem rwC_i {m : lt_m} {vs : List Int32} {a j : Nat} {v : Int32} (h : rwC vs m) (hn : a ≠ 4 ∧ a ≠ 5) : rwC vs (lm_i m a j v) := ⟨by rw [lm_i_ne (by omega)]; exact h.1, fun k u hk => by rw [lm_i_ne (by omega)]; exact h.2 k u hk⟩
theorem rwC_l {m : lt_m} {vs : List Int32} {a j : Nat} {v : Int64} (h : rwC vs m) : rwC vs (lm_l m a j v) := h
theorem rwC_tel {m : lt_m} {vs : List Int32} {k : Nat} {v : Int64} (h : rwC vs m) : rwC vs (rtel m k v) := rwC_i (rwC_l h) (by decide)
theorem rwC_zer {m : lt_m} {vs : List Int32} (h : rwC vs m) : rwC vs (rzer m) := rwC_i h (by decide)
theorem rwC_thr {m : lt_m} {vs : List Int32} (h : rwC vs m) : rwC vs (thr0 m) := rwC_i h (by decide)
theorem rwM_thr {m : lt_m} {vs : List Int32} (h : rwM vs m) : rwM vs (thr0 m) := rwM_i h (by decide)
section TELL
variable {m : lt_m} {vs : List Int32} {v u : Int32}
/-- Row.add -/
theorem k68 (d : Nat) (h : rwC vs m) (hl : vs.length < 12) : lt_ev (d + 2) 68 [.inr (.inr (some (0 + 4))), .inl v] m = some (none, radd m vs.length v) := by
  have s4 : ts_sh (0 + 4) = (0, 8) := sf_of sx 1 (by decide) (by decide)
  have s5 : ts_sh (0 + 4 + 1) = (1, 12) := sf_of s4 0 (by decide) (by decide)
  have hc : m.1 (0 + 4) 1 = nI vs.length := h.1
  refine (E68 (d + 1) (0 + 4) v s4 m).trans ?_
  rw [hc, q_12]
  simp (disch := omega) only [sp_len]
  rw [if_neg (by omega), E17 d _ 12 _ _ s5 m]
  simp (disch := omega) only [q_0, sp_ltn, show Int32.ofNat 12 = nI 12 from rfl, sp_len, nI_clamp]
  rw [if_neg (by omega), if_neg (by omega), lt_gd_t ⟨Nat.zero_le _, hl⟩, lt_cV_s, lm_i_ne (by decide), hc, nI_1]
  rfl
/-- tell, of one and of two numbers -/
theorem k75 (d : Nat) : lt_ev (d + 3) 75 [.inr (.inr (some 0)), .inl v] m = some (none, radd (rclr m) 0 v) := by
  have s4 : ts_sh (0 + 4) = (0, 8) := sf_of sx 1 (by decide) (by decide)
  refine (E75 (d + 2) 0 v sx m).trans ?_
  rw [E56 (d + 1) (0 + 4) s4 m, lt_cV_s]
  have := k68 (m := rclr m) (vs := []) (v := v) d (rwC_clr m) (by decide)
  rw [show lm_i m (0 + 4) 1 0 = rclr m from rfl, this, lt_cV_s]
  rfl
theorem k74 (d : Nat) : lt_ev (d + 4) 74 [.inr (.inr (some 0)), .inl v, .inl u] m = some (none, radd (radd (rclr m) 0 v) 1 u) := by
  refine (E74 (d + 3) 0 v u sx m).trans ?_
  rw [k75 d, lt_cV_s]
  have := k68 (m := radd (rclr m) 0 v) (vs := [v]) (v := u) (d + 1) (rwC_add (vs := []) (rwC_clr m)) (by simp)
  rw [this, lt_cV_s]
  rfl
theorem m202 (d : Nat) {k : Nat} {x : Int64} (h : m.1 711 14 = nI k) (hk : k < 32) : lt_ev (d + 1) 202 [.inr (.inr (some 711)), .inr (.inl x)] m = some (none, rtel m k x) := by
  refine (E202 d 711 x sy m).trans ?_
  have e : (lm_l m (711 + 8) ((m.1 711 14)).toNatClampNeg x).1 711 14 = m.1 711 14 := rfl
  rw [e, h, lt_gd_t (sp_gd hk (by omega)), nI_clamp (by omega), nI_1]
  rfl
end TELL

/-! ===== the law's acts: what holds at its stops ===== -/
noncomputable def kP (P : Nat → List (Option ts_V) → List ts_V → lt_m → Prop) : lk_K := fun pc ls st m => @ite (Option lt_r) (P pc ls st m) (Classical.propDecidable _) (some (none, m)) none
theorem kP_y {P : Nat → List (Option ts_V) → List ts_V → lt_m → Prop} {pc : Nat} {ls : List (Option ts_V)} {st : List ts_V} {m : lt_m} (h : P pc ls st m) : kP P pc ls st m = some (none, m) := if_pos h
theorem kP_p {P : Nat → List (Option ts_V) → List ts_V → lt_m → Prop} {pc : Nat} {ls : List (Option ts_V)} {st : List ts_V} {m m0 : lt_m} (h : kP P pc ls st m = some (none, m0)) : P pc ls st m := by
  refine Classical.byContradiction fun q => ?_
  unfold kP at h
  rw [if_neg q] at h
  cases h
def rch (r : Option lt_r) : Prop := ∃ m0, r = some (none, m0)
/-- what every ledger of the law keeps: NET, number of traders, acts so far -/
def lwI (N0 : NT) (tr k : Nat) (S : ST) : Prop := S.N = N0 ∧ S.w 1 = tr ∧ lwJ S.w ∧ S.w 0 ≤ 64 * k ∧ S.tk = 0
/-- what stands behind an act's own checks: b, if it was a deed -/
def pst (N0 : NT) (tr k past hour moves book : Nat) (b : Int32) (m : lt_m) : Prop := ∃ S vs, cP (100 * (k + 1)) S vs m ∧ lwI N0 tr (k + 1) S ∧ (b = 0 ∧ S.D = past ∧ S.w 3 = book ∨ b = 1 ∧ S.D = min 8 (past + 1) ∧ S.pw (S.D - 1) 0 = hour ∧ S.pw (S.D - 1) 2 = moves)
section ACT
variable {T : Nat} {S : ST} {vs : List Int32} {m : lt_m}
theorem cP_mono {T' : Nat} (hT : T ≤ T') (h : cP T S vs m) : cP T' S vs m := ⟨CS_mono hT h.1, h.2⟩
theorem cP.D8 (h : cP T S vs m) : S.D ≤ 8 := h.1.2.2.2.1.1
theorem n0 (h : cP T S vs m) : lt_ev 13 173 [.inr (.inr (some 0)), .inl (0 : Int32)] m = some (some (.inl (nI (S.w 0))), m) := (q_count 1 h).1
theorem n5 (h : cP T S vs m) : lt_ev 13 173 [.inr (.inr (some 0)), .inl (5 : Int32)] m = some (some (.inl (nI (S.w 2))), m) := (q_count 1 h).2.2.2.1
theorem n6 (h : cP T S vs m) : lt_ev 13 173 [.inr (.inr (some 0)), .inl (6 : Int32)] m = some (some (.inl (nI S.D)), m) := (q_count 1 h).2.2.2.2.1
theorem n10 (h : cP T S vs m) : lt_ev 13 173 [.inr (.inr (some 0)), .inl (10 : Int32)] m = some (some (.inl (nI (w_broken S.w))), m) := (q_count 1 h).2.2.2.2.2
theorem n7 (hT : T < 2 ^ 30) (h : cP T S vs m) : lt_ev 13 173 [.inr (.inr (some 0)), .inl (7 : Int32)] m = some (some (.inl (nI (S.w 3))), m) := q_cnt7 1 hT h
theorem rem_D {w' : Nat → Nat} : (S.rem.setw w').D = min (S.D + 1) 8 := rfl
theorem rem_pw {w' : Nat → Nat} (h8 : S.D ≤ 8) : (S.rem.setw w').pw ((S.rem.setw w').D - 1) = S.w := by
  show (if S.D = 8 then (if min (S.D + 1) 8 - 1 < 7 then S.pw (min (S.D + 1) 8 - 1 + 1) else S.w) else if min (S.D + 1) 8 - 1 < S.D then S.pw (min (S.D + 1) 8 - 1) else S.w) = S.w
  by_cases c : S.D = 8
  · rw [if_pos c, if_neg (by omega)]
  · rw [if_neg c, if_neg (by omega)]
/-- behind a deed -/
theorem pst_1 {N0 : NT} {tr k past hour moves book : Nat} {w' : Nat → Nat} (h : cP T (S.rem.setw w') vs m) (hT : T ≤ 100 * (k + 1)) (h8 : S.D ≤ 8) (hN : S.N = N0) (ht : S.tk = 0) (h1 : w' 1 = tr) (hJ : lwJ w') (h0 : w' 0 ≤ 64 * (k + 1)) (hp : S.D = past) (hh : S.w 0 = hour) (hm : S.w 2 = moves) : pst N0 tr k past hour moves book 1 m :=
  ⟨S.rem.setw w', vs, cP_mono hT h, ⟨hN, h1, hJ, h0, ht⟩, Or.inr ⟨rfl, by rw [rem_D, hp, Nat.min_comm], by rw [rem_pw h8]; exact hh, by rw [rem_pw h8]; exact hm⟩⟩
/-- behind no deed -/
theorem pst_0 {N0 : NT} {tr k past hour moves book : Nat} (h : cP T S vs m) (hT : T ≤ 100 * (k + 1)) (hI : lwI N0 tr k S) (hp : S.D = past) (hb : S.w 3 = book) : pst N0 tr k past hour moves book 0 m :=
  ⟨S, vs, cP_mono hT h, ⟨hI.1, hI.2.1, hI.2.2.1, by have := hI.2.2.2; omega⟩, Or.inl ⟨rfl, hp, hb⟩⟩
end ACT
/-- the locals at the head of the acts: script, object, first cell, traders, .., act -/
def w253 (q0 : Option ts_V) (x2 x3 x5 : Int32) (ls : List (Option ts_V)) : Prop := ∃ o4 o6 o7 o8 o9 o10 o11 o12 o13 o14 o15 o16 o17 o18 o19 o20 o21 o22 o23 o24 o25 o26 o27 : Option ts_V, ls = [q0, some (.inr (.inr (some 0))), some (.inl x2), some (.inl x3), o4, some (.inl x5), o6, o7, o8, o9, o10, o11, o12, o13, o14, o15, o16, o17, o18, o19, o20, o21, o22, o23, o24, o25, o26, o27]
/-- behind an act: the cell, movements, deeds, hour, book before it; was it a deed -/
def w1301 (q0 : Option ts_V) (x2 x3 x5 x6 x7 x8 x9 x10 x14 : Int32) (ls : List (Option ts_V)) : Prop := ∃ o4 o11 o12 o13 o15 o16 o17 o18 o19 o20 o21 o22 o23 o24 o25 o26 o27 : Option ts_V, ls = [q0, some (.inr (.inr (some 0))), some (.inl x2), some (.inl x3), o4, some (.inl x5), some (.inl x6), some (.inl x7), some (.inl x8), some (.inl x9), some (.inl x10), o11, o12, o13, some (.inl x14), o15, o16, o17, o18, o19, o20, o21, o22, o23, o24, o25, o26, o27]
theorem lmin8 {a : Nat} (ha : a < 2 ^ 30) : lm_min (8 : Int32) (nI a + (1 : Int32)) = nI (min 8 (a + 1)) := by
  rw [q_8, nI_1, sp_min (by decide) (by omega)]
theorem seg_P {K : lk_K} {q0 : Option ts_V} {x2 x5 x6 : Int32} {N0 : NT} {tr k past hour moves book : Nat} (hk : k < 26) (htr : 0 < tr) (hg : 0 < N0.2.1) (hpast : past ≤ 8) {x14 : Int32} {m : lt_m} (hp : pst N0 tr k past hour moves book x14 m)
    (fin : ∀ (ls : List (Option ts_V)) (m : lt_m), w253 q0 x2 (nI tr) (x5 + (1 : Int32)) ls → (∃ S vs, cP (100 * (k + 1)) S vs m ∧ lwI N0 tr (k + 1) S) → rch (K 253 ls [] m)) (o4 : Option ts_V) (o11 : Option ts_V) (o12 : Option ts_V) (o13 : Option ts_V) (o15 : Option ts_V) (o16 : Option ts_V) (o17 : Option ts_V) (o18 : Option ts_V) (o19 : Option ts_V) (o20 : Option ts_V) (o21 : Option ts_V) (o22 : Option ts_V) (o23 : Option ts_V) (o24 : Option ts_V) (o25 : Option ts_V) (o26 : Option ts_V) (o27 : Option ts_V) :
    rch (lt_rk SP K 13 YW 1301 [q0, some (.inr (.inr (some 0))), some (.inl x2), some (.inl (nI tr)), o4, some (.inl x5), some (.inl x6), some (.inl (nI moves)), some (.inl (nI past)), some (.inl (nI hour)), some (.inl (nI book)), o11, o12, o13, some (.inl x14), o15, o16, o17, o18, o19, o20, o21, o22, o23, o24, o25, o26, o27] [] m) := by
  obtain ⟨S, vs, h, hI, hc⟩ := hp
  have hD8 := h.D8
  have hgS : 0 < S.N.2.1 := by rw [hI.1]; exact hg
  have ht1 : S.w 1 = tr := hI.2.1
  obtain ⟨vs1, m1, e1, h1⟩ := holds_ok 0 h hgS hI.2.2.1
  have e1' : lt_ev 13 177 [.inr (.inr (some 0)), .inl (nI tr)] m = some (some (.inl 1), m1) := by rw [← ht1]; exact e1
  rw [EP, e1', lt_cI_s, if_neg (by decide), n6 h1, lt_cI_s]
  rcases hc with ⟨rfl, d1, d2⟩ | ⟨rfl, d1, d2, d3⟩
  · rw [if_pos rfl, EP_1334, d1, if_neg (fun q => q rfl), if_neg (fun q => q rfl), n7 (by omega) h1, lt_cI_s, d2, if_pos rfl, EP_1355, if_pos rfl]
    exact fin _ _ ⟨_, _, _, _, _, _, _, _, _, _, _, _, _, _, _, _, _, _, _, _, _, _, _, rfl⟩ ⟨S, vs1, h1, hI⟩
  · rw [if_neg (by decide), EP_1334, d1, lmin8 (by omega), if_neg (fun q => q rfl), if_pos (by decide), EP_1355, if_neg (by decide)]
    split
    · exact fin _ _ ⟨_, _, _, _, _, _, _, _, _, _, _, _, _, _, _, _, _, _, _, _, _, _, _, rfl⟩ ⟨S, vs1, h1, hI⟩
    · obtain ⟨m2, e2, h2⟩ := q_inUse 1 h1 (t := 0) (by omega)
      have e2' : lt_ev 13 93 [.inr (.inr (some 0)), .inl (0 : Int32)] m1 = some (some (.inl (nI (w_used S.w 0))), m2) := e2
      obtain ⟨m3, e3, h3⟩ := q_keeps 1 h2
      have e3' : lt_ev 13 169 [.inr (.inr (some 0))] m2 = some (some (.inl (nI (S.w 0))), m3) := e3
      obtain ⟨m4, e4, h4⟩ := q_undo 1 h3 (show ¬ S.D = 0 by omega)
      have e4' : lt_ev 13 167 [.inr (.inr (some 0))] m3 = some (some (.inl (nI (S.D - 1))), m4) := e4
      have h40 : lt_ev 13 173 [.inr (.inr (some 0)), .inl (0 : Int32)] m4 = some (some (.inl (nI (S.pw (S.D - 1) 0))), m4) := n0 h4
      have h45 : lt_ev 13 173 [.inr (.inr (some 0)), .inl (5 : Int32)] m4 = some (some (.inl (nI (S.pw (S.D - 1) 2))), m4) := n5 h4
      obtain ⟨m5, e5, h5⟩ := q_back 1 h4 rfl
      have e5' : lt_ev 13 171 [.inr (.inr (some 0))] m4 = some (some (.inl (nI (S.w 0))), m5) := e5
      obtain ⟨m6, e6, h6⟩ := q_inUse 1 h5 (t := 0) (show 0 < S.w 1 by omega)
      have e6' : lt_ev 13 93 [.inr (.inr (some 0)), .inl (0 : Int32)] m5 = some (some (.inl (nI (w_used S.w 0))), m6) := e6
      obtain ⟨vs7, m7, e7, h7⟩ := holds_ok 0 h6 hgS hI.2.2.1
      have e7' : lt_ev 13 177 [.inr (.inr (some 0)), .inl (nI tr)] m6 = some (some (.inl 1), m7) := by rw [← ht1]; exact e7
      have hsub : nI (min 8 (past + 1)) - (1 : Int32) = nI (S.D - 1) := by rw [d1, q_1, pk_sub (by omega)]
      rw [n0 h1, lt_cI_s, e2', lt_cI_s, e3', lt_cI_s, if_neg (fun q => q rfl), e4', lt_cI_s, lmin8 (by omega), hsub, if_neg (fun q => q rfl), h40, lt_cI_s, d2, if_neg (fun q => q rfl), h45, lt_cI_s, d3, if_neg (fun q => q rfl), e5', lt_cI_s, if_neg (fun q => q rfl), e6', lt_cI_s, if_neg (fun q => q rfl), e7', lt_cI_s, if_pos (by decide)]
      exact fin _ _ ⟨_, _, _, _, _, _, _, _, _, _, _, _, _, _, _, _, _, _, _, _, _, _, _, rfl⟩ ⟨_, vs7, h7, hI⟩

/-! ===== from an act's cell on ===== -/
/-- the locals at the head of an act that starts -/
def w477 (q0 : Option ts_V) (x2 : Int32) (tr : Nat) (x5 x6 x7 x8 x9 x10 : Int32) (from_ len step td n : Nat) (ls : List (Option ts_V)) : Prop := ∃ (x11 x13 : Int32) (o4 o20 o21 o22 o23 o24 o25 o26 o27 : Option ts_V), ls = [q0, some (.inr (.inr (some 0))), some (.inl x2), some (.inl (nI tr)), o4, some (.inl x5), some (.inl (x6)), some (.inl (x7)), some (.inl (x8)), some (.inl (x9)), some (.inl (x10)), some (.inl (x11)), some (.inl (nI n)), some (.inl (x13)), some (.inl (1)), some (.inl (nI from_)), some (.inl (nI len)), some (.inl (nI step)), some (.inl (nI td)), some (.inl (nI (1 + 3 * n))), o20, o21, o22, o23, o24, o25, o26, o27]
section ACT
variable {K : lk_K} {q0 : Option ts_V} {x2 x3 x5 x6 : Int32} {N0 : NT} {tr k : Nat} {S : ST} {vs : List Int32} {m : lt_m} {i : Nat}
def goes477 (K : lk_K) (q0 : Option ts_V) (x2 x5 x6 : Int32) (tr k : Nat) (S : ST) : Prop := ∀ (ls : List (Option ts_V)) (m : lt_m) (vs : List Int32) (from_ len step td n : Nat), from_ < 6 → 2 ≤ len → len ≤ 5 → (step = 1 ∨ step = 5) → td < tr → n < 64 → w477 q0 x2 tr x5 x6 (nI (S.w 2)) (nI S.D) (nI (S.w 0)) (nI (S.w 3)) from_ len step td n ls → cP (100 * k) S vs m → rch (K 477 ls [] m)
theorem a_G1 (hI : lwI N0 tr k S) (fin : goes1301 K q0 x2 (nI tr) x5 x6 N0 tr k S) (fin2 : goes477 K q0 x2 x5 x6 tr k S) (hk : k < 26) (htr : 0 < tr) (htr4 : tr ≤ 4) (h : cP (100 * k) S vs m) (hi : i < S.w 2 ∨ S.w 2 = 0 ∧ i = 0) (o4 : Option ts_V) (o11 : Option ts_V) (o12 : Option ts_V) (o13 : Option ts_V) (o14 : Option ts_V) (o15 : Option ts_V) (o16 : Option ts_V) (o17 : Option ts_V) (o18 : Option ts_V) (o19 : Option ts_V) (o20 : Option ts_V) (o21 : Option ts_V) (o22 : Option ts_V) (o23 : Option ts_V) (o24 : Option ts_V) (o25 : Option ts_V) (o26 : Option ts_V) (o27 : Option ts_V) :
    rch (LG_319 K 13 q0 x2 (nI tr) o4 x5 x6 (nI (S.w 2)) (nI S.D) (nI (S.w 0)) (nI (S.w 3)) o11 o12 o13 o14 o15 o16 o17 o18 o19 o20 o21 o22 o23 o24 o25 o26 o27 (nI i) m) := by
  have hw := h.wfL
  have h20 := hw.2.2.1
  obtain ⟨s, hs, e3⟩ : ∃ s : Int32, (i < S.w 2 → s = nI (w_st S.w i)) ∧ lt_ev 13 129 [.inr (.inr (some 0)), .inl (nI i), .inl (3 : Int32)] m = some (some (.inl s), m) := by
    rcases hi with hi | ⟨hz, rfl⟩
    · exact ⟨_, fun _ => rfl, q_mv 1 h hi (k := 3) (by omega) (by omega)⟩
    · exact ⟨-1, fun q => by omega, q_mv0 1 h hz _⟩
  obtain ⟨n, hn, e9⟩ := pk_andE (((x6).toUInt32 >>> (((9 : Int32)).toUInt32 &&& Int32.toUInt32 31)).toInt32) (m := (63 : Int32)) 6 (by decide)
  obtain ⟨j, hj, ej⟩ := pk_andE x6 (m := (15 : Int32)) 4 (by decide)
  obtain ⟨a, ha, ea⟩ := pk_andE (((x6).toUInt32 >>> (((15 : Int32)).toUInt32 &&& Int32.toUInt32 31)).toInt32) (m := (7 : Int32)) 3 (by decide)
  obtain ⟨b, hb, eb⟩ := pk_andE (((x6).toUInt32 >>> (((18 : Int32)).toUInt32 &&& Int32.toUInt32 31)).toInt32) (m := (3 : Int32)) 2 (by decide)
  obtain ⟨c, hc, ec⟩ := pk_andE (((x6).toUInt32 >>> (((21 : Int32)).toUInt32 &&& Int32.toUInt32 31)).toInt32) (m := (3 : Int32)) 2 (by decide)
  have ea6 : nI a - nI a / (6 : Int32) * (6 : Int32) = nI (a % 6) := by rw [q_6]; exact pk_rem (by omega) (by decide) (by decide)
  have eb2 : (2 : Int32) + nI b = nI (2 + b) := by rw [q_2, nI_add]
  have ec3 : nI c - nI c / nI tr * nI tr = nI (c % tr) := pk_rem (by omega) htr (by omega)
  have en3 : (1 : Int32) + (3 : Int32) * nI n = nI (1 + 3 * n) := by rw [q_1, q_3, pk_mul, nI_add]
  rw [EG_319, e3, lt_cI_s, e9, ej, ea, eb, ea6, eb2]
  have hst : ∀ (step : Nat) (o4 o17 o18 o19 o20 o21 o22 o23 o24 o25 o26 o27 : Option ts_V), (step = 1 ∨ step = 5) → rch (LG_456 K 13 q0 x2 (nI tr) o4 x5 x6 (nI (S.w 2)) (nI S.D) (nI (S.w 0)) (nI (S.w 3)) (nI i) (nI n) s (nI (a % 6)) (nI (2 + b)) o17 o18 o19 o20 o21 o22 o23 o24 o25 o26 o27 (nI step) m) := by
    intro step o4 o17 o18 o19 o20 o21 o22 o23 o24 o25 o26 o27 hs
    rw [EG_456, ec, ec3, en3, lt_gd_t (by rw [sp_eq0 (by omega)]; omega)]
    exact fin2 _ _ vs (a % 6) (2 + b) step (c % tr) n (Nat.mod_lt _ (by decide)) (by omega) (by omega) hs (Nat.mod_lt _ htr) (by omega) ⟨_, _, _, _, _, _, _, _, _, _, _, rfl⟩ h
  have hpick : j = 0 ∨ j = 1 ∨ j = 2 ∨ j = 3 ∨ j = 4 ∨ j = 5 ∨ j = 6 ∨ j = 7 ∨ j = 8 ∨ j = 9 ∨ j = 10 ∨ j = 11 ∨ j = 12 ∨ 13 ≤ j := by omega
  rcases hpick with rfl | rfl | rfl | rfl | rfl | rfl | rfl | rfl | rfl | rfl | rfl | rfl | rfl | hj'
  iterate 4
    · rw [lt_sw_n (by simp) (by simp)]
      show rch (if _ then _ else _)
      split
      · exact hst 5 _ _ _ _ _ _ _ _ _ _ _ _  (Or.inr rfl)
      · exact hst 1 _ _ _ _ _ _ _ _ _ _ _ _  (Or.inl rfl)
  iterate 5
    · rw [lt_sw_n (by simp) (by simp)]
      exact a_stamps hI fin hk h hi _ _ _ _ _ _ _ _ _ _ _ _ _ _ _ 
  · rw [lt_sw_n (by simp) (by simp)]
    exact a_breaks hI fin hk h hi hs _ _ _ _ _ _ _ _ _ _ _ _ 
  iterate 2
    · rw [lt_sw_n (by simp) (by simp)]
      exact a_controls hI fin hk h hi hs _ _ _ _ _ _ _ _ _ _ _ _ _ 
  · rw [lt_sw_n (by simp) (by simp)]
    exact a_proofs hI fin hk h hi hs _ _ _ _ _ _ _ _ _ _ _ _ _ _ _ 
  · rw [lt_sw_o (n := 13) rfl (by decide) (Or.inr (by rw [Int32.le_iff_toInt_le, nI_toInt (by omega), nI_toInt (by omega)]; omega))]
    exact a_hours hI fin hk h (by omega) rfl _ _ _ _ _ _ _ _ _ _ _ 
theorem a_G (hI : lwI N0 tr k S) (hk : k < 26) (htr : 0 < tr) (htr4 : tr ≤ 4) (h : cP (100 * k) S vs m) (y1 : Int32) (o4 o6 o7 o8 o9 o10 o11 o12 o13 o14 o15 o16 o17 o18 o19 o20 o21 o22 o23 o24 o25 o26 o27 : Option ts_V) (fin : goes1301 K q0 x2 (nI tr) x5 y1 N0 tr k S) (fin2 : goes477 K q0 x2 x5 y1 tr k S) :
    rch (lt_rk SG K 13 YW 268 [q0, some (.inr (.inr (some 0))), some (.inl x2), some (.inl (nI tr)), o4, some (.inl x5), o6, o7, o8, o9, o10, o11, o12, o13, o14, o15, o16, o17, o18, o19, o20, o21, o22, o23, o24, o25, o26, o27] [.inl y1] m) := by
  have hw := h.wfL
  have h20 := hw.2.2.1
  obtain ⟨a, ha, ea⟩ := pk_andE (((y1).toUInt32 >>> (((4 : Int32)).toUInt32 &&& Int32.toUInt32 31)).toInt32) (m := (31 : Int32)) 5 (by decide)
  rw [EG, n5 h, lt_cI_s, n6 h, lt_cI_s, n0 h, lt_cI_s, n7 (by omega) h, lt_cI_s, ea]
  by_cases c : S.w 2 = 0
  · rw [if_neg (by rw [c]; decide)]
    exact a_G1 (i := 0) hI fin fin2 hk htr htr4 h (Or.inr ⟨c, rfl⟩) _ _ _ _ _ _ _ _ _ _ _ _ _ _ _ _ _ _ 
  · have hc : ¬ nI (S.w 2) = 0 := by rw [sp_eq0 (by omega)]; exact c
    rw [if_pos hc, lt_gd_t hc, pk_rem (by omega) (by omega) (by omega)]
    exact a_G1 hI fin fin2 hk htr htr4 h (Or.inl (Nat.mod_lt _ (by omega))) _ _ _ _ _ _ _ _ _ _ _ _ _ _ _ _ _ _ 
end ACT

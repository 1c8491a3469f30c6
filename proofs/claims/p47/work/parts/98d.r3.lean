/-! ===== NET, traders, the acts' loop: between the texts ===== -/
/-- while the traders come -/
def lwT (N0 : NT) (t : Nat) (S : ST) : Prop := S.N = N0 ∧ S.w 0 = 0 ∧ S.w 1 = t ∧ S.w 2 = 0 ∧ S.tk = 0
theorem lwT_I {N0 : NT} {t : Nat} {S : ST} (h : lwT N0 t S) : lwI N0 t 0 S := ⟨h.1, h.2.2.1, fun i hi => by have := h.2.2.2.1; omega, by have := h.2.1; omega, h.2.2.2.2⟩
section ACT
variable {K : lk_K} {q0 : Option ts_V} {x2 x3 x5 x6 : Int32} {N0 : NT} {tr k t : Nat} {S : ST} {vs : List Int32} {m : lt_m}
theorem seg_A {tx : Nat → Nat} {tk : Nat} (h : cP 0 (told S tx tk) vs m) {H : Nat → Nat → Nat} {c dd : Nat → Nat} (hx : ntP tx tk = .inr ((6, 2, H, c, dd), 7)) (o5 : Option ts_V) (o4 o6 o7 o8 o9 o10 o11 o12 o13 o14 o15 o16 o17 o18 o19 o20 o21 o22 o23 o24 o25 o26 o27 : Option ts_V)
    (fin : ∀ (S : ST) (vs : List Int32) (ls : List (Option ts_V)) (m : lt_m), lwT (6, 2, H, c, dd) 0 S → cP 0 S vs m → w253 q0 x2 x3 (0 : Int32) ls → rch (K 198 ls [] m)) :
    rch (lt_rk SA K 13 YW 165 [q0, some (.inr (.inr (some 0))), some (.inl x2), some (.inl x3), o4, o5, o6, o7, o8, o9, o10, o11, o12, o13, o14, o15, o16, o17, o18, o19, o20, o21, o22, o23, o24, o25, o26, o27] [] m) := by
  obtain ⟨m', e, h'⟩ := q_net 1 h hx
  have e' : lt_ev 13 29 [.inr (.inr (some 0))] m = some (some (.inl (6 : Int32)), m') := e
  have c2 : lt_ev 13 173 [.inr (.inr (some 0)), .inl (2 : Int32)] m' = some (some (.inl (7 : Int32)), m') := (q_count 1 h').2.1
  have c3 : lt_ev 13 173 [.inr (.inr (some 0)), .inl (3 : Int32)] m' = some (some (.inl (2 : Int32)), m') := (q_count 1 h').2.2.1
  rw [EA, e', lt_cI_s, if_neg (fun q => q rfl), c2, lt_cI_s, if_neg (fun q => q rfl), c3, lt_cI_s, if_pos rfl]
  exact fin _ _ _ _ ⟨rfl, rfl, rfl, rfl, rfl⟩ h' ⟨_, _, _, _, _, _, _, _, _, _, _, _, _, _, _, _, _, _, _, _, _, _, _, rfl⟩
theorem seg_B (htr : tr ≤ 4) (ht : t ≤ tr) (o4 o6 o7 o8 o9 o10 o11 o12 o13 o14 o15 o16 o17 o18 o19 o20 o21 o22 o23 o24 o25 o26 o27 : Option ts_V) (f1 : t = tr → ∀ ls, w253 q0 x2 (nI tr) (0 : Int32) ls → rch (K 253 ls [] m)) (f2 : t < tr → rch (K 208 [q0, some (.inr (.inr (some 0))), some (.inl x2), some (.inl (nI tr)), o4, some (.inl (nI t)), o6, o7, o8, o9, o10, o11, o12, o13, o14, o15, o16, o17, o18, o19, o20, o21, o22, o23, o24, o25, o26, o27] [.inl (2000 : Int32), .inr (.inr (some 0))] m)) :
    rch (lt_rk SB K 13 YW 198 [q0, some (.inr (.inr (some 0))), some (.inl x2), some (.inl (nI tr)), o4, some (.inl (nI t)), o6, o7, o8, o9, o10, o11, o12, o13, o14, o15, o16, o17, o18, o19, o20, o21, o22, o23, o24, o25, o26, o27] [] m) := by
  rw [EB]
  by_cases c : t = tr
  · rw [if_pos ((nI_leI (by omega) (by omega)).mpr (by omega))]
    exact f1 c _ ⟨_, _, _, _, _, _, _, _, _, _, _, _, _, _, _, _, _, _, _, _, _, _, _, rfl⟩
  · rw [if_neg (fun q => by have := (nI_leI (by omega) (by omega)).mp q; omega)]
    exact f2 (by omega)
theorem seg_C {y1 : Int32} (o4 o6 o7 o8 o9 o10 o11 o12 o13 o14 o15 o16 o17 o18 o19 o20 o21 o22 o23 o24 o25 o26 o27 : Option ts_V) (fin : ∀ s : Nat, s ≤ 999999 → rch (K 221 [q0, some (.inr (.inr (some 0))), some (.inl x2), some (.inl x3), o4, some (.inl x5), o6, o7, o8, o9, o10, o11, o12, o13, o14, o15, o16, o17, o18, o19, o20, o21, o22, o23, o24, o25, o26, o27] [.inl (nI s), .inr (.inr (some 0))] m)) :
    rch (lt_rk SC K 13 YW 216 [q0, some (.inr (.inr (some 0))), some (.inl x2), some (.inl x3), o4, some (.inl x5), o6, o7, o8, o9, o10, o11, o12, o13, o14, o15, o16, o17, o18, o19, o20, o21, o22, o23, o24, o25, o26, o27] [.inl y1, .inl (2000 : Int32), .inr (.inr (some 0))] m) := by
  obtain ⟨a, ha, ea⟩ := pk_andE y1 (m := (8191 : Int32)) 13 (by decide)
  rw [EC, ea, show (2000 : Int32) = nI 2000 from rfl, nI_add]
  exact fin _ (by omega)
theorem seg_D (hI : lwT N0 t S) (h : cP 0 S vs m) (ht : t < 4) {y1 : Int32} {s : Nat} (hs : s ≤ 999999) (o4 o6 o7 o8 o9 o10 o11 o12 o13 o14 o15 o16 o17 o18 o19 o20 o21 o22 o23 o24 o25 o26 o27 : Option ts_V)
    (fin : ∀ (S : ST) (vs : List Int32) (ls : List (Option ts_V)) (m : lt_m), lwT N0 (t + 1) S → cP 0 S vs m → w253 q0 x2 x3 (nI (t + 1)) ls → rch (K 198 ls [] m)) :
    rch (lt_rk SD K 13 YW 229 [q0, some (.inr (.inr (some 0))), some (.inl x2), some (.inl x3), o4, some (.inl (nI t)), o6, o7, o8, o9, o10, o11, o12, o13, o14, o15, o16, o17, o18, o19, o20, o21, o22, o23, o24, o25, o26, o27] [.inl y1, .inl (nI s), .inr (.inr (some 0))] m) := by
  obtain ⟨a, ha, ea⟩ := pk_andE (((y1).toUInt32 >>> (((13 : Int32)).toUInt32 &&& Int32.toUInt32 31)).toInt32) (m := (3 : Int32)) 2 (by decide)
  have h1 := hI.2.2.1
  obtain ⟨m', e, h'⟩ := q_trader 1 h hs (l := a) (by omega) (by omega)
  have e' : lt_ev 13 78 [.inr (.inr (some 0)), .inl (nI s), .inl (nI a)] m = some (some (.inl (nI t)), m') := by rw [← h1]; exact e
  have e1 : nI t + (1 : Int32) = nI (t + 1) := by rw [nI_1]
  rw [ED, ea, e', lt_cI_s, if_pos rfl, e1]
  refine fin (S.rem.setw (trW S.w s a)) _ _ _ ⟨hI.1, ?_, ?_, ?_, hI.2.2.2.2⟩ h' ⟨_, _, _, _, _, _, _, _, _, _, _, _, _, _, _, _, _, _, _, _, _, _, _, rfl⟩
  · show trW S.w s a 0 = 0
    unfold trW
    rw [wset_ne (by omega), wset_ne (by omega), wset_ne (by omega)]
    exact hI.2.1
  · show trW S.w s a 1 = t + 1
    unfold trW
    rw [wset_eq, h1]
  · show trW S.w s a 2 = 0
    unfold trW
    rw [wset_ne (by omega), wset_ne (by omega), wset_ne (by omega)]
    exact hI.2.2.2.1
theorem seg_F (hk : k ≤ 26) (o4 o6 o7 o8 o9 o10 o11 o12 o13 o14 o15 o16 o17 o18 o19 o20 o21 o22 o23 o24 o25 o26 o27 : Option ts_V) (f1 : k = 26 → ∀ ls, w253 q0 x2 x3 (nI k) ls → rch (K 1467 ls [] m)) (f2 : k < 26 → rch (K 260 [q0, some (.inr (.inr (some 0))), some (.inl x2), some (.inl x3), o4, some (.inl (nI k)), o6, o7, o8, o9, o10, o11, o12, o13, o14, o15, o16, o17, o18, o19, o20, o21, o22, o23, o24, o25, o26, o27] [] m)) :
    rch (lt_rk SF K 13 YW 253 [q0, some (.inr (.inr (some 0))), some (.inl x2), some (.inl x3), o4, some (.inl (nI k)), o6, o7, o8, o9, o10, o11, o12, o13, o14, o15, o16, o17, o18, o19, o20, o21, o22, o23, o24, o25, o26, o27] [] m) := by
  rw [EF, show (26 : Int32) = nI 26 from rfl]
  by_cases c : k = 26
  · rw [if_pos ((nI_leI (a := 26) (by omega) (by omega)).mpr (by omega))]
    exact f1 c _ ⟨_, _, _, _, _, _, _, _, _, _, _, _, _, _, _, _, _, _, _, _, _, _, _, rfl⟩
  · rw [if_neg (fun q => by have := (nI_leI (a := 26) (by omega) (by omega)).mp q; omega)]
    exact f2 (by omega)
end ACT

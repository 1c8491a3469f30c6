/-! ===== what the loop-free methods that write nothing answer ===== -/
set_option maxRecDepth 100000 in
theorem ts_shn_all : (List.range 711).all (fun a => decide ((ts_sh a).2 ≤ 5008)) = true := by decide +kernel
theorem ts_sh_n {a t n : Nat} (h : ts_sh a = (t, n)) : n ≤ 5008 := by
  by_cases ht : t = 9
  · subst ht
    rcases Nat.lt_or_ge a 711 with q | q
    · have := List.all_eq_true.mp ts_shn_all a (List.mem_range.mpr q)
      rw [h] at this
      simpa using this
    · unfold ts_sh at h
      rw [List.getD_eq_getElem?_getD, List.getElem?_eq_none (by rw [ts_len_all]; exact q)] at h
      have h : ((9, 0) : Nat × Nat) = (9, n) := h
      cases h
      decide
  · have := List.all_eq_true.mp ts_shn_all a (List.mem_range.mpr (ts_sh_lt h ht))
    rw [h] at this
    simpa using this
theorem sp_nlt {x : Int32} (h : ¬ x < 0) : 0 ≤ x := Int32.not_lt.mp h
theorem sp_clt {x : Int32} {n : Nat} (hn : n ≤ 5008) (h0 : ¬ x < 0) (h : ¬ Int32.ofNat n ≤ x) : x.toNatClampNeg < n := by
  have h1 : (nI n).toInt = (n : Int) := nI_toInt (by omega)
  have h : ¬ nI n ≤ x := h
  rw [Int32.le_iff_toInt_le, h1] at h
  rw [Int32.lt_iff_toInt_lt, Int32.toInt_zero] at h0
  show x.toInt.toNat < n
  omega
/-! TransitSeals$Net.hasOffice(I)Z -/
def v14 (m : lt_m) (a0 : Nat) (x1 : Int32) : Int32 := (if x1 < 0 then (0 : Int32) else (if (m.1 a0 6) ≤ x1 then (0 : Int32) else (1 : Int32)))
theorem p14 (d : Nat) (a0 : Nat) (x1 : Int32) (h0 : ts_sh a0 = (0, 5)) (m : lt_m) : lt_ev (d + 1) 14 [.inr (.inr (some a0)), .inl x1] m = some (some (.inl (v14 m a0 x1)), m) := by
  refine (E14 (d + 0) a0 x1 h0 m).trans ?_
  unfold v14
  by_cases c1 : x1 < 0
  · rw [if_pos c1, if_pos c1]
    all_goals rfl
  · rw [if_neg c1, if_neg c1]
    by_cases c2 : (m.1 a0 6) ≤ x1
    · rw [if_pos c2, if_pos c2]
      all_goals rfl
    · rw [if_neg c2, if_neg c2]
      all_goals rfl
/-! TransitSeals$Net.pair(II)I -/
def v15 (m : lt_m) (x0 : Int32) (x1 : Int32) : Int32 := ((x0 * (12 : Int32)) + x1)
theorem p15 (d : Nat) (x0 : Int32) (x1 : Int32)  (m : lt_m) : lt_ev (d + 1) 15 [.inl x0, .inl x1] m = some (some (.inl (v15 m x0 x1)), m) := by
  refine (E15 (d + 0) x0 x1 m).trans ?_
  unfold v15
  all_goals rfl
/-! TransitSeals.numberIn([II)I -/
def v16 (m : lt_m) (a0 : Nat) (n0 : Nat) (x1 : Int32) : Int32 := (if x1 < 0 then (0 : Int32) else (if (Int32.ofNat n0) ≤ x1 then (0 : Int32) else (m.1 a0 (x1).toNatClampNeg)))
theorem p16 (d : Nat) (a0 : Nat) (n0 : Nat) (x1 : Int32) (h0 : ts_sh a0 = (1, n0)) (m : lt_m) : lt_ev (d + 1) 16 [.inr (.inr (some a0)), .inl x1] m = some (some (.inl (v16 m a0 n0 x1)), m) := by
  refine (E16 (d + 0) a0 n0 x1 h0 m).trans ?_
  unfold v16
  by_cases c1 : x1 < 0
  · rw [if_pos c1, if_pos c1]
    all_goals rfl
  · rw [if_neg c1, if_neg c1]
    by_cases c2 : (Int32.ofNat n0) ≤ x1
    · rw [if_pos c2, if_pos c2]
      all_goals rfl
    · rw [if_neg c2, if_neg c2]
      rw [lt_gd_t (by first | exact ⟨sp_nlt c1, sp_clt (by first | decide | exact ts_sh_n h0) c1 c2⟩ | exact ⟨sp_nlt c2, sp_clt (by first | decide | exact ts_sh_n h0) c2 c1⟩)]
      all_goals rfl
/-! TransitSeals$Net.wayHours(II)I -/
def v18 (m : lt_m) (a0 : Nat) (x1 : Int32) (x2 : Int32) : Int32 := (if (v14 m a0 x1) = 0 then (1000000 : Int32) else (if (v14 m a0 x2) = 0 then (1000000 : Int32) else (v16 m (a0 + 4) 144 (v15 m x1 x2))))
theorem p18 (d : Nat) (a0 : Nat) (x1 : Int32) (x2 : Int32) (h0 : ts_sh a0 = (0, 5)) (m : lt_m) : lt_ev (d + 2) 18 [.inr (.inr (some a0)), .inl x1, .inl x2] m = some (some (.inl (v18 m a0 x1 x2)), m) := by
  refine (E18 (d + 1) a0 x1 x2 h0 m).trans ?_
  unfold v18
  rw [p14 (d + 0) a0 x1 h0 m, lt_cI_s]
  by_cases c1 : (v14 m a0 x1) = 0
  · rw [if_pos c1, if_pos c1]
    all_goals rfl
  · rw [if_neg c1, if_neg c1]
    rw [p14 (d + 0) a0 x2 h0 m, lt_cI_s]
    by_cases c2 : (v14 m a0 x2) = 0
    · rw [if_pos c2, if_pos c2]
      all_goals rfl
    · rw [if_neg c2, if_neg c2]
      rw [p15 (d + 0) x1 x2 m, lt_cI_s]
      rw [p16 (d + 0) (a0 + 4) 144 (v15 m x1 x2) (sf_of h0 3 (by decide) (by decide)) m, lt_cI_s]
      all_goals rfl
/-! TransitSeals$Net.countryOf(I)I -/
def v21 (m : lt_m) (a0 : Nat) (x1 : Int32) : Int32 := (v16 m (a0 + 1) 12 x1)
theorem p21 (d : Nat) (a0 : Nat) (x1 : Int32) (h0 : ts_sh a0 = (0, 5)) (m : lt_m) : lt_ev (d + 2) 21 [.inr (.inr (some a0)), .inl x1] m = some (some (.inl (v21 m a0 x1)), m) := by
  refine (E21 (d + 1) a0 x1 h0 m).trans ?_
  unfold v21
  rw [p16 (d + 0) (a0 + 1) 12 x1 (sf_of h0 0 (by decide) (by decide)) m, lt_cI_s]
  all_goals rfl
/-! TransitSeals$Net.dutyOf(I)I -/
def v25 (m : lt_m) (a0 : Nat) (x1 : Int32) : Int32 := (v16 m (a0 + 2) 6 x1)
theorem p25 (d : Nat) (a0 : Nat) (x1 : Int32) (h0 : ts_sh a0 = (0, 5)) (m : lt_m) : lt_ev (d + 2) 25 [.inr (.inr (some a0)), .inl x1] m = some (some (.inl (v25 m a0 x1)), m) := by
  refine (E25 (d + 1) a0 x1 h0 m).trans ?_
  unfold v25
  rw [p16 (d + 0) (a0 + 2) 6 x1 (sf_of h0 1 (by decide) (by decide)) m, lt_cI_s]
  all_goals rfl
/-! TransitSeals$Text.size()I -/
def v27 (m : lt_m) (a0 : Nat) : Int32 := (m.1 a0 1)
theorem p27 (d : Nat) (a0 : Nat) (h0 : ts_sh a0 = (0, 10)) (m : lt_m) : lt_ev (d + 1) 27 [.inr (.inr (some a0))] m = some (some (.inl (v27 m a0)), m) := by
  refine (E27 (d + 0) a0 h0 m).trans ?_
  unfold v27
  all_goals rfl
/-! TransitSeals$Text.signAt(I)I -/
def v36 (m : lt_m) (a0 : Nat) (x1 : Int32) : Int32 := (if x1 < 0 then (-1 : Int32) else (if (m.1 a0 1) ≤ x1 then (-1 : Int32) else (if (200 : Int32) ≤ x1 then (-1 : Int32) else (m.1 (a0 + 1) (x1).toNatClampNeg))))
theorem p36 (d : Nat) (a0 : Nat) (x1 : Int32) (h0 : ts_sh a0 = (0, 10)) (m : lt_m) : lt_ev (d + 1) 36 [.inr (.inr (some a0)), .inl x1] m = some (some (.inl (v36 m a0 x1)), m) := by
  refine (E36 (d + 0) a0 x1 h0 m).trans ?_
  unfold v36
  by_cases c1 : x1 < 0
  · rw [if_pos c1, if_pos c1]
    all_goals rfl
  · rw [if_neg c1, if_neg c1]
    by_cases c2 : (m.1 a0 1) ≤ x1
    · rw [if_pos c2, if_pos c2]
      all_goals rfl
    · rw [if_neg c2, if_neg c2]
      by_cases c3 : (200 : Int32) ≤ x1
      · rw [if_pos c3, if_pos c3]
        all_goals rfl
      · rw [if_neg c3, if_neg c3]
        rw [lt_gd_t (by first | exact ⟨sp_nlt c1, sp_clt (by first | decide | exact ts_sh_n h0) c1 c2⟩ | exact ⟨sp_nlt c1, sp_clt (by first | decide | exact ts_sh_n h0) c1 c3⟩ | exact ⟨sp_nlt c2, sp_clt (by first | decide | exact ts_sh_n h0) c2 c1⟩ | exact ⟨sp_nlt c2, sp_clt (by first | decide | exact ts_sh_n h0) c2 c3⟩ | exact ⟨sp_nlt c3, sp_clt (by first | decide | exact ts_sh_n h0) c3 c1⟩ | exact ⟨sp_nlt c3, sp_clt (by first | decide | exact ts_sh_n h0) c3 c2⟩)]
        all_goals rfl
/-! TransitSeals$Reader.failed()Z -/
def v38 (m : lt_m) (a0 : Nat) : Int32 := (if (m.1 a0 2) = (-1 : Int32) then (0 : Int32) else (1 : Int32))
theorem p38 (d : Nat) (a0 : Nat) (h0 : ts_sh a0 = (0, 6)) (m : lt_m) : lt_ev (d + 1) 38 [.inr (.inr (some a0))] m = some (some (.inl (v38 m a0)), m) := by
  refine (E38 (d + 0) a0 h0 m).trans ?_
  unfold v38
  by_cases c1 : (m.1 a0 2) = (-1 : Int32)
  · rw [if_pos c1, if_pos c1]
    all_goals rfl
  · rw [if_neg c1, if_neg c1]
    all_goals rfl
/-! TransitSeals.digitsOf(I)I -/
def v40 (m : lt_m) (x0 : Int32) : Int32 := (if (10 : Int32) ≤ x0 then (if (100 : Int32) ≤ x0 then (3 : Int32) else (2 : Int32)) else (1 : Int32))
theorem p40 (d : Nat) (x0 : Int32)  (m : lt_m) : lt_ev (d + 1) 40 [.inl x0] m = some (some (.inl (v40 m x0)), m) := by
  refine (E40 (d + 0) x0 m).trans ?_
  unfold v40
  by_cases c1 : (10 : Int32) ≤ x0
  · rw [if_pos c1, if_pos c1]
    by_cases c2 : (100 : Int32) ≤ x0
    · rw [if_pos c2, if_pos c2]
      all_goals rfl
    · rw [if_neg c2, if_neg c2]
      all_goals rfl
  · rw [if_neg c1, if_neg c1]
    all_goals rfl
/-! TransitSeals$Reader.atEnd()Z -/
def v45 (m : lt_m) (a0 : Nat) : Int32 := (if (m.1 a0 1) < (v27 m (a0 + 1)) then (0 : Int32) else (1 : Int32))
theorem p45 (d : Nat) (a0 : Nat) (h0 : ts_sh a0 = (0, 6)) (m : lt_m) : lt_ev (d + 2) 45 [.inr (.inr (some a0))] m = some (some (.inl (v45 m a0)), m) := by
  refine (E45 (d + 1) a0 h0 m).trans ?_
  unfold v45
  rw [p27 (d + 0) (a0 + 1) (sf_of h0 0 (by decide) (by decide)) m, lt_cI_s]
  by_cases c1 : (m.1 a0 1) < (v27 m (a0 + 1))
  · rw [if_pos c1, if_pos c1]
    all_goals rfl
  · rw [if_neg c1, if_neg c1]
    all_goals rfl
/-! TransitSeals$Reader.sees(C)Z -/
def v46 (m : lt_m) (a0 : Nat) (x1 : Int32) : Int32 := (if ¬ (v36 m (a0 + 1) (m.1 a0 1)) = x1 then (0 : Int32) else (1 : Int32))
theorem p46 (d : Nat) (a0 : Nat) (x1 : Int32) (h0 : ts_sh a0 = (0, 6)) (m : lt_m) : lt_ev (d + 2) 46 [.inr (.inr (some a0)), .inl x1] m = some (some (.inl (v46 m a0 x1)), m) := by
  refine (E46 (d + 1) a0 x1 h0 m).trans ?_
  unfold v46
  rw [p36 (d + 0) (a0 + 1) (m.1 a0 1) (sf_of h0 0 (by decide) (by decide)) m, lt_cI_s]
  by_cases c1 : ¬ (v36 m (a0 + 1) (m.1 a0 1)) = x1
  · rw [if_pos c1, if_pos c1]
    all_goals rfl
  · rw [if_neg c1, if_neg c1]
    all_goals rfl
/-! TransitSeals$Net.near(I)I -/
def v49 (m : lt_m) (a0 : Nat) (x1 : Int32) : Int32 := (v16 m (a0 + 5) 12 x1)
theorem p49 (d : Nat) (a0 : Nat) (x1 : Int32) (h0 : ts_sh a0 = (0, 5)) (m : lt_m) : lt_ev (d + 2) 49 [.inr (.inr (some a0)), .inl x1] m = some (some (.inl (v49 m a0 x1)), m) := by
  refine (E49 (d + 1) a0 x1 h0 m).trans ?_
  unfold v49
  rw [p16 (d + 0) (a0 + 5) 12 x1 (sf_of h0 4 (by decide) (by decide)) m, lt_cI_s]
  all_goals rfl
/-! TransitSeals$Reader.refusal()I -/
def v52 (m : lt_m) (a0 : Nat) : Int32 := ((-21 : Int32) - (m.1 a0 2))
theorem p52 (d : Nat) (a0 : Nat) (h0 : ts_sh a0 = (0, 6)) (m : lt_m) : lt_ev (d + 1) 52 [.inr (.inr (some a0))] m = some (some (.inl (v52 m a0)), m) := by
  refine (E52 (d + 0) a0 h0 m).trans ?_
  unfold v52
  all_goals rfl
/-! java/lang/Integer.bitCount(I)I -/
def v60 (m : lt_m) (x0 : Int32) : Int32 := ((((((((x0 - ((((x0).toUInt32 >>> (((1 : Int32)).toUInt32 &&& Int32.toUInt32 31)).toInt32) &&& (1431655765 : Int32))) &&& (858993459 : Int32)) + (((((x0 - ((((x0).toUInt32 >>> (((1 : Int32)).toUInt32 &&& Int32.toUInt32 31)).toInt32) &&& (1431655765 : Int32)))).toUInt32 >>> (((2 : Int32)).toUInt32 &&& Int32.toUInt32 31)).toInt32) &&& (858993459 : Int32))) + ((((((x0 - ((((x0).toUInt32 >>> (((1 : Int32)).toUInt32 &&& Int32.toUInt32 31)).toInt32) &&& (1431655765 : Int32))) &&& (858993459 : Int32)) + (((((x0 - ((((x0).toUInt32 >>> (((1 : Int32)).toUInt32 &&& Int32.toUInt32 31)).toInt32) &&& (1431655765 : Int32)))).toUInt32 >>> (((2 : Int32)).toUInt32 &&& Int32.toUInt32 31)).toInt32) &&& (858993459 : Int32)))).toUInt32 >>> (((4 : Int32)).toUInt32 &&& Int32.toUInt32 31)).toInt32)) &&& (252645135 : Int32)) + ((((((((x0 - ((((x0).toUInt32 >>> (((1 : Int32)).toUInt32 &&& Int32.toUInt32 31)).toInt32) &&& (1431655765 : Int32))) &&& (858993459 : Int32)) + (((((x0 - ((((x0).toUInt32 >>> (((1 : Int32)).toUInt32 &&& Int32.toUInt32 31)).toInt32) &&& (1431655765 : Int32)))).toUInt32 >>> (((2 : Int32)).toUInt32 &&& Int32.toUInt32 31)).toInt32) &&& (858993459 : Int32))) + ((((((x0 - ((((x0).toUInt32 >>> (((1 : Int32)).toUInt32 &&& Int32.toUInt32 31)).toInt32) &&& (1431655765 : Int32))) &&& (858993459 : Int32)) + (((((x0 - ((((x0).toUInt32 >>> (((1 : Int32)).toUInt32 &&& Int32.toUInt32 31)).toInt32) &&& (1431655765 : Int32)))).toUInt32 >>> (((2 : Int32)).toUInt32 &&& Int32.toUInt32 31)).toInt32) &&& (858993459 : Int32)))).toUInt32 >>> (((4 : Int32)).toUInt32 &&& Int32.toUInt32 31)).toInt32)) &&& (252645135 : Int32))).toUInt32 >>> (((8 : Int32)).toUInt32 &&& Int32.toUInt32 31)).toInt32)) + (((((((((x0 - ((((x0).toUInt32 >>> (((1 : Int32)).toUInt32 &&& Int32.toUInt32 31)).toInt32) &&& (1431655765 : Int32))) &&& (858993459 : Int32)) + (((((x0 - ((((x0).toUInt32 >>> (((1 : Int32)).toUInt32 &&& Int32.toUInt32 31)).toInt32) &&& (1431655765 : Int32)))).toUInt32 >>> (((2 : Int32)).toUInt32 &&& Int32.toUInt32 31)).toInt32) &&& (858993459 : Int32))) + ((((((x0 - ((((x0).toUInt32 >>> (((1 : Int32)).toUInt32 &&& Int32.toUInt32 31)).toInt32) &&& (1431655765 : Int32))) &&& (858993459 : Int32)) + (((((x0 - ((((x0).toUInt32 >>> (((1 : Int32)).toUInt32 &&& Int32.toUInt32 31)).toInt32) &&& (1431655765 : Int32)))).toUInt32 >>> (((2 : Int32)).toUInt32 &&& Int32.toUInt32 31)).toInt32) &&& (858993459 : Int32)))).toUInt32 >>> (((4 : Int32)).toUInt32 &&& Int32.toUInt32 31)).toInt32)) &&& (252645135 : Int32)) + ((((((((x0 - ((((x0).toUInt32 >>> (((1 : Int32)).toUInt32 &&& Int32.toUInt32 31)).toInt32) &&& (1431655765 : Int32))) &&& (858993459 : Int32)) + (((((x0 - ((((x0).toUInt32 >>> (((1 : Int32)).toUInt32 &&& Int32.toUInt32 31)).toInt32) &&& (1431655765 : Int32)))).toUInt32 >>> (((2 : Int32)).toUInt32 &&& Int32.toUInt32 31)).toInt32) &&& (858993459 : Int32))) + ((((((x0 - ((((x0).toUInt32 >>> (((1 : Int32)).toUInt32 &&& Int32.toUInt32 31)).toInt32) &&& (1431655765 : Int32))) &&& (858993459 : Int32)) + (((((x0 - ((((x0).toUInt32 >>> (((1 : Int32)).toUInt32 &&& Int32.toUInt32 31)).toInt32) &&& (1431655765 : Int32)))).toUInt32 >>> (((2 : Int32)).toUInt32 &&& Int32.toUInt32 31)).toInt32) &&& (858993459 : Int32)))).toUInt32 >>> (((4 : Int32)).toUInt32 &&& Int32.toUInt32 31)).toInt32)) &&& (252645135 : Int32))).toUInt32 >>> (((8 : Int32)).toUInt32 &&& Int32.toUInt32 31)).toInt32))).toUInt32 >>> (((16 : Int32)).toUInt32 &&& Int32.toUInt32 31)).toInt32)) &&& (63 : Int32))
theorem p60 (d : Nat) (x0 : Int32)  (m : lt_m) : lt_ev (d + 1) 60 [.inl x0] m = some (some (.inl (v60 m x0)), m) := by
  refine (E60 (d + 0) x0 m).trans ?_
  unfold v60
  all_goals rfl
/-! TransitSeals$Movement.isUnderway()Z -/
def v62 (m : lt_m) (a0 : Nat) : Int32 := (if (m.1 a0 7) = 0 then (1 : Int32) else (if ¬ (m.1 a0 7) = (3 : Int32) then (0 : Int32) else (1 : Int32)))
theorem p62 (d : Nat) (a0 : Nat) (h0 : ts_sh a0 = (0, 4)) (m : lt_m) : lt_ev (d + 1) 62 [.inr (.inr (some a0))] m = some (some (.inl (v62 m a0)), m) := by
  refine (E62 (d + 0) a0 h0 m).trans ?_
  unfold v62
  by_cases c1 : (m.1 a0 7) = 0
  · rw [if_pos c1, if_pos c1]
    all_goals rfl
  · rw [if_neg c1, if_neg c1]
    by_cases c2 : ¬ (m.1 a0 7) = (3 : Int32)
    · rw [if_pos c2, if_pos c2]
      all_goals rfl
    · rw [if_neg c2, if_neg c2]
      all_goals rfl
/-! TransitSeals$Movement.officeAt(I)I -/
def v64 (m : lt_m) (a0 : Nat) (x1 : Int32) : Int32 := (if x1 < 0 then (-1 : Int32) else (if (m.1 a0 8) ≤ x1 then (-1 : Int32) else (v16 m (a0 + 1) 8 x1)))
theorem p64 (d : Nat) (a0 : Nat) (x1 : Int32) (h0 : ts_sh a0 = (0, 4)) (m : lt_m) : lt_ev (d + 2) 64 [.inr (.inr (some a0)), .inl x1] m = some (some (.inl (v64 m a0 x1)), m) := by
  refine (E64 (d + 1) a0 x1 h0 m).trans ?_
  unfold v64
  by_cases c1 : x1 < 0
  · rw [if_pos c1, if_pos c1]
    all_goals rfl
  · rw [if_neg c1, if_neg c1]
    by_cases c2 : (m.1 a0 8) ≤ x1
    · rw [if_pos c2, if_pos c2]
      all_goals rfl
    · rw [if_neg c2, if_neg c2]
      rw [p16 (d + 0) (a0 + 1) 8 x1 (sf_of h0 12 (by decide) (by decide)) m, lt_cI_s]
      all_goals rfl
/-! TransitSeals$Movement.bit()I -/
def v65 (m : lt_m) (a0 : Nat) : Int32 := ((1 : Int32) <<< ((m.1 a0 0) &&& 31))
theorem p65 (d : Nat) (a0 : Nat) (h0 : ts_sh a0 = (0, 4)) (m : lt_m) : lt_ev (d + 1) 65 [.inr (.inr (some a0))] m = some (some (.inl (v65 m a0)), m) := by
  refine (E65 (d + 0) a0 h0 m).trans ?_
  unfold v65
  all_goals rfl
/-! TransitSeals.isSum(I)Z -/
def v79 (m : lt_m) (x0 : Int32) : Int32 := (if x0 < 0 then (0 : Int32) else (if (999999 : Int32) < x0 then (0 : Int32) else (1 : Int32)))
theorem p79 (d : Nat) (x0 : Int32)  (m : lt_m) : lt_ev (d + 1) 79 [.inl x0] m = some (some (.inl (v79 m x0)), m) := by
  refine (E79 (d + 0) x0 m).trans ?_
  unfold v79
  by_cases c1 : x0 < 0
  · rw [if_pos c1, if_pos c1]
    all_goals rfl
  · rw [if_neg c1, if_neg c1]
    by_cases c2 : (999999 : Int32) < x0
    · rw [if_pos c2, if_pos c2]
      all_goals rfl
    · rw [if_neg c2, if_neg c2]
      all_goals rfl
/-! TransitSeals.isLevel(I)Z -/
def v80 (m : lt_m) (x0 : Int32) : Int32 := (if x0 < 0 then (0 : Int32) else (if (3 : Int32) < x0 then (0 : Int32) else (1 : Int32)))
theorem p80 (d : Nat) (x0 : Int32)  (m : lt_m) : lt_ev (d + 1) 80 [.inl x0] m = some (some (.inl (v80 m x0)), m) := by
  refine (E80 (d + 0) x0 m).trans ?_
  unfold v80
  by_cases c1 : x0 < 0
  · rw [if_pos c1, if_pos c1]
    all_goals rfl
  · rw [if_neg c1, if_neg c1]
    by_cases c2 : (3 : Int32) < x0
    · rw [if_pos c2, if_pos c2]
      all_goals rfl
    · rw [if_neg c2, if_neg c2]
      all_goals rfl
/-! TransitSeals$History.latestBefore()LTransitSeals$Ledger; -/
def v82 (m : lt_m) (a0 : Nat) : Option Nat := (if (m.1 a0 3) < 0 then none else (if (8 : Int32) ≤ (m.1 a0 3) then none else (some ((a0 + 1) + 69 + 68 * ((m.1 a0 3)).toNatClampNeg))))
theorem p82 (d : Nat) (a0 : Nat) (h0 : ts_sh a0 = (0, 1)) (m : lt_m) : lt_ev (d + 1) 82 [.inr (.inr (some a0))] m = some (some (.inr (.inr (v82 m a0))), m) := by
  refine (E82 (d + 0) a0 h0 m).trans ?_
  unfold v82
  by_cases c1 : (m.1 a0 3) < 0
  · rw [if_pos c1, if_pos c1]
    all_goals rfl
  · rw [if_neg c1, if_neg c1]
    by_cases c2 : (8 : Int32) ≤ (m.1 a0 3)
    · rw [if_pos c2, if_pos c2]
      all_goals rfl
    · rw [if_neg c2, if_neg c2]
      rw [lt_gd_t (by first | exact ⟨sp_nlt c1, sp_clt (by first | decide | exact ts_sh_n h0) c1 c2⟩ | exact ⟨sp_nlt c2, sp_clt (by first | decide | exact ts_sh_n h0) c2 c1⟩)]
      all_goals rfl
/-! TransitSeals$Ledger.hasTrader(I)Z -/
def v90 (m : lt_m) (a0 : Nat) (x1 : Int32) : Int32 := (if x1 < 0 then (0 : Int32) else (if (m.1 a0 5) ≤ x1 then (0 : Int32) else (1 : Int32)))
theorem p90 (d : Nat) (a0 : Nat) (x1 : Int32) (h0 : ts_sh a0 = (0, 2)) (m : lt_m) : lt_ev (d + 1) 90 [.inr (.inr (some a0)), .inl x1] m = some (some (.inl (v90 m a0 x1)), m) := by
  refine (E90 (d + 0) a0 x1 h0 m).trans ?_
  unfold v90
  by_cases c1 : x1 < 0
  · rw [if_pos c1, if_pos c1]
    all_goals rfl
  · rw [if_neg c1, if_neg c1]
    by_cases c2 : (m.1 a0 5) ≤ x1
    · rw [if_pos c2, if_pos c2]
      all_goals rfl
    · rw [if_neg c2, if_neg c2]
      all_goals rfl
/-! TransitSeals$Movement.isOpenFor(I)Z -/
def v92 (m : lt_m) (a0 : Nat) (x1 : Int32) : Int32 := (if ¬ (m.1 a0 1) = x1 then (0 : Int32) else (if (m.1 a0 7) = (-1 : Int32) then (0 : Int32) else (if (m.1 a0 7) = (2 : Int32) then (0 : Int32) else (if (m.1 a0 7) = (5 : Int32) then (0 : Int32) else (1 : Int32)))))
theorem p92 (d : Nat) (a0 : Nat) (x1 : Int32) (h0 : ts_sh a0 = (0, 4)) (m : lt_m) : lt_ev (d + 1) 92 [.inr (.inr (some a0)), .inl x1] m = some (some (.inl (v92 m a0 x1)), m) := by
  refine (E92 (d + 0) a0 x1 h0 m).trans ?_
  unfold v92
  by_cases c1 : ¬ (m.1 a0 1) = x1
  · rw [if_pos c1, if_pos c1]
    all_goals rfl
  · rw [if_neg c1, if_neg c1]
    by_cases c2 : (m.1 a0 7) = (-1 : Int32)
    · rw [if_pos c2, if_pos c2]
      all_goals rfl
    · rw [if_neg c2, if_neg c2]
      by_cases c3 : (m.1 a0 7) = (2 : Int32)
      · rw [if_pos c3, if_pos c3]
        all_goals rfl
      · rw [if_neg c3, if_neg c3]
        by_cases c4 : (m.1 a0 7) = (5 : Int32)
        · rw [if_pos c4, if_pos c4]
          all_goals rfl
        · rw [if_neg c4, if_neg c4]
          all_goals rfl
/-! TransitSeals$Ledger.sumOf(I)I -/
def v94 (m : lt_m) (a0 : Nat) (x1 : Int32) : Int32 := (v16 m (a0 + 1) 6 x1)
theorem p94 (d : Nat) (a0 : Nat) (x1 : Int32) (h0 : ts_sh a0 = (0, 2)) (m : lt_m) : lt_ev (d + 2) 94 [.inr (.inr (some a0)), .inl x1] m = some (some (.inl (v94 m a0 x1)), m) := by
  refine (E94 (d + 1) a0 x1 h0 m).trans ?_
  unfold v94
  rw [p16 (d + 0) (a0 + 1) 6 x1 (sf_of h0 0 (by decide) (by decide)) m, lt_cI_s]
  all_goals rfl
/-! TransitSeals$Ledger.levelOf(I)I -/
def v95 (m : lt_m) (a0 : Nat) (x1 : Int32) : Int32 := (v16 m (a0 + 2) 6 x1)
theorem p95 (d : Nat) (a0 : Nat) (x1 : Int32) (h0 : ts_sh a0 = (0, 2)) (m : lt_m) : lt_ev (d + 2) 95 [.inr (.inr (some a0)), .inl x1] m = some (some (.inl (v95 m a0 x1)), m) := by
  refine (E95 (d + 1) a0 x1 h0 m).trans ?_
  unfold v95
  rw [p16 (d + 0) (a0 + 2) 6 x1 (sf_of h0 1 (by decide) (by decide)) m, lt_cI_s]
  all_goals rfl
/-! TransitSeals$Route.officeAt(I)I -/
def v102 (m : lt_m) (a0 : Nat) (x1 : Int32) : Int32 := (if x1 < 0 then (-1 : Int32) else (if (m.1 a0 1) ≤ x1 then (-1 : Int32) else (v16 m (a0 + 1) 8 x1)))
theorem p102 (d : Nat) (a0 : Nat) (x1 : Int32) (h0 : ts_sh a0 = (0, 7)) (m : lt_m) : lt_ev (d + 2) 102 [.inr (.inr (some a0)), .inl x1] m = some (some (.inl (v102 m a0 x1)), m) := by
  refine (E102 (d + 1) a0 x1 h0 m).trans ?_
  unfold v102
  by_cases c1 : x1 < 0
  · rw [if_pos c1, if_pos c1]
    all_goals rfl
  · rw [if_neg c1, if_neg c1]
    by_cases c2 : (m.1 a0 1) ≤ x1
    · rw [if_pos c2, if_pos c2]
      all_goals rfl
    · rw [if_neg c2, if_neg c2]
      rw [p16 (d + 0) (a0 + 1) 8 x1 (sf_of h0 0 (by decide) (by decide)) m, lt_cI_s]
      all_goals rfl
/-! TransitSeals$Net.hasGoods(I)Z -/
def v103 (m : lt_m) (a0 : Nat) (x1 : Int32) : Int32 := (if x1 < 0 then (0 : Int32) else (if (m.1 a0 8) ≤ x1 then (0 : Int32) else (1 : Int32)))
theorem p103 (d : Nat) (a0 : Nat) (x1 : Int32) (h0 : ts_sh a0 = (0, 5)) (m : lt_m) : lt_ev (d + 1) 103 [.inr (.inr (some a0)), .inl x1] m = some (some (.inl (v103 m a0 x1)), m) := by
  refine (E103 (d + 0) a0 x1 h0 m).trans ?_
  unfold v103
  by_cases c1 : x1 < 0
  · rw [if_pos c1, if_pos c1]
    all_goals rfl
  · rw [if_neg c1, if_neg c1]
    by_cases c2 : (m.1 a0 8) ≤ x1
    · rw [if_pos c2, if_pos c2]
      all_goals rfl
    · rw [if_neg c2, if_neg c2]
      all_goals rfl
/-! TransitSeals$Ledger.movementAt(I)LTransitSeals$Movement; -/
def v105 (m : lt_m) (a0 : Nat) (x1 : Int32) : Option Nat := (if x1 < 0 then none else (if (20 : Int32) ≤ x1 then none else (some ((a0 + 3) + 5 + 3 * (x1).toNatClampNeg))))
theorem p105 (d : Nat) (a0 : Nat) (x1 : Int32) (h0 : ts_sh a0 = (0, 2)) (m : lt_m) : lt_ev (d + 1) 105 [.inr (.inr (some a0)), .inl x1] m = some (some (.inr (.inr (v105 m a0 x1))), m) := by
  refine (E105 (d + 0) a0 x1 h0 m).trans ?_
  unfold v105
  by_cases c1 : x1 < 0
  · rw [if_pos c1, if_pos c1]
    all_goals rfl
  · rw [if_neg c1, if_neg c1]
    by_cases c2 : (20 : Int32) ≤ x1
    · rw [if_pos c2, if_pos c2]
      all_goals rfl
    · rw [if_neg c2, if_neg c2]
      rw [lt_gd_t (by first | exact ⟨sp_nlt c1, sp_clt (by first | decide | exact ts_sh_n h0) c1 c2⟩ | exact ⟨sp_nlt c2, sp_clt (by first | decide | exact ts_sh_n h0) c2 c1⟩)]
      all_goals rfl
/-! TransitSeals$Route.termFrom(I)I -/
def v110 (m : lt_m) (a0 : Nat) (x1 : Int32) : Int32 := ((x1 + ((2 : Int32) * (m.1 a0 2))) + (24 : Int32))
theorem p110 (d : Nat) (a0 : Nat) (x1 : Int32) (h0 : ts_sh a0 = (0, 7)) (m : lt_m) : lt_ev (d + 1) 110 [.inr (.inr (some a0)), .inl x1] m = some (some (.inl (v110 m a0 x1)), m) := by
  refine (E110 (d + 0) a0 x1 h0 m).trans ?_
  unfold v110
  all_goals rfl
/-! TransitSeals$Ledger.find(I)LTransitSeals$Movement; -/
def v114 (m : lt_m) (a0 : Nat) (x1 : Int32) : Option Nat := (if (m.1 a0 6) ≤ x1 then none else (v105 m a0 x1))
theorem p114 (d : Nat) (a0 : Nat) (x1 : Int32) (h0 : ts_sh a0 = (0, 2)) (m : lt_m) : lt_ev (d + 2) 114 [.inr (.inr (some a0)), .inl x1] m = some (some (.inr (.inr (v114 m a0 x1))), m) := by
  refine (E114 (d + 1) a0 x1 h0 m).trans ?_
  unfold v114
  by_cases c1 : (m.1 a0 6) ≤ x1
  · rw [if_pos c1, if_pos c1]
    all_goals rfl
  · rw [if_neg c1, if_neg c1]
    rw [p105 (d + 0) a0 x1 h0 m, lt_cR_s]
    all_goals rfl
/-! TransitSeals$Movement.comesTo()I -/
def v115 (m : lt_m) (a0 : Nat) : Int32 := (v64 m a0 (m.1 a0 9))
theorem p115 (d : Nat) (a0 : Nat) (h0 : ts_sh a0 = (0, 4)) (m : lt_m) : lt_ev (d + 3) 115 [.inr (.inr (some a0))] m = some (some (.inl (v115 m a0)), m) := by
  refine (E115 (d + 2) a0 h0 m).trans ?_
  unfold v115
  rw [p64 (d + 0) a0 (m.1 a0 9) h0 m, lt_cI_s]
  all_goals rfl
/-! TransitSeals$Movement.step(I)I -/
def v122 (m : lt_m) (a0 : Nat) (x1 : Int32) : Int32 := (if ¬ (m.1 a0 7) = (3 : Int32) then (0 : Int32) else ((x1 - (m.1 a0 6)) / (24 : Int32)))
theorem p122 (d : Nat) (a0 : Nat) (x1 : Int32) (h0 : ts_sh a0 = (0, 4)) (m : lt_m) : lt_ev (d + 1) 122 [.inr (.inr (some a0)), .inl x1] m = some (some (.inl (v122 m a0 x1)), m) := by
  refine (E122 (d + 0) a0 x1 h0 m).trans ?_
  unfold v122
  by_cases c1 : ¬ (m.1 a0 7) = (3 : Int32)
  · rw [if_pos c1, if_pos c1]
    all_goals rfl
  · rw [if_neg c1, if_neg c1]
    all_goals rfl
/-! TransitSeals$Movement.changesAt()I -/
def v127 (m : lt_m) (a0 : Nat) : Int32 := (if ¬ (m.1 a0 7) = 0 then (if ¬ (m.1 a0 7) = (3 : Int32) then (1000000 : Int32) else ((m.1 a0 6) + (72 : Int32))) else ((m.1 a0 6) + (1 : Int32)))
theorem p127 (d : Nat) (a0 : Nat) (h0 : ts_sh a0 = (0, 4)) (m : lt_m) : lt_ev (d + 1) 127 [.inr (.inr (some a0))] m = some (some (.inl (v127 m a0)), m) := by
  refine (E127 (d + 0) a0 h0 m).trans ?_
  unfold v127
  by_cases c1 : ¬ (m.1 a0 7) = 0
  · rw [if_pos c1, if_pos c1]
    by_cases c2 : ¬ (m.1 a0 7) = (3 : Int32)
    · rw [if_pos c2, if_pos c2]
      all_goals rfl
    · rw [if_neg c2, if_neg c2]
      all_goals rfl
  · rw [if_neg c1, if_neg c1]
    all_goals rfl
/-! TransitSeals$Movement.stampedAt(I)I -/
def v131 (m : lt_m) (a0 : Nat) (x1 : Int32) : Int32 := (if x1 < 0 then (-1 : Int32) else (if (m.1 a0 9) ≤ x1 then (-1 : Int32) else (v16 m (a0 + 2) 8 x1)))
theorem p131 (d : Nat) (a0 : Nat) (x1 : Int32) (h0 : ts_sh a0 = (0, 4)) (m : lt_m) : lt_ev (d + 2) 131 [.inr (.inr (some a0)), .inl x1] m = some (some (.inl (v131 m a0 x1)), m) := by
  refine (E131 (d + 1) a0 x1 h0 m).trans ?_
  unfold v131
  by_cases c1 : x1 < 0
  · rw [if_pos c1, if_pos c1]
    all_goals rfl
  · rw [if_neg c1, if_neg c1]
    by_cases c2 : (m.1 a0 9) ≤ x1
    · rw [if_pos c2, if_pos c2]
      all_goals rfl
    · rw [if_neg c2, if_neg c2]
      rw [p16 (d + 0) (a0 + 2) 8 x1 (sf_of h0 13 (by decide) (by decide)) m, lt_cI_s]
      all_goals rfl
/-! TransitSeals$Movement.isIndebted()Z -/
def v139 (m : lt_m) (a0 : Nat) : Int32 := (if (m.1 a0 7) = (4 : Int32) then (1 : Int32) else (if ¬ (m.1 a0 7) = (5 : Int32) then (0 : Int32) else (1 : Int32)))
theorem p139 (d : Nat) (a0 : Nat) (h0 : ts_sh a0 = (0, 4)) (m : lt_m) : lt_ev (d + 1) 139 [.inr (.inr (some a0))] m = some (some (.inl (v139 m a0)), m) := by
  refine (E139 (d + 0) a0 h0 m).trans ?_
  unfold v139
  by_cases c1 : (m.1 a0 7) = (4 : Int32)
  · rw [if_pos c1, if_pos c1]
    all_goals rfl
  · rw [if_neg c1, if_neg c1]
    by_cases c2 : ¬ (m.1 a0 7) = (5 : Int32)
    · rw [if_pos c2, if_pos c2]
      all_goals rfl
    · rw [if_neg c2, if_neg c2]
      all_goals rfl
/-! TransitSeals$Book.size()I -/
def v165 (m : lt_m) (a0 : Nat) : Int32 := (lm_min (m.1 a0 3) (30 : Int32))
theorem p165 (d : Nat) (a0 : Nat) (h0 : ts_sh a0 = (0, 0)) (m : lt_m) : lt_ev (d + 1) 165 [.inr (.inr (some a0))] m = some (some (.inl (v165 m a0)), m) := by
  refine (E165 (d + 0) a0 h0 m).trans ?_
  unfold v165
  all_goals rfl
/-! TransitSeals$Row.size()I -/
def v174 (m : lt_m) (a0 : Nat) : Int32 := (m.1 a0 1)
theorem p174 (d : Nat) (a0 : Nat) (h0 : ts_sh a0 = (0, 8)) (m : lt_m) : lt_ev (d + 1) 174 [.inr (.inr (some a0))] m = some (some (.inl (v174 m a0)), m) := by
  refine (E174 (d + 0) a0 h0 m).trans ?_
  unfold v174
  all_goals rfl
/-! TransitSeals$Row.numberAt(I)I -/
def v176 (m : lt_m) (a0 : Nat) (x1 : Int32) : Int32 := (v16 m (a0 + 1) 12 x1)
theorem p176 (d : Nat) (a0 : Nat) (x1 : Int32) (h0 : ts_sh a0 = (0, 8)) (m : lt_m) : lt_ev (d + 2) 176 [.inr (.inr (some a0)), .inl x1] m = some (some (.inl (v176 m a0 x1)), m) := by
  refine (E176 (d + 1) a0 x1 h0 m).trans ?_
  unfold v176
  rw [p16 (d + 0) (a0 + 1) 12 x1 (sf_of h0 0 (by decide) (by decide)) m, lt_cI_s]
  all_goals rfl
/-! TransitSeals$Net.roadHours(II)I -/
def v13 (m : lt_m) (a0 : Nat) (x1 : Int32) (x2 : Int32) : Int32 := (if (v14 m a0 x1) = 0 then (0 : Int32) else (if (v14 m a0 x2) = 0 then (0 : Int32) else (v16 m (a0 + 3) 144 (v15 m x1 x2))))
theorem p13 (d : Nat) (a0 : Nat) (x1 : Int32) (x2 : Int32) (h0 : ts_sh a0 = (0, 5)) (m : lt_m) : lt_ev (d + 2) 13 [.inr (.inr (some a0)), .inl x1, .inl x2] m = some (some (.inl (v13 m a0 x1 x2)), m) := by
  refine (E13 (d + 1) a0 x1 x2 h0 m).trans ?_
  unfold v13
  rw [p14 (d + 0) a0 x1 h0 m, lt_cI_s]
  by_cases c1 : (v14 m a0 x1) = 0
  · rw [if_pos c1, if_pos c1]
    all_goals rfl
  · rw [if_neg c1, if_neg c1]
    rw [p14 (d + 0) a0 x2 h0 m, lt_cI_s]
    by_cases c2 : (v14 m a0 x2) = 0
    · rw [if_pos c2, if_pos c2]
      all_goals rfl
    · rw [if_neg c2, if_neg c2]
      rw [p15 (d + 0) x1 x2 m, lt_cI_s]
      rw [p16 (d + 0) (a0 + 3) 144 (v15 m x1 x2) (sf_of h0 2 (by decide) (by decide)) m, lt_cI_s]
      all_goals rfl
/-! TransitSeals$Reader.digit()I -/
def v35 (m : lt_m) (a0 : Nat) : Int32 := (if (v36 m (a0 + 1) (m.1 a0 1)) < (48 : Int32) then (-1 : Int32) else (if (57 : Int32) < (v36 m (a0 + 1) (m.1 a0 1)) then (-1 : Int32) else ((v36 m (a0 + 1) (m.1 a0 1)) - (48 : Int32))))
theorem p35 (d : Nat) (a0 : Nat) (h0 : ts_sh a0 = (0, 6)) (m : lt_m) : lt_ev (d + 2) 35 [.inr (.inr (some a0))] m = some (some (.inl (v35 m a0)), m) := by
  refine (E35 (d + 1) a0 h0 m).trans ?_
  unfold v35
  rw [p36 (d + 0) (a0 + 1) (m.1 a0 1) (sf_of h0 0 (by decide) (by decide)) m, lt_cI_s]
  by_cases c1 : (v36 m (a0 + 1) (m.1 a0 1)) < (48 : Int32)
  · rw [if_pos c1, if_pos c1]
    all_goals rfl
  · rw [if_neg c1, if_neg c1]
    by_cases c2 : (57 : Int32) < (v36 m (a0 + 1) (m.1 a0 1))
    · rw [if_pos c2, if_pos c2]
      all_goals rfl
    · rw [if_neg c2, if_neg c2]
      all_goals rfl
/-! TransitSeals$Movement.seen()I -/
def v63 (m : lt_m) (a0 : Nat) : Int32 := (v64 m a0 ((m.1 a0 9) - (1 : Int32)))
theorem p63 (d : Nat) (a0 : Nat) (h0 : ts_sh a0 = (0, 4)) (m : lt_m) : lt_ev (d + 3) 63 [.inr (.inr (some a0))] m = some (some (.inl (v63 m a0)), m) := by
  refine (E63 (d + 2) a0 h0 m).trans ?_
  unfold v63
  rw [p64 (d + 0) a0 ((m.1 a0 9) - (1 : Int32)) h0 m, lt_cI_s]
  all_goals rfl
/-! TransitSeals$Ledger.nextToStart()LTransitSeals$Movement; -/
def v104 (m : lt_m) (a0 : Nat) : Option Nat := (v105 m a0 (m.1 a0 6))
theorem p104 (d : Nat) (a0 : Nat) (h0 : ts_sh a0 = (0, 2)) (m : lt_m) : lt_ev (d + 2) 104 [.inr (.inr (some a0))] m = some (some (.inr (.inr (v104 m a0))), m) := by
  refine (E104 (d + 1) a0 h0 m).trans ?_
  unfold v104
  rw [p105 (d + 0) a0 (m.1 a0 6) h0 m, lt_cR_s]
  all_goals rfl

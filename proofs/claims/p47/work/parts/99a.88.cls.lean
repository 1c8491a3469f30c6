/-! ===== the constructor of the class ===== -/
abbrev YC0 : ts_Y := (yX11_init, cX11_init, 1, none, 11)
theorem hYC0 : ts_mL[0]? = some YC0 := rfl
theorem dc0_0 : decode YC0.2.1 0 = .ok (.aload_n 0, 1) := by decide +kernel
theorem dc0_1 : decode YC0.2.1 1 = .ok (.invokespecial 1, 3) := by decide +kernel
theorem dc0_4 : decode YC0.2.1 4 = .ok (.aload_n 0, 1) := by decide +kernel
theorem dc0_5 : decode YC0.2.1 5 = .ok (.new 7, 3) := by decide +kernel
theorem dc0_8 : decode YC0.2.1 8 = .ok (.dup, 1) := by decide +kernel
theorem dc0_9 : decode YC0.2.1 9 = .ok (.invokespecial 9, 3) := by decide +kernel
theorem dc0_12 : decode YC0.2.1 12 = .ok (.putfield 10, 3) := by decide +kernel
theorem dc0_15 : decode YC0.2.1 15 = .ok (.aload_n 0, 1) := by decide +kernel
theorem dc0_16 : decode YC0.2.1 16 = .ok (.new 16, 3) := by decide +kernel
theorem dc0_19 : decode YC0.2.1 19 = .ok (.dup, 1) := by decide +kernel
theorem dc0_20 : decode YC0.2.1 20 = .ok (.invokespecial 18, 3) := by decide +kernel
theorem dc0_23 : decode YC0.2.1 23 = .ok (.putfield 19, 3) := by decide +kernel
theorem dc0_26 : decode YC0.2.1 26 = .ok (.aload_n 0, 1) := by decide +kernel
theorem dc0_27 : decode YC0.2.1 27 = .ok (.new 23, 3) := by decide +kernel
theorem dc0_30 : decode YC0.2.1 30 = .ok (.dup, 1) := by decide +kernel
theorem dc0_31 : decode YC0.2.1 31 = .ok (.invokespecial 25, 3) := by decide +kernel
theorem dc0_34 : decode YC0.2.1 34 = .ok (.putfield 26, 3) := by decide +kernel
theorem dc0_37 : decode YC0.2.1 37 = .ok (.aload_n 0, 1) := by decide +kernel
theorem dc0_38 : decode YC0.2.1 38 = .ok (.new 30, 3) := by decide +kernel
theorem dc0_41 : decode YC0.2.1 41 = .ok (.dup, 1) := by decide +kernel
theorem dc0_42 : decode YC0.2.1 42 = .ok (.invokespecial 32, 3) := by decide +kernel
theorem dc0_45 : decode YC0.2.1 45 = .ok (.putfield 33, 3) := by decide +kernel
theorem dc0_48 : decode YC0.2.1 48 = .ok (.aload_n 0, 1) := by decide +kernel
theorem dc0_49 : decode YC0.2.1 49 = .ok (.new 37, 3) := by decide +kernel
theorem dc0_52 : decode YC0.2.1 52 = .ok (.dup, 1) := by decide +kernel
theorem dc0_53 : decode YC0.2.1 53 = .ok (.invokespecial 39, 3) := by decide +kernel
theorem dc0_56 : decode YC0.2.1 56 = .ok (.putfield 40, 3) := by decide +kernel
theorem dc0_59 : decode YC0.2.1 59 = .ok (.aload_n 0, 1) := by decide +kernel
theorem dc0_60 : decode YC0.2.1 60 = .ok (.new 44, 3) := by decide +kernel
theorem dc0_63 : decode YC0.2.1 63 = .ok (.dup, 1) := by decide +kernel
theorem dc0_64 : decode YC0.2.1 64 = .ok (.invokespecial 46, 3) := by decide +kernel
theorem dc0_67 : decode YC0.2.1 67 = .ok (.putfield 47, 3) := by decide +kernel
theorem dc0_70 : decode YC0.2.1 70 = .ok (.aload_n 0, 1) := by decide +kernel
theorem dc0_71 : decode YC0.2.1 71 = .ok (.new 51, 3) := by decide +kernel
theorem dc0_74 : decode YC0.2.1 74 = .ok (.dup, 1) := by decide +kernel
theorem dc0_75 : decode YC0.2.1 75 = .ok (.invokespecial 53, 3) := by decide +kernel
theorem dc0_78 : decode YC0.2.1 78 = .ok (.putfield 54, 3) := by decide +kernel
theorem dc0_81 : decode YC0.2.1 81 = .ok (.aload_n 0, 1) := by decide +kernel
theorem dc0_82 : decode YC0.2.1 82 = .ok (.new 58, 3) := by decide +kernel
theorem dc0_85 : decode YC0.2.1 85 = .ok (.dup, 1) := by decide +kernel
theorem dc0_86 : decode YC0.2.1 86 = .ok (.invokespecial 60, 3) := by decide +kernel
theorem dc0_89 : decode YC0.2.1 89 = .ok (.putfield 61, 3) := by decide +kernel
theorem dc0_92 : decode YC0.2.1 92 = .ok (.aload_n 0, 1) := by decide +kernel
theorem dc0_93 : decode YC0.2.1 93 = .ok (.new 58, 3) := by decide +kernel
theorem dc0_96 : decode YC0.2.1 96 = .ok (.dup, 1) := by decide +kernel
theorem dc0_97 : decode YC0.2.1 97 = .ok (.invokespecial 60, 3) := by decide +kernel
theorem dc0_100 : decode YC0.2.1 100 = .ok (.putfield 65, 3) := by decide +kernel
theorem dc0_103 : decode YC0.2.1 103 = .ok (.return_, 1) := by decide +kernel
def tsI (b j : Nat) : Int32 := if b < 1 then 0 else if b < 4 then ldI1 1 b j else if b < 13 then 0 else if b < 81 then leI 13 b j else if b < 695 then hiI b j else 0
def tsA (j : Nat) : Nat := if j = 7 then 695 else if j = 8 then 703 else ts_off 11 j
/-- the class's object with k of its fields, and the cells below n -/
def tsV (n k : Nat) (M : ts_M) : Prop := M.2.2.2 = n ∧ (∀ b, 1 ≤ b → b < n → ∀ j, j < ts_rk b → M.2.2.1 b j = ts_G b j) ∧ (∀ b, b < n → b < 695 → ∀ j, M.1 b j = tsI b j) ∧ ∀ j, M.2.2.1 0 j = if j < k then some (tsA j) else none
theorem tsV_add {n n' k : Nat} {I : Nat → Nat → Int32} {M M' : ts_M} (h1 : 1 ≤ n) (h : tsV n k M) (hx : cX n n' I M M') (hI : ∀ b, n ≤ b → b < n' → ∀ j, I b j = tsI b j) (hA : tsA k = n) (hle : n ≤ n') : tsV n' (k + 1) (ts_wrR M' 0 k (some n)) := by
  obtain ⟨x1, x2, x3, x4⟩ := hx
  obtain ⟨v1, v2, v3, v4⟩ := h
  refine ⟨by rw [wR_n, x1], fun b b1 b2 j hj => ?_, fun b b1 b2 j => ?_, fun j => ?_⟩
  · rw [wR_r1 (by omega)]
    rcases Nat.lt_or_ge b n with c | c
    · rw [(x2 b c j).2]; exact v2 b b1 c j hj
    · exact x4 b c b2 j hj
  · rw [wR_i]
    rcases Nat.lt_or_ge b n with c | c
    · rw [(x2 b c j).1]; exact v3 b c b2 j
    · rw [x3 b c b1 j]; exact hI b c b1 j
  · by_cases e : j = k
    · rw [wR_r0 rfl e, if_pos (by omega), e, hA]
    · rw [wR_r1 (by omega), (x2 0 (by omega) j).2, v4 j]
      by_cases c : j < k
      · rw [if_pos c, if_pos (by omega)]
      · rw [if_neg c, if_neg (by omega)]
theorem sk : ts_sh 1 = (0, 6) ∧ ts_sh 4 = (0, 8) ∧ ts_sh 6 = (0, 7) ∧ ts_sh 8 = (0, 3) ∧ ts_sh 12 = (0, 9) ∧ ts_sh 13 = (0, 2) ∧ ts_sh 2 = (0, 10) ∧ ts_sh 3 = (1, 200) ∧ ts_sh 5 = (1, 12) ∧ ts_sh 7 = (1, 8) ∧ ts_sh 9 = (1, 8) ∧ ts_sh 10 = (1, 8) ∧ ts_sh 11 = (1, 8) := ⟨sf_of sx 0 (by decide) (by decide), sf_of sx 1 (by decide) (by decide), sf_of sx 2 (by decide) (by decide), sf_of sx 3 (by decide) (by decide), sf_of sx 4 (by decide) (by decide), sf_of sx 5 (by decide) (by decide), sf_of (sf_of sx 0 (by decide) (by decide)) 0 (by decide) (by decide), sf_of (sf_of (sf_of sx 0 (by decide) (by decide)) 0 (by decide) (by decide)) 0 (by decide) (by decide), sf_of (sf_of sx 1 (by decide) (by decide)) 0 (by decide) (by decide), sf_of (sf_of sx 2 (by decide) (by decide)) 0 (by decide) (by decide), sf_of (sf_of sx 3 (by decide) (by decide)) 0 (by decide) (by decide), sf_of (sf_of sx 3 (by decide) (by decide)) 1 (by decide) (by decide), sf_of (sf_of sx 3 (by decide) (by decide)) 2 (by decide) (by decide)⟩
/-- one field: new, its constructor, putfield -/
theorem c0_fld {d pc x xi xp y c k n n' z : Nat} {M M' : ts_M} (d1 : decode YC0.2.1 pc = .ok (.aload_n 0, 1)) (d2 : decode YC0.2.1 (pc + 1) = .ok (.new x, 3)) (d3 : decode YC0.2.1 (pc + 4) = .ok (.dup, 1)) (d4 : decode YC0.2.1 (pc + 5) = .ok (.invokespecial xi, 3)) (d5 : decode YC0.2.1 (pc + 8) = .ok (.putfield xp, 3)) (hc : ts_cK 11 x = some c) (hsh : ts_sh n = (0, c)) (hb : ts_bi 11 xi = 0) (hf : ts_cal 11 xi = some (y, 0, 2, z)) (hk : ts_knd y = 0) (hp : ts_fld 11 xp = some (11, k)) (ht : ts_isr (ts_ty 11 k) = true) (hn : M.2.2.2 = n) (hlt : n < 711) (hn' : M'.2.2.2 = n') (h0 : 0 < n') (he : ts_ev d y [.inr (.inr (some n))] (ts_new M) = some (none, M')) : ts_run (ts_ev d) YC0 (pc, [some (.inr (.inr (some 0)))], [], M) = ts_run (ts_ev d) YC0 (pc + 11, [some (.inr (.inr (some 0)))], [], ts_wrR M' 0 k (some n)) := by
  refine (cs_aload d1 rfl).trans ?_
  refine (cs_new (M := M) (c := c) d2 rfl hc (by rw [hn]; exact hsh) (by rw [hn]; exact hlt)).trans ?_
  rw [hn]
  refine (cs_dup d3).trans ?_
  refine (cs_init (y := y) (n := 0) (z := z) d4 rfl hb hf hk rfl rfl (Nat.zero_le _) (Nat.le_of_ble_eq_true rfl) he).trans ?_
  exact cs_putR (c := 11) (k := k) d5 rfl hp rfl sx (by rw [hn']; exact h0) ht

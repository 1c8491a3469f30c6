/-! ===== bit counts: the library's and the reference's ===== -/
def pcN : Nat → Nat → Nat
  | _, 0 => 0
  | v, k + 1 => v % 2 + pcN (v / 2) k
theorem and_split {k a b c e : Nat} (ha : a < 2 ^ k) (hc : c < 2 ^ k) : (2 ^ k * b + a) &&& (2 ^ k * e + c) = 2 ^ k * (b &&& e) + (a &&& c) := by
  have hac : a &&& c < 2 ^ k := Nat.lt_of_le_of_lt Nat.and_le_left ha
  apply Nat.eq_of_testBit_eq
  intro j
  rw [Nat.testBit_and, Nat.testBit_two_pow_mul_add _ ha, Nat.testBit_two_pow_mul_add _ hc, Nat.testBit_two_pow_mul_add _ hac]
  by_cases h : j < k
  · simp [h]
  · simp [h]
theorem shr_split {k s a b c e : Nat} (ha : a < 2 ^ k) (hs : s ≤ k) (hc : c < 2 ^ (k - s)) : ((2 ^ k * b + a) >>> s) &&& (2 ^ k * e + c) = 2 ^ k * ((b >>> s) &&& e) + ((a >>> s) &&& c) := by
  have hc' : c < 2 ^ k := Nat.lt_of_lt_of_le hc (Nat.pow_le_pow_right (by decide) (by omega))
  have hac : (a >>> s) &&& c < 2 ^ k := Nat.lt_of_le_of_lt Nat.and_le_right hc'
  apply Nat.eq_of_testBit_eq
  intro j
  rw [Nat.testBit_and, Nat.testBit_shiftRight, Nat.testBit_two_pow_mul_add _ ha, Nat.testBit_two_pow_mul_add _ hc', Nat.testBit_two_pow_mul_add _ hac]
  by_cases h : j < k
  · rw [if_pos h, if_pos h, Nat.testBit_and, Nat.testBit_shiftRight]
    by_cases h2 : s + j < k
    · rw [if_pos h2]
    · rw [if_neg h2, Nat.testBit_lt_two_pow (Nat.lt_of_lt_of_le hc (Nat.pow_le_pow_right (by decide) (by omega)))]
      simp
  · rw [if_neg h, if_neg h, if_neg (by omega), Nat.testBit_and, Nat.testBit_shiftRight, show s + (j - k) = s + j - k by omega]
def pc1 (M x : Nat) : Nat := x - ((x >>> 1) &&& M)
def pc2 (M x : Nat) : Nat := (x &&& M) + ((x >>> 2) &&& M)
theorem pc1_split (M a b : Nat) (ha : a < 256) : pc1 (256 * M + 85) (256 * b + a) = 256 * pc1 M b + pc1 85 a := by
  unfold pc1
  have e := shr_split (k := 8) (s := 1) (a := a) (b := b) (c := 85) (e := M) ha (by decide) (by decide)
  have e : ((256 * b + a) >>> 1) &&& (256 * M + 85) = 256 * ((b >>> 1) &&& M) + ((a >>> 1) &&& 85) := e
  rw [e]
  have h1 : (b >>> 1) &&& M ≤ b := Nat.le_trans Nat.and_le_left (by rw [Nat.shiftRight_eq_div_pow]; exact Nat.div_le_self _ _)
  have h2 : (a >>> 1) &&& 85 ≤ a := Nat.le_trans Nat.and_le_left (by rw [Nat.shiftRight_eq_div_pow]; exact Nat.div_le_self _ _)
  omega
theorem pc2_split (M a b : Nat) (ha : a < 256) : pc2 (256 * M + 51) (256 * b + a) = 256 * pc2 M b + pc2 51 a := by
  unfold pc2
  have e := shr_split (k := 8) (s := 2) (a := a) (b := b) (c := 51) (e := M) ha (by decide) (by decide)
  have e : ((256 * b + a) >>> 2) &&& (256 * M + 51) = 256 * ((b >>> 2) &&& M) + ((a >>> 2) &&& 51) := e
  have e2 := and_split (k := 8) (a := a) (b := b) (c := 51) (e := M) ha (by decide)
  have e2 : (256 * b + a) &&& (256 * M + 51) = 256 * (b &&& M) + (a &&& 51) := e2
  rw [e, e2]
  omega
theorem pc_byte : ∀ a, a < 256 → pc1 85 a < 256 ∧ pc1 21845 a = pc1 85 a ∧ pc2 13107 (pc1 85 a) = pc2 51 (pc1 85 a) ∧ pc2 51 (pc1 85 a) % 16 ≤ 4 ∧ pc2 51 (pc1 85 a) / 16 ≤ 4 ∧ pcN a 8 = pc2 51 (pc1 85 a) % 16 + pc2 51 (pc1 85 a) / 16 ∧ a &&& 3855 = a % 16 ∧ a &&& 15 = a % 16 := by decide +kernel
theorem pcN_split (b : Nat) (n : Nat) : ∀ (k a : Nat), a < 2 ^ k → pcN (2 ^ k * b + a) (k + n) = pcN a k + pcN b n := by
  intro k
  induction k with
  | zero => intro a ha
            have : a = 0 := by omega
            subst this
            rw [Nat.zero_add]
            simp [pcN]
  | succ k ih =>
    intro a ha
    rw [Nat.add_right_comm]
    simp only [pcN]
    rw [Nat.pow_succ] at ha ⊢
    rw [show (2 ^ k * 2 * b + a) / 2 = 2 ^ k * b + a / 2 by rw [Nat.mul_right_comm]; omega, ih (a / 2) (by omega), show (2 ^ k * 2 * b + a) % 2 = a % 2 by rw [Nat.mul_right_comm]; omega]
    omega
theorem pc_m (x u v : Nat) (h1 : u ≤ 4) (h2 : v ≤ 4) : (16 * x + (v + u)) % 16 = u + v := by omega
theorem pc_e (A B C : Nat) (h1 : A ≤ 8) (h2 : B ≤ 8) (h3 : C ≤ 8) : (256 * (256 * C + B) + A + (256 * (256 * C + B) + A) / 2 ^ 8 + (256 * (256 * C + B) + A + (256 * (256 * C + B) + A) / 2 ^ 8) / 2 ^ 16) % 2 ^ 6 = A + (B + C) := by
  have e1 : (256 * (256 * C + B) + A) / 2 ^ 8 = 256 * C + B := by omega
  rw [e1]
  have e2 : (256 * (256 * C + B) + A + (256 * C + B)) / 2 ^ 16 = C := by omega
  rw [e2]
  omega
def pc3 (x : Nat) : Nat := (x + x >>> 4) &&& 252645135
def pc4 (y : Nat) : Nat := ((y + y >>> 8) + (y + y >>> 8) >>> 16) &&& 63
theorem pc_all {x : Nat} (hx : x < 2 ^ 24) : pc4 (pc3 (pc2 858993459 (pc1 1431655765 x))) = pcN x 24 ∧ pc1 1431655765 x < 2 ^ 25 ∧ pc2 858993459 (pc1 1431655765 x) < 2 ^ 25 ∧ pc3 (pc2 858993459 (pc1 1431655765 x)) < 2 ^ 25 := by
  obtain ⟨a, b, c, ha, hb, hc, rfl⟩ : ∃ a b c, a < 256 ∧ b < 256 ∧ c < 256 ∧ x = 256 * (256 * c + b) + a := ⟨x % 256, x / 256 % 256, x / 65536, by omega, by omega, by omega, by omega⟩
  obtain ⟨a1, a2, a3, a4, a5, a6, -⟩ := pc_byte a ha
  obtain ⟨b1, b2, b3, b4, b5, b6, -⟩ := pc_byte b hb
  obtain ⟨c1, c2, c3, c4, c5, c6, -⟩ := pc_byte c hc
  have e1 : pc1 1431655765 (256 * (256 * c + b) + a) = 256 * (256 * pc1 85 c + pc1 85 b) + pc1 85 a := by
    rw [show 1431655765 = 256 * (256 * 21845 + 85) + 85 by decide, pc1_split _ _ _ ha, pc1_split _ _ _ hb, c2]
  have e2 : pc2 858993459 (256 * (256 * pc1 85 c + pc1 85 b) + pc1 85 a) = 256 * (256 * pc2 51 (pc1 85 c) + pc2 51 (pc1 85 b)) + pc2 51 (pc1 85 a) := by
    rw [show 858993459 = 256 * (256 * 13107 + 51) + 51 by decide, pc2_split _ _ _ a1, pc2_split _ _ _ b1, c3]
  have e0 : pcN (256 * (256 * c + b) + a) 24 = pcN a 8 + (pcN b 8 + pcN c 8) := by
    have h1 := pcN_split (256 * c + b) 16 8 a ha
    have h2 := pcN_split c 8 8 b hb
    have h1 : pcN (256 * (256 * c + b) + a) 24 = pcN a 8 + pcN (256 * c + b) 16 := h1
    have h2 : pcN (256 * c + b) 16 = pcN b 8 + pcN c 8 := h2
    rw [h1, h2]
  rw [e1, e2, e0, a6, b6, c6]
  generalize pc2 51 (pc1 85 a) = A at *
  generalize pc2 51 (pc1 85 b) = B at *
  generalize pc2 51 (pc1 85 c) = C at *
  have hA : ∃ u v, u ≤ 4 ∧ v ≤ 4 ∧ A = 16 * u + v := ⟨A / 16, A % 16, by omega, by omega, by omega⟩
  have hB : ∃ u v, u ≤ 4 ∧ v ≤ 4 ∧ B = 16 * u + v := ⟨B / 16, B % 16, by omega, by omega, by omega⟩
  have hC : ∃ u v, u ≤ 4 ∧ v ≤ 4 ∧ C = 16 * u + v := ⟨C / 16, C % 16, by omega, by omega, by omega⟩
  obtain ⟨au, av, q1, q2, rfl⟩ := hA
  obtain ⟨bu, bv, q3, q4, rfl⟩ := hB
  obtain ⟨cu, cv, q5, q6, rfl⟩ := hC
  have e3 : pc3 (256 * (256 * (16 * cu + cv) + (16 * bu + bv)) + (16 * au + av)) = 256 * (256 * (cu + cv) + (bu + bv)) + (au + av) := by
    unfold pc3
    rw [Nat.shiftRight_eq_div_pow, show 256 * (256 * (16 * cu + cv) + (16 * bu + bv)) + (16 * au + av) + (256 * (256 * (16 * cu + cv) + (16 * bu + bv)) + (16 * au + av)) / 2 ^ 4 = 256 * (256 * (16 * cu + (cv + cu)) + (16 * (cv + bu) + (bv + bu))) + (16 * (bv + au) + (av + au)) by omega, show 252645135 = 256 * (256 * 3855 + 15) + 15 by decide]
    have g1 := and_split (k := 8) (a := 16 * (bv + au) + (av + au)) (b := 256 * (16 * cu + (cv + cu)) + (16 * (cv + bu) + (bv + bu))) (c := 15) (e := 256 * 3855 + 15) (by omega) (by decide)
    have g2 := and_split (k := 8) (a := 16 * (cv + bu) + (bv + bu)) (b := 16 * cu + (cv + cu)) (c := 15) (e := 3855) (by omega) (by decide)
    have g1 : (256 * (256 * (16 * cu + (cv + cu)) + (16 * (cv + bu) + (bv + bu))) + (16 * (bv + au) + (av + au))) &&& (256 * (256 * 3855 + 15) + 15) = 256 * ((256 * (16 * cu + (cv + cu)) + (16 * (cv + bu) + (bv + bu))) &&& (256 * 3855 + 15)) + ((16 * (bv + au) + (av + au)) &&& 15) := g1
    have g2 : (256 * (16 * cu + (cv + cu)) + (16 * (cv + bu) + (bv + bu))) &&& (256 * 3855 + 15) = 256 * ((16 * cu + (cv + cu)) &&& 3855) + ((16 * (cv + bu) + (bv + bu)) &&& 15) := g2
    rw [g1, g2, (pc_byte (16 * cu + (cv + cu)) (by omega)).2.2.2.2.2.2.1, (pc_byte (16 * (cv + bu) + (bv + bu)) (by omega)).2.2.2.2.2.2.2, (pc_byte (16 * (bv + au) + (av + au)) (by omega)).2.2.2.2.2.2.2, show (16 * cu + (cv + cu)) % 16 = cu + cv from pc_m _ _ _ q5 q6, show (16 * (cv + bu) + (bv + bu)) % 16 = bu + bv from pc_m _ _ _ q3 q4, show (16 * (bv + au) + (av + au)) % 16 = au + av from pc_m _ _ _ q1 q2]
  rw [e3]
  refine ⟨?_, by omega, by omega, by omega⟩
  unfold pc4
  rw [show (63 : Nat) = 2 ^ 6 - 1 by decide, Nat.and_two_pow_sub_one_eq_mod, Nat.shiftRight_eq_div_pow, Nat.shiftRight_eq_div_pow, pc_e _ _ _ (by omega) (by omega) (by omega), show (16 * au + av) % 16 = av by omega, show (16 * au + av) / 16 = au by omega, show (16 * bu + bv) % 16 = bv by omega, show (16 * bu + bv) / 16 = bu by omega, show (16 * cu + cv) % 16 = cv by omega, show (16 * cu + cv) / 16 = cu by omega]
  omega
theorem sp_ushr {x : Nat} (hx : x < 2 ^ 31) (s : Nat) (hs : s < 32) : ((nI x).toUInt32 >>> ((nI s).toUInt32 &&& Int32.toUInt32 31)).toInt32 = nI (x >>> s) := by
  have e : ∀ s, s < 32 → ((nI s).toUInt32 &&& Int32.toUInt32 31).toNat = s := by decide +kernel
  have e2 : (nI x).toUInt32 = UInt32.ofNat x := by
    apply UInt32.toNat_inj.mp
    show (BitVec.ofNat 32 x).toNat = (BitVec.ofNat 32 x).toNat
    rfl
  have e3 : (nI x).toUInt32 >>> ((nI s).toUInt32 &&& Int32.toUInt32 31) = UInt32.ofNat (x >>> s) := by
    apply UInt32.toNat_inj.mp
    rw [UInt32.toNat_shiftRight, e s hs, e2, UInt32.toNat_ofNat', UInt32.toNat_ofNat', Nat.mod_eq_of_lt hs, Nat.mod_eq_of_lt (a := x) (by omega), Nat.mod_eq_of_lt]
    rw [Nat.shiftRight_eq_div_pow]
    exact Nat.lt_of_le_of_lt (Nat.div_le_self _ _) (by omega)
  rw [e3]
  rfl
theorem sp_ones (m : lt_m) {x : Nat} (hx : x < 2 ^ 24) : v60 m (nI x) = nI (pcN x 24) := by
  obtain ⟨h0, h1, h2, h3⟩ := pc_all hx
  have hs1 : (x >>> 1) &&& 1431655765 ≤ x := Nat.le_trans Nat.and_le_left (by rw [Nat.shiftRight_eq_div_pow]; exact Nat.div_le_self _ _)
  have e1 : nI x - (((nI x).toUInt32 >>> ((1 : Int32).toUInt32 &&& Int32.toUInt32 31)).toInt32 &&& (1431655765 : Int32)) = nI (pc1 1431655765 x) := by
    rw [q_1, sp_ushr (by omega) 1 (by decide), show (1431655765 : Int32) = nI 1431655765 from rfl, sp_andN, pk_sub hs1]
    rfl
  have e2 : (nI (pc1 1431655765 x) &&& (858993459 : Int32)) + (((nI (pc1 1431655765 x)).toUInt32 >>> ((2 : Int32).toUInt32 &&& Int32.toUInt32 31)).toInt32 &&& (858993459 : Int32)) = nI (pc2 858993459 (pc1 1431655765 x)) := by
    rw [q_2, sp_ushr (by omega) 2 (by decide), show (858993459 : Int32) = nI 858993459 from rfl, sp_andN, sp_andN, nI_add]
    rfl
  have e3 : (nI (pc2 858993459 (pc1 1431655765 x)) + ((nI (pc2 858993459 (pc1 1431655765 x))).toUInt32 >>> ((4 : Int32).toUInt32 &&& Int32.toUInt32 31)).toInt32) &&& (252645135 : Int32) = nI (pc3 (pc2 858993459 (pc1 1431655765 x))) := by
    rw [q_4, sp_ushr (by omega) 4 (by decide), show (252645135 : Int32) = nI 252645135 from rfl, nI_add, sp_andN]
    rfl
  have e4 : ∀ y, y < 2 ^ 25 → ((nI y + ((nI y).toUInt32 >>> ((8 : Int32).toUInt32 &&& Int32.toUInt32 31)).toInt32) + ((nI y + ((nI y).toUInt32 >>> ((8 : Int32).toUInt32 &&& Int32.toUInt32 31)).toInt32).toUInt32 >>> ((16 : Int32).toUInt32 &&& Int32.toUInt32 31)).toInt32) &&& (63 : Int32) = nI (pc4 y) := by
    intro y hy
    have hb : y >>> 8 ≤ y := by rw [Nat.shiftRight_eq_div_pow]; exact Nat.div_le_self _ _
    rw [q_8, sp_ushr (by omega) 8 (by decide), nI_add, show (16 : Int32) = nI 16 from rfl, sp_ushr (by omega) 16 (by decide), show (63 : Int32) = nI 63 from rfl, nI_add, sp_andN]
    rfl
  unfold v60
  rw [e1, e2, e3, e4 _ h3, h0]
/-- ones -/
theorem pc_drop : ∀ (k v : Nat), v < 2 ^ k → 0 < v → pcN v k = pcN (v &&& (v - 1)) k + 1 ∧ v &&& (v - 1) < v := by
  intro k
  induction k with
  | zero => intro v h1 h2; omega
  | succ k ih =>
    intro v h1 h2
    rw [Nat.pow_succ] at h1
    simp only [pcN]
    rcases Nat.mod_two_eq_zero_or_one v with c | c
    · obtain ⟨q, rfl⟩ : ∃ q, v = 2 * q := ⟨v / 2, by omega⟩
      have e : (2 * q) &&& (2 * q - 1) = 2 * (q &&& (q - 1)) := by
        have := and_split (k := 1) (a := 0) (b := q) (c := 1) (e := q - 1) (by decide) (by decide)
        rw [show 2 ^ 1 * q + 0 = 2 * q by omega, show 2 ^ 1 * (q - 1) + 1 = 2 * q - 1 by omega] at this
        rw [this]
        simp
      obtain ⟨i1, i2⟩ := ih q (by omega) (by omega)
      rw [e, show 2 * q / 2 = q by omega, show 2 * (q &&& (q - 1)) / 2 = q &&& (q - 1) by omega, i1]
      omega
    · obtain ⟨q, rfl⟩ : ∃ q, v = 2 * q + 1 := ⟨v / 2, by omega⟩
      have e : (2 * q + 1) &&& (2 * q + 1 - 1) = 2 * q := by
        have := and_split (k := 1) (a := 1) (b := q) (c := 0) (e := q) (by decide) (by decide)
        rw [show 2 ^ 1 * q + 1 = 2 * q + 1 by omega, show 2 ^ 1 * q + 0 = 2 * q + 1 - 1 by omega] at this
        rw [this, Nat.and_self]
        simp
      rw [e, show (2 * q + 1) / 2 = q by omega, show 2 * q / 2 = q by omega]
      omega
theorem k60 (d : Nat) {v : Nat} (hv : v < 2 ^ 24) (m : lt_m) : lt_ev (d + 1) 60 [.inl (nI v)] m = some (some (.inl (nI (pcN v 24))), m) := by
  rw [p60 d, sp_ones m hv]

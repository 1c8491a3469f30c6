/-! ===== frees: the greatest shares of so many ===== -/
theorem sumN_pt {f g : Nat → Nat} {i c n : Nat} (hi : i < n) (h1 : g i = c + f i) (h2 : ∀ j, j < n → j ≠ i → g j = f j) : sumN g n = c + sumN f n := by
  induction n with
  | zero => omega
  | succ n ih =>
    simp only [sumN]
    by_cases c1 : i = n
    · subst c1
      rw [sumN_congr (f := g) (g := f) (fun j hj => h2 j (by omega) (by omega)), h1]
      omega
    · rw [ih (by omega) (fun j hj hne => h2 j (by omega) hne), h2 n (by omega) (fun q => c1 q.symm)]
      omega
theorem sumN_front (f : Nat → Nat) : ∀ n, sumN f (n + 1) = f 0 + sumN (fun i => f (i + 1)) n := by
  intro n
  induction n with
  | zero => simp [sumN]
  | succ n ih =>
    rw [sumN, ih]
    simp only [sumN]
    omega
theorem pcN_tb : ∀ k v, pcN v k = sumN (fun i => if v.testBit i = true then 1 else 0) k := by
  intro k
  induction k with
  | zero => intro v; rfl
  | succ k ih =>
    intro v
    simp only [pcN]
    rw [sumN_front, ih (v / 2)]
    congr 1
    · rw [Nat.testBit_zero]
      rcases Nat.mod_two_eq_zero_or_one v with c | c <;> simp [c]
    · exact sumN_congr fun i hi => by rw [Nat.testBit_succ]
def tbS (f : Nat → Nat) (n v : Nat) : Nat := sumN (fun i => if v.testBit i = true then f i else 0) n
theorem pcN_tbS {v n : Nat} (hv : v < 2 ^ n) (hn : n ≤ 24) : pcN v 24 = tbS (fun _ => 1) n v := by
  rw [pcN_tb]
  exact sumN_ext hn fun i h1 h2 => by rw [Nat.testBit_lt_two_pow (Nat.lt_of_lt_of_le hv (Nat.pow_le_pow_right (by decide) h1))]; rfl
theorem xor_tb (v i j : Nat) : (v ^^^ 2 ^ i).testBit j = (v.testBit j != decide (i = j)) := by
  rw [Nat.testBit_xor, Nat.testBit_two_pow]
theorem tbS_rem {f : Nat → Nat} {n v i : Nat} (hi : i < n) (h : v.testBit i = true) : tbS f n v = f i + tbS f n (v ^^^ 2 ^ i) := by
  unfold tbS
  refine sumN_pt hi ?_ ?_
  · rw [xor_tb, h]; simp
  · intro j hj hne
    rw [xor_tb, decide_eq_false (fun q => hne q.symm)]
    simp
theorem tbS_zero {f : Nat → Nat} {n v : Nat} (h : ∀ i, i < n → v.testBit i = false) : tbS f n v = 0 := sumN_zero fun i hi => by rw [h i hi]; rfl
theorem tbS_cnt0 {n v : Nat} (h : tbS (fun _ => 1) n v = 0) : ∀ i, i < n → v.testBit i = false := by
  intro i hi
  cases c : v.testBit i with
  | false => rfl
  | true => rw [tbS_rem hi c] at h; omega
theorem tbS_le {f : Nat → Nat} {n u v : Nat} (h : ∀ i, i < n → u.testBit i = true → v.testBit i = true) : tbS f n u ≤ tbS f n v := sumN_le fun i hi => by
  by_cases c : u.testBit i = true
  · rw [if_pos c, if_pos (h i hi c)]; exact Nat.le_refl _
  · rw [if_neg c]; exact Nat.zero_le _
section GR
variable {sh : Nat → Nat} {n : Nat}
/-- the first of the greatest -/
def gpk (sh : Nat → Nat) (v : Nat) : Nat → Option Nat
  | 0 => none
  | i + 1 => if v.testBit i = true then (match gpk sh v i with
    | none => some i
    | some j => if sh i ≤ sh j then some j else some i) else gpk sh v i
theorem gpk_none {v : Nat} : ∀ n, gpk sh v n = none → ∀ i, i < n → v.testBit i = false := by
  intro n
  induction n with
  | zero => intro _ i hi; omega
  | succ n ih =>
    intro h i hi
    simp only [gpk] at h
    by_cases c : v.testBit n = true
    · rw [if_pos c] at h
      cases hg : gpk sh v n with
      | none => rw [hg] at h; cases h
      | some j => rw [hg] at h; simp only at h; split at h <;> cases h
    · rw [if_neg c] at h
      by_cases e : i = n
      · subst e; simpa using c
      · exact ih h i (by omega)
theorem gpk_some {v : Nat} : ∀ n j, gpk sh v n = some j → j < n ∧ v.testBit j = true ∧ ∀ i, i < n → v.testBit i = true → sh i ≤ sh j := by
  intro n
  induction n with
  | zero => intro j h; cases h
  | succ n ih =>
    intro j h
    simp only [gpk] at h
    by_cases c : v.testBit n = true
    · rw [if_pos c] at h
      cases hg : gpk sh v n with
      | none =>
        rw [hg] at h
        cases h
        refine ⟨Nat.lt_succ_self n, c, fun i hi hb => ?_⟩
        by_cases e : i = n
        · subst e; exact Nat.le_refl _
        · rw [gpk_none n hg i (by omega)] at hb; cases hb
      | some k =>
        rw [hg] at h
        simp only at h
        obtain ⟨i1, i2, i3⟩ := ih k hg
        split at h
        · next q =>
          cases h
          refine ⟨by omega, i2, fun i hi hb => ?_⟩
          by_cases e : i = n
          · subst e; exact q
          · exact i3 i (by omega) hb
        · next q =>
          cases h
          refine ⟨Nat.lt_succ_self n, c, fun i hi hb => ?_⟩
          by_cases e : i = n
          · subst e; exact Nat.le_refl _
          · have := i3 i (by omega) hb; omega
    · rw [if_neg c] at h
      obtain ⟨i1, i2, i3⟩ := ih j h
      refine ⟨by omega, i2, fun i hi hb => ?_⟩
      by_cases e : i = n
      · subst e; exact absurd hb c
      · exact i3 i (by omega) hb
def Gf (sh : Nat → Nat) (n : Nat) : Nat → Nat → Nat
  | 0, _ => 0
  | k + 1, v => match gpk sh v n with
    | none => 0
    | some j => sh j + Gf sh n k (v ^^^ 2 ^ j)
theorem Gf_none {v : Nat} (h : gpk sh v n = none) : ∀ k, Gf sh n k v = 0 := by
  intro k
  cases k with
  | zero => rfl
  | succ k => simp only [Gf]; rw [h]
def gst (sh : Nat → Nat) (n v : Nat) : Nat → Nat × Nat
  | 0 => (v, 0)
  | k + 1 => match gpk sh (gst sh n v k).1 n with
    | none => gst sh n v k
    | some j => ((gst sh n v k).1 ^^^ 2 ^ j, (gst sh n v k).2 + sh j)
theorem gst_Gf (v : Nat) : ∀ k r, Gf sh n (k + r) v = (gst sh n v k).2 + Gf sh n r (gst sh n v k).1 := by
  intro k
  induction k with
  | zero => intro r; rw [Nat.zero_add]; show _ = 0 + _; rw [Nat.zero_add]; rfl
  | succ k ih =>
    intro r
    rw [show k + 1 + r = k + (r + 1) by omega, ih (r + 1)]
    simp only [gst]
    cases hg : gpk sh (gst sh n v k).1 n with
    | none => rw [Gf_none hg, Gf_none hg]
    | some j =>
      simp only [Gf]
      rw [hg]
      show _ + (sh j + _) = _ + sh j + _
      omega
theorem gst_G (v k : Nat) : (gst sh n v k).2 = Gf sh n k v := by
  have := gst_Gf (sh := sh) (n := n) v k 0
  rw [Nat.add_zero] at this
  rw [this]
  rfl
theorem Gf_opt1 : ∀ k v S, (∀ i, i < n → S.testBit i = true → v.testBit i = true) → tbS (fun _ => 1) n S ≤ k → tbS sh n S ≤ Gf sh n k v := by
  intro k
  induction k with
  | zero => intro v S _ hc; rw [tbS_zero (tbS_cnt0 (by omega))]; exact Nat.zero_le _
  | succ k ih =>
    intro v S hs hc
    simp only [Gf]
    cases hg : gpk sh v n with
    | none =>
      rw [tbS_zero]
      · exact Nat.zero_le _
      · intro i hi
        cases c : S.testBit i with
        | false => rfl
        | true => have := hs i hi c; rw [gpk_none n hg i hi] at this; cases this
    | some j =>
      obtain ⟨j1, j2, j3⟩ := gpk_some n j hg
      show _ ≤ sh j + _
      by_cases c : S.testBit j = true
      · rw [tbS_rem j1 c]
        rw [tbS_rem j1 c] at hc
        have := ih (v ^^^ 2 ^ j) (S ^^^ 2 ^ j) (fun i hi h => ?_) (by omega)
        · omega
        · rw [xor_tb] at h ⊢
          by_cases e : j = i
          · subst e; rw [c] at h; simp at h
          · rw [decide_eq_false e] at h ⊢
            have : S.testBit i = true := by simpa using h
            rw [hs i hi this]; rfl
      · by_cases c0 : tbS (fun _ => 1) n S = 0
        · rw [tbS_zero (tbS_cnt0 c0)]; exact Nat.zero_le _
        · obtain ⟨i, hi, hb⟩ : ∃ i, i < n ∧ S.testBit i = true := by
            refine Classical.byContradiction fun q => c0 (tbS_zero fun i hi => ?_)
            cases e : S.testBit i with
            | false => rfl
            | true => exact absurd ⟨i, hi, e⟩ q
          rw [tbS_rem hi hb]
          rw [tbS_rem hi hb] at hc
          have hle := j3 i hi (hs i hi hb)
          have := ih (v ^^^ 2 ^ j) (S ^^^ 2 ^ i) (fun l hl h => ?_) (by omega)
          · omega
          · rw [xor_tb] at h ⊢
            have hS : S.testBit l = true := by
              by_cases e : i = l
              · subst e; rw [hb] at h; simp at h
              · rw [decide_eq_false e] at h; simpa using h
            have hne : ¬ j = l := fun e => by subst e; exact c hS
            rw [decide_eq_false hne, hs l hl hS]; rfl
theorem Gf_opt2 : ∀ k v, ∃ S, (∀ i, i < n → S.testBit i = true → v.testBit i = true) ∧ tbS (fun _ => 1) n S ≤ k ∧ tbS sh n S = Gf sh n k v := by
  intro k
  have z : ∀ f : Nat → Nat, tbS f n 0 = 0 := fun f => tbS_zero fun i _ => Nat.zero_testBit i
  induction k with
  | zero => intro v; exact ⟨0, fun i _ h => (by rw [Nat.zero_testBit] at h; cases h), by rw [z]; exact Nat.le_refl _, z _⟩
  | succ k ih =>
    intro v
    simp only [Gf]
    cases hg : gpk sh v n with
    | none => exact ⟨0, fun i _ h => (by rw [Nat.zero_testBit] at h; cases h), by rw [z]; exact Nat.zero_le _, z _⟩
    | some j =>
      obtain ⟨j1, j2, j3⟩ := gpk_some n j hg
      obtain ⟨S, s1, s2, s3⟩ := ih (v ^^^ 2 ^ j)
      have hSj : S.testBit j = false := by
        cases c : S.testBit j with
        | false => rfl
        | true => have := s1 j j1 c; rw [xor_tb, j2] at this; simp at this
      have hb : (S ^^^ 2 ^ j).testBit j = true := by rw [xor_tb, hSj]; simp
      have hx : S ^^^ 2 ^ j ^^^ 2 ^ j = S := by rw [Nat.xor_assoc, Nat.xor_self, Nat.xor_zero]
      refine ⟨S ^^^ 2 ^ j, fun i hi h => ?_, ?_, ?_⟩
      · by_cases e : j = i
        · subst e; exact j2
        · rw [xor_tb, decide_eq_false e] at h
          have := s1 i hi (by simpa using h)
          rw [xor_tb, decide_eq_false e] at this
          simpa using this
      · rw [tbS_rem j1 hb, hx]; omega
      · rw [tbS_rem j1 hb, hx, s3]
theorem Gf_mono {k k' u v : Nat} (hk : k ≤ k') (h : ∀ i, i < n → u.testBit i = true → v.testBit i = true) : Gf sh n k u ≤ Gf sh n k' v := by
  obtain ⟨S, s1, s2, s3⟩ := Gf_opt2 (sh := sh) (n := n) k u
  rw [← s3]
  exact Gf_opt1 k' v S (fun i hi hb => h i hi (s1 i hi hb)) (by omega)
theorem Gf_take {k v i : Nat} (hi : i < n) (hb : v.testBit i = true) {u : Nat} (hu : ∀ j, j < n → u.testBit j = true → v.testBit j = true ∧ j ≠ i) : sh i + Gf sh n k u ≤ Gf sh n (k + 1) v := by
  obtain ⟨S, s1, s2, s3⟩ := Gf_opt2 (sh := sh) (n := n) k u
  have hSi : S.testBit i = false := by
    cases c : S.testBit i with
    | false => rfl
    | true => exact absurd rfl (hu i hi (s1 i hi c)).2
  have hb2 : (S ^^^ 2 ^ i).testBit i = true := by rw [xor_tb, hSi]; simp
  have hx : S ^^^ 2 ^ i ^^^ 2 ^ i = S := by rw [Nat.xor_assoc, Nat.xor_self, Nat.xor_zero]
  have := Gf_opt1 (sh := sh) (n := n) (k + 1) v (S ^^^ 2 ^ i) (fun j hj h => ?_) (by rw [tbS_rem hi hb2, hx]; omega)
  · rw [tbS_rem hi hb2, hx, s3] at this; exact this
  · by_cases e : i = j
    · subst e; exact hb
    · rw [xor_tb, decide_eq_false e] at h
      exact (hu j hj (s1 j hj (by simpa using h))).1
theorem Gf_le (k v : Nat) : Gf sh n k v ≤ tbS sh n v := by
  obtain ⟨S, s1, s2, s3⟩ := Gf_opt2 (sh := sh) (n := n) k v
  rw [← s3]
  exact tbS_le s1
theorem Gf_all {k v : Nat} (h : tbS (fun _ => 1) n v ≤ k) : Gf sh n k v = tbS sh n v := Nat.le_antisymm (Gf_le k v) (Gf_opt1 k v v (fun _ _ h => h) h)
theorem gst_lt {v N : Nat} (hv : v < 2 ^ N) (hn : n ≤ N) : ∀ k, (gst sh n v k).1 < 2 ^ N := by
  intro k
  induction k with
  | zero => exact hv
  | succ k ih =>
    simp only [gst]
    cases hg : gpk sh (gst sh n v k).1 n with
    | none => exact ih
    | some j => exact Nat.xor_lt_two_pow ih (Nat.pow_lt_pow_right (by decide) (by have := (gpk_some n j hg).1; omega))
theorem gpk_ex {v : Nat} (hv : v < 2 ^ n) (h0 : v ≠ 0) : ∃ j, gpk sh v n = some j := by
  cases hg : gpk sh v n with
  | some j => exact ⟨j, rfl⟩
  | none =>
    exfalso
    apply h0
    apply Nat.eq_of_testBit_eq
    intro i
    rw [Nat.zero_testBit]
    by_cases hi : i < n
    · exact gpk_none n hg i hi
    · exact Nat.testBit_lt_two_pow (Nat.lt_of_lt_of_le hv (Nat.pow_le_pow_right (by decide) (by omega)))
theorem gpk_ext {v a b : Nat} (h : a ≤ b) (hv : v < 2 ^ a) : gpk sh v b = gpk sh v a := by
  obtain ⟨k, rfl⟩ := Nat.le.dest h
  induction k with
  | zero => rfl
  | succ k ih =>
    rw [← Nat.add_assoc]
    simp only [gpk]
    rw [ih (by omega), Nat.testBit_lt_two_pow (Nat.lt_of_lt_of_le hv (Nat.pow_le_pow_right (by decide) (by omega)))]
    rfl
end GR
theorem and_pow (v i : Nat) : v &&& 2 ^ i = if v.testBit i = true then 2 ^ i else 0 := by
  apply Nat.eq_of_testBit_eq
  intro j
  rw [Nat.testBit_and, Nat.testBit_two_pow]
  by_cases e : i = j
  · subst e
    cases v.testBit i <;> simp [Nat.testBit_two_pow]
  · cases v.testBit i <;> simp [Nat.testBit_two_pow, e]
theorem sp_clr {v j : Nat} (hv : v < 2 ^ 31) (hj : j < 31) (hb : v.testBit j = true) : nI v &&& (nI (2 ^ j) ^^^ (-1 : Int32)) = nI (v ^^^ 2 ^ j) := by
  apply Int32.toBitVec_inj.mp
  unfold nI
  apply BitVec.eq_of_getLsbD_eq
  intro i hi
  have hm : (-1 : Int32).toBitVec = BitVec.allOnes 32 := by decide
  simp only [Int32.toBitVec_and, Int32.toBitVec_xor, Int32.toBitVec_ofNat', hm, BitVec.getLsbD_and, BitVec.getLsbD_xor, BitVec.getLsbD_ofNat, BitVec.getLsbD_allOnes, xor_tb, Nat.testBit_two_pow, hi, decide_true, Bool.true_and]
  by_cases e : j = i
  · subst e; rw [hb]; simp
  · simp [e]
theorem sp_xorN (a b : Nat) : nI a ^^^ nI b = nI (a ^^^ b) := by
  unfold nI
  apply Int32.toBitVec_inj.mp
  simp

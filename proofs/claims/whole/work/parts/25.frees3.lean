/-! ===== frees: the least bits; the operation ===== -/
def lbs (sh : Nat → Nat) (n v : Nat) (Z : Int) (K : Nat) : Nat → Nat × Int × Nat
  | 0 => (0, Z, K)
  | s + 1 => if (lbs sh n v Z K s).2.2 ≠ 0 ∧ v.testBit (19 - s) = true ∧ ((Gf sh n (lbs sh n v Z K s).2.2 (v % 2 ^ (19 - s)) : Nat) : Int) < (lbs sh n v Z K s).2.1 then ((lbs sh n v Z K s).1 ||| 2 ^ (19 - s), (lbs sh n v Z K s).2.1 - sh (19 - s), (lbs sh n v Z K s).2.2 - 1) else lbs sh n v Z K s
theorem lbs_z {sh : Nat → Nat} {n v : Nat} {Z : Int} {K s : Nat} (h : (lbs sh n v Z K s).2.2 = 0) : lbs sh n v Z K (s + 1) = lbs sh n v Z K s := by
  simp only [lbs]
  rw [if_neg (fun q => q.1 h)]
theorem tb_mod (v i j : Nat) : (v % 2 ^ i).testBit j = (decide (j < i) && v.testBit j) := Nat.testBit_mod_two_pow v i j
def cn19 (s : Nat) : Int32 := if s < 20 then nI (19 - s) else -1
theorem cn19_s {s : Nat} (h : s < 20) : cn19 s + (-1 : Int32) = cn19 (s + 1) := by
  have : ∀ s, s < 20 → cn19 s + (-1 : Int32) = cn19 (s + 1) := by decide +kernel
  exact this s h
section FREES
variable {dist wl : NT → Nat → Nat → Nat} {N : NT} {w : Nat → Nat} {T L : Nat} {m : lt_m} {vs us : List Int32}
theorem lbs_b (hw : wfL N w) {v : Nat} (hv : v < 2 ^ w 2) {Z : Int} (z1 : -999999 ≤ Z) (z2 : Z ≤ 999999) {K : Nat} : ∀ s, s ≤ 20 → (lbs (fun i => w_sh w i) (w 2) v Z K s).2.2 ≤ K ∧ -999999 * ((s : Int) + 1) ≤ (lbs (fun i => w_sh w i) (w 2) v Z K s).2.1 ∧ (lbs (fun i => w_sh w i) (w 2) v Z K s).2.1 ≤ 999999 := by
  intro s
  induction s with
  | zero => intro _; exact ⟨Nat.le_refl _, by show _ ≤ Z; omega, z2⟩
  | succ s ih =>
    intro hs
    obtain ⟨i1, i2, i3⟩ := ih (by omega)
    simp only [lbs]
    split
    · next q =>
      have hi : 19 - s < w 2 := by
        refine Classical.byContradiction fun c => ?_
        have := q.2.1
        rw [Nat.testBit_lt_two_pow (Nat.lt_of_lt_of_le hv (Nat.pow_le_pow_right (by decide) (by omega)))] at this
        cases this
      have b := w_sh_le hw hi
      refine ⟨by show _ - 1 ≤ K; omega, ?_, ?_⟩
      · show _ ≤ _ - ((w_sh w (19 - s) : Nat) : Int)
        omega
      · show _ - ((w_sh w (19 - s) : Nat) : Int) ≤ _
        omega
    · exact ⟨i1, by omega, i3⟩
/-- leastBitsFreeing -/
theorem k151 (d : Nat) {a0 : Nat} (h0 : ts_sh a0 = (0, 11)) (h : cl N w (a0 + 13) m) (hw : wfL N w) {v K : Nat} (hv : v < 2 ^ w 2) {Z : Int} (z1 : -999999 ≤ Z) (z2 : Z ≤ 999999) (hK : K ≤ 20) : lt_ev (d + 3) 151 [.inr (.inr (some a0)), .inl (nI v), .inl (iZ Z), .inl (nI K)] m = some (some (.inl (nI (lbs (fun i => w_sh w i) (w 2) v Z K 20).1)), m) := by
  have h20 := hw.2.2.1
  have h220 : 2 ^ w 2 ≤ 2 ^ 20 := Nat.pow_le_pow_right (by decide) h20
  have hL : ts_sh (a0 + 13) = (0, 2) := sf_of h0 5 (by decide) (by decide)
  refine (E151 (d + 2) a0 _ _ _ h0 m).trans ?_
  obtain ⟨sh, hsh⟩ : ∃ sh : Nat → Nat, sh = fun i => w_sh w i := ⟨_, rfl⟩
  have hb := fun s => lbs_b hw hv z1 z2 (K := K) s
  rw [← hsh] at hb ⊢
  refine lp_it (F := fun s (o : Option ts_V × Option ts_V) => L151_13 (d + 2) a0 (nI v) (iZ Z) (nI K) (nI (lbs sh (w 2) v Z K s).1) (iZ (lbs sh (w 2) v Z K s).2.1) (nI (lbs sh (w 2) v Z K s).2.2) (cn19 s) o.1 o.2 m) 20 ?_ ?_ (none, none)
  · intro s o hs
    obtain ⟨b1, b2, b3⟩ := hb s (by omega)
    have hcn : cn19 s = nI (19 - s) := if_pos hs
    by_cases cz : (lbs sh (w 2) v Z K s).2.2 = 0
    · refine ⟨o, ?_⟩
      rw [E151_13 _ _ _ _ _ _ _ _ _ _ _ h0, E151_13 _ _ _ _ _ _ _ _ _ _ _ h0, lbs_z cz, cz, hcn, if_neg (nI_pos (by omega)), if_pos (by decide)]
      by_cases c : cn19 (s + 1) < 0
      · rw [if_pos c]
      · rw [if_neg c, if_pos (by decide)]
    · have hgo : ∀ o' (x : Option Nat), v114 m (a0 + 13) (nI (19 - s)) = x → L151_13 (d + 2) a0 (nI v) (iZ Z) (nI K) (nI (lbs sh (w 2) v Z K s).1) (iZ (lbs sh (w 2) v Z K s).2.1) (nI (lbs sh (w 2) v Z K s).2.2) (cn19 s) o.1 o' m = _ := fun o' x hx => by
        rw [E151_13 _ _ _ _ _ _ _ _ _ _ _ h0, hcn, if_neg (nI_pos (by omega)), if_neg (by rw [sp_le0 (by omega)]; omega), p114 d _ _ hL m, lt_cR_s, hx, ← hcn, cn19_s hs]
      rcases c114 h hw (nI (19 - s)) with ⟨i, hi, hei, ex⟩ | ⟨hx, ex⟩
      · have hi2 : 19 - s = i := by
          have := (nI_eq (by omega) (by omega)).mp hei
          exact this
        have hq := sh_mv hL (i := i) (by omega)
        have hp := Nat.pow_lt_pow_right (a := 2) (by decide) (show i < 31 by omega)
        have hp0 : 0 < 2 ^ i := Nat.pow_pos (by decide)
        rw [hgo o.2 _ ex, lt_nl_s, lt_gd_t hq, p65 (d + 1) _ hq m, lt_cI_s, c65 h (by omega), sp_andN, and_pow]
        by_cases c : v.testBit i = true
        · have hvm : v % 2 ^ i < 2 ^ w 2 := Nat.lt_of_le_of_lt (Nat.mod_le _ _) hv
          have hG := G_le hw (lbs sh (w 2) v Z K s).2.2 (v % 2 ^ i)
          rw [← hsh] at hG
          rw [if_pos c, if_pos (by rw [sp_eq0 (by omega)]; omega), p65 (d + 1) _ hq m, lt_cI_s, c65 h (by omega), show nI (2 ^ i) - (1 : Int32) = nI (2 ^ i - 1) from pk_sub hp0, sp_andN, Nat.and_two_pow_sub_one_eq_mod, k150 d hL h hw hvm (by omega), lt_cI_s, ← hsh]
          simp (disch := omega) only [iZ_le]
          refine ⟨(some (.inr (.inr (some (a0 + 13 + 3 + 5 + 3 * i)))), some (.inl (nI (v % 2 ^ i)))), ?_⟩
          by_cases c2 : ((Gf sh (w 2) (lbs sh (w 2) v Z K s).2.2 (v % 2 ^ i) : Nat) : Int) < (lbs sh (w 2) v Z K s).2.1
          · have e : lbs sh (w 2) v Z K (s + 1) = ((lbs sh (w 2) v Z K s).1 ||| 2 ^ i, (lbs sh (w 2) v Z K s).2.1 - sh i, (lbs sh (w 2) v Z K s).2.2 - 1) := by
              simp only [lbs]
              rw [hi2, if_pos ⟨cz, c, c2⟩]
            have hk : (lbs sh (w 2) v Z K s).2.2 = ((lbs sh (w 2) v Z K s).2.2 - 1) + 1 := by omega
            rw [if_neg (by omega), p65 (d + 1) _ hq m, lt_cI_s, c65 h (by omega), sp_orN, (h.2.2.2.2.1 i hi).2.2.2.2.1, e]
            rw [hk, pk_m1, iZ_n (w_sh w i), iZ_sub]
            have e2 : sh i = w_sh w i := by rw [hsh]
            rw [← e2]
            rfl
          · have e : lbs sh (w 2) v Z K (s + 1) = lbs sh (w 2) v Z K s := by
              simp only [lbs]
              rw [hi2, if_neg (fun q => c2 q.2.2)]
            rw [if_pos (by omega), e]
        · have e : lbs sh (w 2) v Z K (s + 1) = lbs sh (w 2) v Z K s := by
            simp only [lbs]
            rw [hi2, if_neg (fun q => c q.2.1)]
          refine ⟨(some (.inr (.inr (some (a0 + 13 + 3 + 5 + 3 * i)))), o.2), ?_⟩
          rw [if_neg c, if_neg (by decide), e]
      · have c : v.testBit (19 - s) = false := by
          refine Nat.testBit_lt_two_pow (Nat.lt_of_lt_of_le hv (Nat.pow_le_pow_right (by decide) ?_))
          rcases hx with hx | hx
          · exact absurd hx (nI_pos (by omega))
          · exact (nI_leI (by omega) (by omega)).mp hx
        have e : lbs sh (w 2) v Z K (s + 1) = lbs sh (w 2) v Z K s := by
          simp only [lbs]
          rw [if_neg (fun q => by rw [c] at q; exact absurd q.2.1 (by decide))]
        refine ⟨(some (.inr (.inr none)), o.2), ?_⟩
        rw [hgo o.2 _ ex, lt_nl_n, e]
  · intro o
    rw [E151_13 _ _ _ _ _ _ _ _ _ _ _ h0, if_pos (by decide)]
/-- the reference's least bits -/
theorem m257_c (d : Nat) {a : Nat} (h0 : ts_sh a = (0, 12)) (h : ml N w a m) (hw : wfL N w) {v K : Nat} (hv : v < 2 ^ w 2) {Z : Int} (z1 : -999999 ≤ Z) (z2 : Z ≤ 999999) (hK : K ≤ 20) (h2 : ∀ k, k < K → ((Gf (fun i => w_sh w i) (w 2) k v : Nat) : Int) < Z) (x1 x2 x5 : Int32) : L257_94 (d + 2) a x1 x2 (iZ Z) (nI v) x5 0 (nI K) 19 m = lt_cV (lt_ev (d + 2) 202 [.inr (.inr (some a)), .inr (.inl (nI (lbs (fun i => w_sh w i) (w 2) v Z K 20).1).toInt64)] (lm_i m a 14 0)) (fun m1 => some (some (.inl x5), m1)) := by
  have h20 := hw.2.2.1
  have h220 : 2 ^ w 2 ≤ 2 ^ 20 := Nat.pow_le_pow_right (by decide) h20
  obtain ⟨sh, hsh⟩ : ∃ sh : Nat → Nat, sh = fun i => w_sh w i := ⟨_, rfl⟩
  have hb := fun s => lbs_b hw hv z1 z2 (K := K) s
  rw [← hsh] at hb h2 ⊢
  -- what is missing is not to be had with one fewer
  have inv : ∀ s, s ≤ 20 → (lbs sh (w 2) v Z K s).2.2 ≠ 0 → ((Gf sh (w 2) ((lbs sh (w 2) v Z K s).2.2 - 1) (v % 2 ^ (20 - s)) : Nat) : Int) < (lbs sh (w 2) v Z K s).2.1 := by
    intro s
    induction s with
    | zero =>
      intro _ hk
      have hk : K ≠ 0 := hk
      have hm : v % 2 ^ (20 - 0) = v := Nat.mod_eq_of_lt (Nat.lt_of_lt_of_le hv h220)
      rw [hm]
      exact h2 (K - 1) (by omega)
    | succ s ih =>
      intro hs hk
      have sub : ∀ j, j < w 2 → (v % 2 ^ (20 - (s + 1))).testBit j = true → (v % 2 ^ (20 - s)).testBit j = true ∧ j ≠ 19 - s := by
        intro j hj hb
        rw [tb_mod] at hb ⊢
        simp only [Bool.and_eq_true, decide_eq_true_eq] at hb ⊢
        exact ⟨⟨by omega, hb.2⟩, by omega⟩
      simp only [lbs] at hk ⊢
      by_cases q : (lbs sh (w 2) v Z K s).2.2 ≠ 0 ∧ v.testBit (19 - s) = true ∧ ((Gf sh (w 2) (lbs sh (w 2) v Z K s).2.2 (v % 2 ^ (19 - s)) : Nat) : Int) < (lbs sh (w 2) v Z K s).2.1
      · rw [if_pos q] at hk ⊢
        have hk : (lbs sh (w 2) v Z K s).2.2 - 1 ≠ 0 := hk
        have i1 := ih (by omega) q.1
        have hi : 19 - s < w 2 := by
          refine Classical.byContradiction fun c => ?_
          have := q.2.1
          rw [Nat.testBit_lt_two_pow (Nat.lt_of_lt_of_le hv (Nat.pow_le_pow_right (by decide) (by omega)))] at this
          cases this
        have ht := Gf_take (sh := sh) (n := w 2) (k := (lbs sh (w 2) v Z K s).2.2 - 1 - 1) hi (v := v % 2 ^ (20 - s)) (by rw [tb_mod]; simp only [Bool.and_eq_true, decide_eq_true_eq]; exact ⟨by omega, q.2.1⟩) sub
        rw [show (lbs sh (w 2) v Z K s).2.2 - 1 - 1 + 1 = (lbs sh (w 2) v Z K s).2.2 - 1 by omega] at ht
        show ((Gf sh (w 2) ((lbs sh (w 2) v Z K s).2.2 - 1 - 1) (v % 2 ^ (20 - (s + 1))) : Nat) : Int) < (lbs sh (w 2) v Z K s).2.1 - sh (19 - s)
        omega
      · rw [if_neg q] at hk ⊢
        have i1 := ih (by omega) hk
        have := Gf_mono (sh := sh) (n := w 2) (Nat.le_refl ((lbs sh (w 2) v Z K s).2.2 - 1)) (u := v % 2 ^ (20 - (s + 1))) (v := v % 2 ^ (20 - s)) (fun j hj hb => (sub j hj hb).1)
        omega
  have e20 : (19 : Int32) = cn19 0 := by decide
  have ev0 : v = v % 2 ^ (20 - 0) := (Nat.mod_eq_of_lt (Nat.lt_of_lt_of_le hv h220)).symm
  rw [e20]
  have key := lp_it (F := fun s (_ : Unit) => L257_94 (d + 2) a x1 x2 (iZ (lbs sh (w 2) v Z K s).2.1) (nI (v % 2 ^ (20 - s))) x5 (nI (lbs sh (w 2) v Z K s).1) (nI (lbs sh (w 2) v Z K s).2.2) (cn19 s) m) (K := lt_cV (lt_ev (d + 2) 202 [.inr (.inr (some a)), .inr (.inl (nI (lbs sh (w 2) v Z K 20).1).toInt64)] (lm_i m a 14 0)) (fun m1 => some (some (.inl x5), m1))) 20 ?_ ?_ ()
  · have key : L257_94 (d + 2) a x1 x2 (iZ Z) (nI (v % 2 ^ (20 - 0))) x5 0 (nI K) (cn19 0) m = _ := key
    rw [← ev0] at key
    exact key
  · intro s o hs
    refine ⟨(), ?_⟩
    obtain ⟨b1, b2, b3⟩ := hb s (by omega)
    have hcn : cn19 s = nI (19 - s) := if_pos hs
    have hvm : v % 2 ^ (20 - s) < 2 ^ w 2 := Nat.lt_of_le_of_lt (Nat.mod_le _ _) hv
    by_cases cz : (lbs sh (w 2) v Z K s).2.2 = 0
    · rw [E257_94 _ _ _ _ _ _ _ _ _ _ h0, E257_94 _ _ _ _ _ _ _ _ _ _ h0, lbs_z cz, cz, hcn, if_neg (nI_pos (by omega)), if_pos (by decide)]
      by_cases c : cn19 (s + 1) < 0
      · rw [if_pos c]
      · rw [if_neg c, if_pos (by decide)]
    · have htb : (v % 2 ^ (20 - s)).testBit (19 - s) = v.testBit (19 - s) := by
        rw [tb_mod, decide_eq_true (by omega : 19 - s < 20 - s), Bool.true_and]
      rw [E257_94 _ _ _ _ _ _ _ _ _ _ h0, hcn, if_neg (nI_pos (by omega)), if_neg (by rw [sp_le0 (by omega)]; omega), m207 (d + 1) (by omega) (by omega), lt_cI_s, htb]
      by_cases c : v.testBit (19 - s) = true
      · have hi : 19 - s < w 2 := by
          refine Classical.byContradiction fun c2 => ?_
          rw [Nat.testBit_lt_two_pow (Nat.lt_of_lt_of_le hv (Nat.pow_le_pow_right (by decide) (by omega)))] at c
          cases c
        have hx : (v % 2 ^ (20 - s)) ^^^ 2 ^ (19 - s) = v % 2 ^ (19 - s) := by
          apply Nat.eq_of_testBit_eq
          intro j
          rw [xor_tb, tb_mod, tb_mod]
          by_cases e1 : 19 - s = j
          · subst e1
            rw [c, decide_eq_true (by omega : 19 - s < 20 - s), decide_eq_false (by omega : ¬ 19 - s < 19 - s)]
            simp
          · rw [decide_eq_false e1, show decide (j < 20 - s) = decide (j < 19 - s) from decide_eq_decide.mpr (by omega)]
            simp
        have hvm2 : v % 2 ^ (19 - s) < 2 ^ w 2 := Nat.lt_of_le_of_lt (Nat.mod_le _ _) hv
        have hG := G_le hw (lbs sh (w 2) v Z K s).2.2 (v % 2 ^ (19 - s))
        rw [← hsh] at hG
        have hpc := pcN_tbS (v := v % 2 ^ (19 - s)) hvm2 (by omega)
        have hpb : tbS (fun _ => 1) (w 2) (v % 2 ^ (19 - s)) ≤ 20 := by
          have := sumN_bound (n := w 2) (c := 1) (f := fun i => if (v % 2 ^ (19 - s)).testBit i = true then 1 else 0) (fun i hi => by split <;> omega)
          unfold tbS
          exact Nat.le_trans this (by omega)
        have tk : ((Gf sh (w 2) (lbs sh (w 2) v Z K s).2.2 (v % 2 ^ (19 - s)) : Nat) : Int) < (lbs sh (w 2) v Z K s).2.1 → L257_151 (d + 2) a x1 x2 (iZ (lbs sh (w 2) v Z K s).2.1) (nI (v % 2 ^ (19 - s))) x5 (nI (lbs sh (w 2) v Z K s).1) (nI (lbs sh (w 2) v Z K s).2.2) (nI (19 - s)) m = L257_94 (d + 2) a x1 x2 (iZ (lbs sh (w 2) v Z K (s + 1)).2.1) (nI (v % 2 ^ (20 - (s + 1)))) x5 (nI (lbs sh (w 2) v Z K (s + 1)).1) (nI (lbs sh (w 2) v Z K (s + 1)).2.2) (cn19 (s + 1)) m := by
          intro q
          have e : lbs sh (w 2) v Z K (s + 1) = ((lbs sh (w 2) v Z K s).1 ||| 2 ^ (19 - s), (lbs sh (w 2) v Z K s).2.1 - sh (19 - s), (lbs sh (w 2) v Z K s).2.2 - 1) := by
            simp only [lbs]
            rw [if_pos ⟨cz, c, q⟩]
          have hk : (lbs sh (w 2) v Z K s).2.2 = ((lbs sh (w 2) v Z K s).2.2 - 1) + 1 := by omega
          have e2 : sh (19 - s) = w_sh w (19 - s) := by rw [hsh]
          rw [E257_151 _ _ _ _ _ _ _ _ _ _ h0, m198_sh (d + 1) h0 h (by omega), lt_cI_s, sp_bit (by omega), sp_orN, ← hcn, cn19_s hs, e, show 20 - (s + 1) = 19 - s by omega, ← e2]
          rw [hk, pk_m1, iZ_n (sh (19 - s)), iZ_sub]
          rfl
        rw [show (if v.testBit (19 - s) = true then (1 : Int32) else 0) = 1 from if_pos c, if_pos (by decide), sp_bit (by omega), sp_xorN, hx, m206 (d + 1) (by omega), lt_cI_s, hpc]
        simp (disch := omega) only [sp_ltn]
        by_cases c1 : tbS (fun _ => 1) (w 2) (v % 2 ^ (19 - s)) < (lbs sh (w 2) v Z K s).2.2
        · rw [if_pos c1]
          refine tk ?_
          have i1 := inv s (by omega) cz
          have g1 := Gf_all (sh := sh) (n := w 2) (k := (lbs sh (w 2) v Z K s).2.2) (v := v % 2 ^ (19 - s)) (by omega)
          have g2 := Gf_all (sh := sh) (n := w 2) (k := (lbs sh (w 2) v Z K s).2.2 - 1) (v := v % 2 ^ (19 - s)) (by omega)
          have g3 := Gf_mono (sh := sh) (n := w 2) (Nat.le_refl ((lbs sh (w 2) v Z K s).2.2 - 1)) (u := v % 2 ^ (19 - s)) (v := v % 2 ^ (20 - s)) (fun j hj hb => by
            rw [tb_mod] at hb ⊢
            simp only [Bool.and_eq_true, decide_eq_true_eq] at hb ⊢
            exact ⟨by omega, hb.2⟩)
          omega
        · rw [if_neg c1, m259 d h0 h hw hvm2 (by omega), lt_cI_s, ← hsh]
          simp (disch := omega) only [iZ_lt]
          by_cases c2 : ((Gf sh (w 2) (lbs sh (w 2) v Z K s).2.2 (v % 2 ^ (19 - s)) : Nat) : Int) < (lbs sh (w 2) v Z K s).2.1
          · rw [if_pos c2]
            exact tk c2
          · have e : lbs sh (w 2) v Z K (s + 1) = lbs sh (w 2) v Z K s := by
              simp only [lbs]
              rw [if_neg (fun q => c2 q.2.2)]
            rw [if_neg c2, ← hcn, cn19_s hs, e, show 20 - (s + 1) = 19 - s by omega]
      · have e : lbs sh (w 2) v Z K (s + 1) = lbs sh (w 2) v Z K s := by
          simp only [lbs]
          rw [if_neg (fun q => c q.2.1)]
        have hx : v % 2 ^ (20 - s) = v % 2 ^ (20 - (s + 1)) := by
          apply Nat.eq_of_testBit_eq
          intro j
          rw [tb_mod, tb_mod]
          by_cases e1 : 19 - s = j
          · subst e1
            rw [show v.testBit (19 - s) = false by simpa using c]
            simp
          · rw [show decide (j < 20 - s) = decide (j < 20 - (s + 1)) from decide_eq_decide.mpr (by omega)]
        rw [show (if v.testBit (19 - s) = true then (1 : Int32) else 0) = 0 from if_neg c, if_neg (by decide), ← hcn, cn19_s hs, e, hx]
  · intro o
    rw [E257_94 _ _ _ _ _ _ _ _ _ _ h0, if_pos (by decide)]
/-- a sum: 0 to 999999 -/
theorem k79 (d : Nat) (x : Int32) (m : lt_m) : (∃ s, s ≤ 999999 ∧ x = nI s ∧ lt_ev (d + 1) 79 [.inl x] m = some (some (.inl 1), m)) ∨ ((x < 0 ∨ nI 1000000 ≤ x) ∧ lt_ev (d + 1) 79 [.inl x] m = some (some (.inl 0), m)) := by
  rcases pk_ix x (n := 1000000) (by decide) with c | c | ⟨s, hs, rfl⟩
  · exact Or.inr ⟨Or.inl c, (E79 d _ m).trans (if_pos c)⟩
  · refine Or.inr ⟨Or.inr c, (E79 d _ m).trans ?_⟩
    have h1 : (nI 1000000).toInt = 1000000 := by decide
    have h2 : (999999 : Int32).toInt = 999999 := by decide
    rw [Int32.le_iff_toInt_le, h1] at c
    rw [if_neg (by rw [Int32.lt_iff_toInt_lt, Int32.toInt_zero]; omega), if_pos (by rw [Int32.lt_iff_toInt_lt, h2]; omega)]
  · refine Or.inl ⟨s, by omega, rfl, (E79 d _ m).trans ?_⟩
    rw [if_neg (nI_pos (by omega)), if_neg (by rw [show (999999 : Int32) = nI 999999 from rfl, sp_ltn (by omega) (by omega)]; omega)]
theorem m258_t (d : Nat) {s : Nat} (hs : s ≤ 999999) (m : lt_m) : lt_ev (d + 2) 258 [.inl (nI s)] m = some (some (.inl 1), m) := by
  refine (E258 (d + 1) _ m).trans ?_
  rw [m181_t d (n := 999999) hs (by decide) (by decide), lt_cI_s, lt_gd_t (by decide)]
theorem m258_f (d : Nat) {x : Int32} (hx : x < 0 ∨ nI 1000000 ≤ x) (m : lt_m) : lt_ev (d + 2) 258 [.inl x] m = some (some (.inl 0), m) := by
  refine (E258 (d + 1) _ m).trans ?_
  rw [m181_f d (n := 999999) (by decide) hx (by decide), lt_cI_s, lt_gd_t (by decide)]
/-- frees -/
theorem op_frees (d : Nat) (hr : RR dist wl T m) (x y : Int32) : OP dist wl d T T 148 257 [.inl x, .inl y] m := by
  have hr0 := hr
  obtain ⟨N, w, vs, hs, hl, hc, hm⟩ := hr
  have hw := hs.wfL
  have h20 := hw.2.2.1
  have h6 := hw.2.1
  rcases c90 hs.cl hw x with ⟨t, ht, rfl, e⟩ | ⟨hx, e⟩
  · rcases k79 (d + 28) y m with ⟨s, hsb, rfl, ey⟩ | ⟨hy, ey⟩
    · obtain ⟨F, hF⟩ : ∃ F, F = w (4 + 2 * t) - w_used w t := ⟨_, rfl⟩
      have bF : F ≤ 999999 := by have := (hw.2.2.2.2.1 t ht).1; omega
      obtain ⟨v, hv⟩ : ∃ v, v = w_openSet w t := ⟨_, rfl⟩
      have bv : v < 2 ^ w 2 := by rw [hv]; exact bitsN_lt _ _
      have h220 : 2 ^ w 2 ≤ 2 ^ 20 := Nat.pow_le_pow_right (by decide) h20
      obtain ⟨Z, hZ⟩ : ∃ Z : Int, Z = (s : Int) - F := ⟨_, rfl⟩
      have z1 : -999999 ≤ Z := by omega
      have z2 : Z ≤ 999999 := by omega
      have hsub : nI s - nI F = iZ Z := by rw [iZ_n, iZ_n, iZ_sub, hZ]
      have hcl : lt_ev (d + 30) 148 [.inr (.inr (some 0)), .inl (nI t), .inl (nI s)] m = _ := E148 (d + 29) 0 _ _ sx m
      rw [p90 (d + 28) _ _ sL m, lt_cI_s, e, if_neg (by decide), ey, lt_cI_s, if_pos (by decide), k96 (d + 26) sL hs.cl hw ht, lt_cI_s, ← hF, hsub, k97 (d + 27) sL hs.cl hw (by omega), lt_cI_s, ← hv] at hcl
      have hcnt : tbS (fun _ => 1) (w 2) v ≤ 20 := by
        have := sumN_bound (n := w 2) (c := 1) (f := fun i => if v.testBit i = true then 1 else 0) (fun i hi => by split <;> omega)
        unfold tbS
        exact Nat.le_trans this (by omega)
      have hpc := pcN_tbS (v := v) bv (by omega)
      have hml : ∀ M, RS dist wl N w T M → lt_ev (d + 30) 257 [.inr (.inr (some 711)), .inl (nI t), .inl (nI s)] M = L257_40 (d + 29) 711 (nI t) (nI s) (iZ Z) (nI v) (nI 0) (lm_i M 711 15 0) := by
        intro M hM
        refine (E257 (d + 29) 711 _ _ sy M).trans ?_
        rw [m213 (d + 27) sy hM.t0.ml hw, lt_cI_s, sp_i1 ht (by omega), if_neg (by decide), m258_t (d + 27) hsb, lt_cI_s, if_pos (by decide), m219 (d + 24) sy hM.t0.ml hw ht, lt_cI_s, ← hF, hsub, m220 (d + 25) sy hM.t0.ml hw (by omega), lt_cI_s, ← hv]
        rfl
      have hstep : ∀ M, RS dist wl N w T M → ∀ k, k < tbS (fun _ => 1) (w 2) v → ((Gf (fun i => w_sh w i) (w 2) k v : Nat) : Int) < Z → L257_40 (d + 29) 711 (nI t) (nI s) (iZ Z) (nI v) (nI k) (lm_i M 711 15 0) = L257_40 (d + 29) 711 (nI t) (nI s) (iZ Z) (nI v) (nI (k + 1)) (lm_i M 711 15 0) := by
        intro M hM k hk hz
        have hG := G_le hw k v
        rw [E257_40 _ _ _ _ _ _ _ sy, m206 (d + 28) (by omega), lt_cI_s, hpc]
        simp (disch := omega) only [sp_len]
        rw [if_neg (by omega), m259 (d + 27) sy hM.t0.ml hw bv (by omega), lt_cI_s]
        simp (disch := omega) only [iZ_le]
        rw [if_neg (by omega), nI_1]
      by_cases hex : ∃ k, Z ≤ ((Gf (fun i => w_sh w i) (w 2) k v : Nat) : Int)
      · obtain ⟨K, hK1, hK2⟩ := pk_least _ hex
        have hlt : ∀ k, k < K → ((Gf (fun i => w_sh w i) (w 2) k v : Nat) : Int) < Z := fun k hk => by have := hK2 k hk; omega
        have hKc : K ≤ tbS (fun _ => 1) (w 2) v := by
          refine Classical.byContradiction fun q => ?_
          have g1 := Gf_all (sh := fun i => w_sh w i) (n := w 2) (k := K) (v := v) (by omega)
          have g2 := Gf_all (sh := fun i => w_sh w i) (n := w 2) (k := tbS (fun _ => 1) (w 2) v) (v := v) (Nat.le_refl _)
          have := hlt (tbS (fun _ => 1) (w 2) v) (by omega)
          omega
        obtain ⟨M2, R1, e2, hs2, hz, f1, hz1, hR⟩ := tell1 hs (nI (lbs (fun i => w_sh w i) (w 2) v Z K 20).1)
        have hGK := G_le hw K v
        refine ⟨.inl (nI K), M2, R1, hcl.trans ?_, (hml M2 hs2).trans ?_, hR⟩
        · rw [k149 (d + 26) sx hs.cl hw bv (by omega) (by omega) (by omega) hK1 hlt, lt_cI_s, if_pos (by rw [sp_m1 (by omega)]; exact id), k151 (d + 26) sx hs.cl hw bv z1 z2 (by omega), lt_cI_s, e2, lt_cV_s]
        · have go : L257_40 (d + 29) 711 (nI t) (nI s) (iZ Z) (nI v) (nI 0) (lm_i M2 711 15 0) = L257_40 (d + 29) 711 (nI t) (nI s) (iZ Z) (nI v) (nI K) (lm_i M2 711 15 0) := lp_it (F := fun k (_ : Unit) => L257_40 (d + 29) 711 (nI t) (nI s) (iZ Z) (nI v) (nI k) (lm_i M2 711 15 0)) K (fun k _ hk => ⟨(), hstep M2 hs2 k (by omega) (hlt k hk)⟩) (fun _ => rfl) ()
          have h68 : L257_68 (d + 29) 711 (nI t) (nI s) (iZ Z) (nI v) (nI K) (lm_i M2 711 15 0) = some (some (.inl (nI K)), R1) := by
            rw [E257_68 _ _ _ _ _ _ _ sy, m259 (d + 27) sy hs2.t0.ml hw bv (by omega), lt_cI_s]
            simp (disch := omega) only [iZ_le]
            rw [if_pos hK1, m257_c (d + 27) sy hs2.t0.ml hw bv z1 z2 (by omega) hlt, f1, lt_cV_s]
          rw [go, E257_40 _ _ _ _ _ _ _ sy, m206 (d + 28) (by omega), lt_cI_s, hpc]
          simp (disch := omega) only [sp_len]
          by_cases cc : tbS (fun _ => 1) (w 2) v ≤ K
          · rw [if_pos cc, h68]
          · rw [if_neg cc, m259 (d + 27) sy hs2.t0.ml hw bv (by omega), lt_cI_s]
            simp (disch := omega) only [iZ_le]
            rw [if_pos hK1, h68]
      · have hno : ∀ k, ((Gf (fun i => w_sh w i) (w 2) k v : Nat) : Int) < Z := fun k => by
          refine Classical.byContradiction fun q => hex ⟨k, by omega⟩
        refine OP_q (.inl (-2)) hr0 (hcl.trans ?_) ((hml m hs).trans ?_)
        · rw [k149n (d + 26) sx hs.cl hw bv (by omega) (by omega) (fun k _ => hno k), lt_cI_s, if_neg (by decide)]
        · have go : L257_40 (d + 29) 711 (nI t) (nI s) (iZ Z) (nI v) (nI 0) (lm_i m 711 15 0) = L257_40 (d + 29) 711 (nI t) (nI s) (iZ Z) (nI v) (nI (tbS (fun _ => 1) (w 2) v)) (lm_i m 711 15 0) := lp_it (F := fun k (_ : Unit) => L257_40 (d + 29) 711 (nI t) (nI s) (iZ Z) (nI v) (nI k) (lm_i m 711 15 0)) (tbS (fun _ => 1) (w 2) v) (fun k _ hk => ⟨(), hstep m hs k hk (hno k)⟩) (fun _ => rfl) ()
          have hG := G_le hw (tbS (fun _ => 1) (w 2) v) v
          have := hno (tbS (fun _ => 1) (w 2) v)
          rw [go, E257_40 _ _ _ _ _ _ _ sy, m206 (d + 28) (by omega), lt_cI_s, hpc, if_pos (by rw [sp_len (by omega) (by omega)]; exact Nat.le_refl _), E257_68 _ _ _ _ _ _ _ sy, m259 (d + 27) sy hs.t0.ml hw bv (by omega), lt_cI_s]
          simp (disch := omega) only [iZ_le]
          rw [if_neg (by omega)]
    · refine OP_q (.inl (-1)) hr0 ?_ ?_
      · refine (E148 (d + 29) 0 _ _ sx m).trans ?_
        rw [p90 (d + 28) _ _ sL m, lt_cI_s, e, if_neg (by decide), ey, lt_cI_s, if_neg (by decide)]
      · refine (E257 (d + 29) 711 _ _ sy m).trans ?_
        rw [m213 (d + 27) sy hs.t0.ml hw, lt_cI_s, sp_i1 ht (by omega), if_neg (by decide), m258_f (d + 27) hy, lt_cI_s, if_neg (by decide)]
  · refine OP_q (.inl (-1)) hr0 ?_ ?_
    · refine (E148 (d + 29) 0 _ _ sx m).trans ?_
      rw [p90 (d + 28) _ _ sL m, lt_cI_s, e, if_pos (by decide)]
    · refine (E257 (d + 29) 711 _ _ sy m).trans ?_
      rw [m213 (d + 27) sy hs.t0.ml hw, lt_cI_s, sp_i0 (by omega) hx, if_pos (by decide)]
end FREES

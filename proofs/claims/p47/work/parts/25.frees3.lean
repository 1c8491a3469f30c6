/-! ===== frees: the least bits; the operation ===== -/
def lbs (sh : Nat → Nat) (n v : Nat) (Z : Int) (K : Nat) : Nat → Nat × Int × Nat
  | 0 => (0, Z, K)
  | s + 1 => if (lbs sh n v Z K s).2.2 ≠ 0 ∧ v.testBit (19 - s) = true ∧ ((Gf sh n (lbs sh n v Z K s).2.2 (v % 2 ^ (19 - s)) : Nat) : Int) < (lbs sh n v Z K s).2.1 then ((lbs sh n v Z K s).1 ||| 2 ^ (19 - s), (lbs sh n v Z K s).2.1 - sh (19 - s), (lbs sh n v Z K s).2.2 - 1) else lbs sh n v Z K s
theorem lbs_z {sh : Nat → Nat} {n v : Nat} {Z : Int} {K s : Nat} (h : (lbs sh n v Z K s).2.2 = 0) : lbs sh n v Z K (s + 1) = lbs sh n v Z K s := by
  simp only [lbs]
  rw [if_neg (fun q => q.1 h)]
theorem tb_mod (v i j : Nat) : (v % 2 ^ i).testBit j = (decide (j < i) && v.testBit j) := Nat.testBit_mod_two_pow v i j
def cn19 (s : Nat) : Int32 := if s < 20 then nI (19 - s) else -1
theorem cn19_s {s : Nat} (h : s < 20) : cn19 s + (-1 : Int32) = cn19 (s + 1) := by
  have : ∀ s, s < 20 → cn19 s + (-1 : Int32) = cn19 (s + 1) := by decide +kernel
  exact this s h
section FREES
variable {dist wl : NT → Nat → Nat → Nat} {N : NT} {w : Nat → Nat} {T L : Nat} {m : lt_m} {vs us : List Int32}
theorem lbs_b (hw : wfL N w) {v : Nat} (hv : v < 2 ^ w 2) {Z : Int} (z1 : -999999 ≤ Z) (z2 : Z ≤ 999999) {K : Nat} : ∀ s, s ≤ 20 → (lbs (fun i => w_sh w i) (w 2) v Z K s).2.2 ≤ K ∧ -999999 * ((s : Int) + 1) ≤ (lbs (fun i => w_sh w i) (w 2) v Z K s).2.1 ∧ (lbs (fun i => w_sh w i) (w 2) v Z K s).2.1 ≤ 999999 := by
  intro s
  induction s with
  | zero => intro _; exact ⟨Nat.le_refl _, by show _ ≤ Z; omega, z2⟩
  | succ s ih =>
    intro hs
    obtain ⟨i1, i2, i3⟩ := ih (by omega)
    simp only [lbs]
    split
    · next q =>
      have hi : 19 - s < w 2 := by
        refine Classical.byContradiction fun c => ?_
        have := q.2.1
        rw [Nat.testBit_lt_two_pow (Nat.lt_of_lt_of_le hv (Nat.pow_le_pow_right (by decide) (by omega)))] at this
        cases this
      have b := w_sh_le hw hi
      refine ⟨by show _ - 1 ≤ K; omega, ?_, ?_⟩
      · show _ ≤ _ - ((w_sh w (19 - s) : Nat) : Int)
        omega
      · show _ - ((w_sh w (19 - s) : Nat) : Int) ≤ _
        omega
    · exact ⟨i1, by omega, i3⟩
/-- leastBitsFreeing -/
theorem k151 (d : Nat) {a0 : Nat} (h0 : ts_sh a0 = (0, 11)) (h : cl N w (a0 + 13) m) (hw : wfL N w) {v K : Nat} (hv : v < 2 ^ w 2) {Z : Int} (z1 : -999999 ≤ Z) (z2 : Z ≤ 999999) (hK : K ≤ 20) : lt_ev (d + 3) 151 [.inr (.inr (some a0)), .inl (nI v), .inl (iZ Z), .inl (nI K)] m = some (some (.inl (nI (lbs (fun i => w_sh w i) (w 2) v Z K 20).1)), m) := by
  have h20 := hw.2.2.1
  have h220 : 2 ^ w 2 ≤ 2 ^ 20 := Nat.pow_le_pow_right (by decide) h20
  have hL : ts_sh (a0 + 13) = (0, 2) := sf_of h0 5 (by decide) (by decide)
  refine (E151 (d + 2) a0 _ _ _ h0 m).trans ?_
  obtain ⟨sh, hsh⟩ : ∃ sh : Nat → Nat, sh = fun i => w_sh w i := ⟨_, rfl⟩
  have hb := fun s => lbs_b hw hv z1 z2 (K := K) s
  rw [← hsh] at hb ⊢
  refine lp_it (F := fun s (o : Option ts_V × Option ts_V) => L151_13 (d + 2) a0 (nI v) (iZ Z) (nI K) (nI (lbs sh (w 2) v Z K s).1) (iZ (lbs sh (w 2) v Z K s).2.1) (nI (lbs sh (w 2) v Z K s).2.2) (cn19 s) o.1 o.2 m) 20 ?_ ?_ (none, none)
  · intro s o hs
    obtain ⟨b1, b2, b3⟩ := hb s (by omega)
    have hcn : cn19 s = nI (19 - s) := if_pos hs
    by_cases cz : (lbs sh (w 2) v Z K s).2.2 = 0
    · refine ⟨o, ?_⟩
      rw [E151_13 _ _ _ _ _ _ _ _ _ _ _ h0, E151_13 _ _ _ _ _ _ _ _ _ _ _ h0, lbs_z cz, cz, hcn, if_neg (nI_pos (by omega)), if_pos (by decide)]
      by_cases c : cn19 (s + 1) < 0
      · rw [if_pos c]
      · rw [if_neg c, if_pos (by decide)]
    · have hgo : ∀ o' (x : Option Nat), v114 m (a0 + 13) (nI (19 - s)) = x → L151_13 (d + 2) a0 (nI v) (iZ Z) (nI K) (nI (lbs sh (w 2) v Z K s).1) (iZ (lbs sh (w 2) v Z K s).2.1) (nI (lbs sh (w 2) v Z K s).2.2) (cn19 s) o.1 o' m = _ := fun o' x hx => by
        rw [E151_13 _ _ _ _ _ _ _ _ _ _ _ h0, hcn, if_neg (nI_pos (by omega)), if_neg (by rw [sp_le0 (by omega)]; omega), p114 d _ _ hL m, lt_cR_s, hx, ← hcn, cn19_s hs]
      rcases c114 h hw (nI (19 - s)) with ⟨i, hi, hei, ex⟩ | ⟨hx, ex⟩
      · have hi2 : 19 - s = i := by
          have := (nI_eq (by omega) (by omega)).mp hei
          exact this
        have hq := sh_mv hL (i := i) (by omega)
        have hp := Nat.pow_lt_pow_right (a := 2) (by decide) (show i < 31 by omega)
        have hp0 : 0 < 2 ^ i := Nat.pow_pos (by decide)
        rw [hgo o.2 _ ex, lt_nl_s, lt_gd_t hq, p65 (d + 1) _ hq m, lt_cI_s, c65 h (by omega), sp_andN, and_pow]
        by_cases c : v.testBit i = true
        · have hvm : v % 2 ^ i < 2 ^ w 2 := Nat.lt_of_le_of_lt (Nat.mod_le _ _) hv
          have hG := G_le hw (lbs sh (w 2) v Z K s).2.2 (v % 2 ^ i)
          rw [← hsh] at hG
          rw [if_pos c, if_pos (by rw [sp_eq0 (by omega)]; omega), p65 (d + 1) _ hq m, lt_cI_s, c65 h (by omega), show nI (2 ^ i) - (1 : Int32) = nI (2 ^ i - 1) from pk_sub hp0, sp_andN, Nat.and_two_pow_sub_one_eq_mod, k150 d hL h hw hvm (by omega), lt_cI_s, ← hsh]
          simp (disch := omega) only [iZ_le]
          refine ⟨(some (.inr (.inr (some (a0 + 13 + 3 + 5 + 3 * i)))), some (.inl (nI (v % 2 ^ i)))), ?_⟩
          by_cases c2 : ((Gf sh (w 2) (lbs sh (w 2) v Z K s).2.2 (v % 2 ^ i) : Nat) : Int) < (lbs sh (w 2) v Z K s).2.1
          · have e : lbs sh (w 2) v Z K (s + 1) = ((lbs sh (w 2) v Z K s).1 ||| 2 ^ i, (lbs sh (w 2) v Z K s).2.1 - sh i, (lbs sh (w 2) v Z K s).2.2 - 1) := by
              simp only [lbs]
              rw [hi2, if_pos ⟨cz, c, c2⟩]
            have hk : (lbs sh (w 2) v Z K s).2.2 = ((lbs sh (w 2) v Z K s).2.2 - 1) + 1 := by omega
            rw [if_neg (by omega), p65 (d + 1) _ hq m, lt_cI_s, c65 h (by omega), sp_orN, (h.2.2.2.2.1 i hi).2.2.2.2.1, e]
            rw [hk, pk_m1, iZ_n (w_sh w i), iZ_sub]
            have e2 : sh i = w_sh w i := by rw [hsh]
            rw [← e2]
            rfl
          · have e : lbs sh (w 2) v Z K (s + 1) = lbs sh (w 2) v Z K s := by
              simp only [lbs]
              rw [hi2, if_neg (fun q => c2 q.2.2)]
            rw [if_pos (by omega), e]
        · have e : lbs sh (w 2) v Z K (s + 1) = lbs sh (w 2) v Z K s := by
            simp only [lbs]
            rw [hi2, if_neg (fun q => c q.2.1)]
          refine ⟨(some (.inr (.inr (some (a0 + 13 + 3 + 5 + 3 * i)))), o.2), ?_⟩
          rw [if_neg c, if_neg (by decide), e]
      · have c : v.testBit (19 - s) = false := by
          refine Nat.testBit_lt_two_pow (Nat.lt_of_lt_of_le hv (Nat.pow_le_pow_right (by decide) ?_))
          rcases hx with hx | hx
          · exact absurd hx (nI_pos (by omega))
          · exact (nI_leI (by omega) (by omega)).mp hx
        have e : lbs sh (w 2) v Z K (s + 1) = lbs sh (w 2) v Z K s := by
          simp only [lbs]
          rw [if_neg (fun q => by rw [c] at q; exact absurd q.2.1 (by decide))]
        refine ⟨(some (.inr (.inr none)), o.2), ?_⟩
        rw [hgo o.2 _ ex, lt_nl_n, e]
  · intro o
    rw [E151_13 _ _ _ _ _ _ _ _ _ _ _ h0, if_pos (by decide)]
/-- a sum: 0 to 999999 -/
theorem k79 (d : Nat) (x : Int32) (m : lt_m) : (∃ s, s ≤ 999999 ∧ x = nI s ∧ lt_ev (d + 1) 79 [.inl x] m = some (some (.inl 1), m)) ∨ ((x < 0 ∨ nI 1000000 ≤ x) ∧ lt_ev (d + 1) 79 [.inl x] m = some (some (.inl 0), m)) := by
  rcases pk_ix x (n := 1000000) (by decide) with c | c | ⟨s, hs, rfl⟩
  · exact Or.inr ⟨Or.inl c, (E79 d _ m).trans (if_pos c)⟩
  · refine Or.inr ⟨Or.inr c, (E79 d _ m).trans ?_⟩
    have h1 : (nI 1000000).toInt = 1000000 := by decide
    have h2 : (999999 : Int32).toInt = 999999 := by decide
    rw [Int32.le_iff_toInt_le, h1] at c
    rw [if_neg (by rw [Int32.lt_iff_toInt_lt, Int32.toInt_zero]; omega), if_pos (by rw [Int32.lt_iff_toInt_lt, h2]; omega)]
  · refine Or.inl ⟨s, by omega, rfl, (E79 d _ m).trans ?_⟩
    rw [if_neg (nI_pos (by omega)), if_neg (by rw [show (999999 : Int32) = nI 999999 from rfl, sp_ltn (by omega) (by omega)]; omega)]
end FREES

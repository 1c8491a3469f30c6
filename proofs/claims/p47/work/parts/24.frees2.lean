/-! ===== frees: the program ===== -/
theorem lp_ex {τ ρ : Type} {F : Nat → τ → ρ} (N : Nat) (hs : ∀ i o, i < N → ∃ o', F i o = F (i + 1) o') (o : τ) : ∃ o', F 0 o = F N o' := by
  induction N with
  | zero => exact ⟨o, rfl⟩
  | succ N ih =>
    obtain ⟨o', e⟩ := ih (fun i o hi => hs i o (by omega))
    obtain ⟨o2, e2⟩ := hs N o' (by omega)
    exact ⟨o2, e.trans e2⟩
abbrev iZ (z : Int) : Int32 := Int32.ofInt z
theorem iZ_t {z : Int} (h1 : -1000000000 ≤ z) (h2 : z ≤ 1000000000) : (iZ z).toInt = z := Int32.toInt_ofInt_of_le (by omega) (by omega)
theorem iZ_n (n : Nat) : nI n = iZ n := rfl
theorem iZ_sub (a b : Int) : iZ a - iZ b = iZ (a - b) := (Int32.ofInt_sub a b).symm
theorem iZ_lt {n : Nat} {z : Int} (hn : n < 2 ^ 31) (h1 : -1000000000 ≤ z) (h2 : z ≤ 1000000000) : (nI n < iZ z) = ((n : Int) < z) := by
  rw [Int32.lt_iff_toInt_lt, nI_toInt hn, iZ_t h1 h2]
theorem iZ_le {n : Nat} {z : Int} (hn : n < 2 ^ 31) (h1 : -1000000000 ≤ z) (h2 : z ≤ 1000000000) : (iZ z ≤ nI n) = (z ≤ (n : Int)) := by
  rw [Int32.le_iff_toInt_le, nI_toInt hn, iZ_t h1 h2]
theorem iZ_gt0 {z : Int} (h1 : -1000000000 ≤ z) (h2 : z ≤ 1000000000) : ((0 : Int32) < iZ z) = (0 < z) := by
  rw [Int32.lt_iff_toInt_lt, iZ_t h1 h2, Int32.toInt_zero]
def opI (z : Int32) : Option Nat → Int32
  | none => z
  | some o => nI o
section FREES
variable {dist wl : NT → Nat → Nat → Nat} {N : NT} {w : Nat → Nat} {T L : Nat} {m : lt_m} {vs us : List Int32}
theorem w_sh_le (hw : wfL N w) {i : Nat} (hi : i < w 2) : w_sh w i ≤ 999999 := (hw.2.2.2.2.2 i hi).2.2.2.2.2.1
theorem G_le (hw : wfL N w) (k v : Nat) : Gf (fun i => w_sh w i) (w 2) k v ≤ 19999980 := by
  have h20 := hw.2.2.1
  refine Nat.le_trans (Gf_le k v) ?_
  unfold tbS
  have := sumN_bound (n := w 2) (c := 999999) (f := fun i => if v.testBit i = true then w_sh w i else 0) (fun i hi => by
    have := w_sh_le hw hi
    split <;> omega)
  have h2 : w 2 * 999999 ≤ 20 * 999999 := Nat.mul_le_mul_right _ h20
  exact Nat.le_trans this (by omega)
theorem k150 (d : Nat) (h0 : ts_sh L = (0, 2)) (h : cl N w L m) (hw : wfL N w) {v K : Nat} (hv : v < 2 ^ w 2) (hK : K < 2 ^ 31) : lt_ev (d + 2) 150 [.inr (.inr (some L)), .inl (nI v), .inl (nI K)] m = some (some (.inl (nI (Gf (fun i => w_sh w i) (w 2) K v))), m) := by
  have h20 := hw.2.2.1
  have h220 : 2 ^ w 2 ≤ 2 ^ 20 := Nat.pow_le_pow_right (by decide) h20
  refine (E150 (d + 1) L _ _ h0 m).trans ?_
  obtain ⟨sh, hsh⟩ : ∃ sh : Nat → Nat, sh = fun i => w_sh w i := ⟨_, rfl⟩
  rw [← hsh]
  have inner : ∀ (r : Nat) (x1 x2 x4 x5 : Int32) (o : Option ts_V), r < 2 ^ w 2 → ∃ o', L150_35 (d + 1) L x1 x2 (nI r) x4 x5 none 0 o m = L150_35 (d + 1) L x1 x2 (nI r) x4 x5 ((gpk sh r 20).map (fun j => L + 3 + 5 + 3 * j)) (nI 20) o' m := by
    intro r x1 x2 x4 x5 o hr
    refine lp_ex (F := fun i o => L150_35 (d + 1) L x1 x2 (nI r) x4 x5 ((gpk sh r i).map (fun j => L + 3 + 5 + 3 * j)) (nI i) o m) 20 ?_ o
    intro i o hi
    have hq := sh_mv h0 hi
    refine ⟨some (.inr (.inr (some (L + 3 + 5 + 3 * i)))), ?_⟩
    rw [E150_35 _ _ _ _ _ _ _ _ _ _ h0]
    simp (disch := omega) only [q_20, sp_len, nI_clamp]
    rw [if_neg (by omega), lt_gd_t ⟨nI_pos' (by omega), hi⟩, p65 d _ hq m, lt_cI_s, c65 h hi, sp_andN, and_pow, nI_1]
    simp only [gpk]
    by_cases c : r.testBit i = true
    · have hiw : i < w 2 := by
        refine Classical.byContradiction fun q => ?_
        rw [Nat.testBit_lt_two_pow (Nat.lt_of_lt_of_le hr (Nat.pow_le_pow_right (by decide) (by omega)))] at c
        cases c
      have hp := Nat.pow_lt_pow_right (a := 2) (by decide) (show i < 31 by omega)
      have hp0 : 0 < 2 ^ i := Nat.pow_pos (by decide)
      rw [if_pos c, if_pos c, if_neg (by rw [sp_eq0 (by omega)]; omega)]
      cases hg : gpk sh r i with
      | none => rw [Option.map_none, lt_nl_n]; rfl
      | some j =>
        obtain ⟨j1, j2, j3⟩ := gpk_some i j hg
        have b1 := w_sh_le hw hiw
        have b2 := w_sh_le hw (i := j) (by omega)
        rw [Option.map_some, lt_nl_s, lt_gd_t (sh_mv h0 (by omega)), (h.2.2.2.2.1 i hiw).2.2.2.2.1, (h.2.2.2.2.1 j (by omega)).2.2.2.2.1]
        simp (disch := omega) only [sp_len]
        have e1 : sh i = w_sh w i := by rw [hsh]
        have e2 : sh j = w_sh w j := by rw [hsh]
        rw [e1, e2]
        by_cases c2 : w_sh w i ≤ w_sh w j
        · rw [if_pos c2, if_pos c2]; rfl
        · rw [if_neg c2, if_neg c2]; rfl
    · rw [if_neg c, if_neg c, if_pos (by decide)]
  have hst := gst_lt (sh := sh) (n := w 2) hv (Nat.le_refl _)
  have hG : ∀ k, (gst sh (w 2) v k).2 ≤ 19999980 := fun k => by rw [gst_G, hsh]; exact G_le hw k v
  refine lp_it (F := fun k (o : Option ts_V × Option ts_V × Option ts_V × Option ts_V × Option ts_V) => L150_8 (d + 1) L (nI v) (nI K) (nI (gst sh (w 2) v k).1) (nI (gst sh (w 2) v k).2) (nI k) o.1 o.2.1 o.2.2.1 o.2.2.2.1 o.2.2.2.2 m) K ?_ ?_ (none, none, none, none, none)
  · intro k o hk
    have hr := hst k
    have hz := hG k
    by_cases c0 : (gst sh (w 2) v k).1 = 0
    · refine ⟨o, ?_⟩
      have hn : gpk sh 0 (w 2) = none := by
        cases hg : gpk sh 0 (w 2) with
        | none => rfl
        | some j => have := (gpk_some (w 2) j hg).2.1; rw [Nat.zero_testBit] at this; cases this
      have e : gst sh (w 2) v (k + 1) = gst sh (w 2) v k := by simp only [gst]; rw [c0, hn]
      rw [E150_8 _ _ _ _ _ _ _ _ _ _ _ _ h0, E150_8 _ _ _ _ _ _ _ _ _ _ _ _ h0, e, c0]
      simp (disch := omega) only [sp_len]
      rw [if_neg (by omega), if_pos (by decide)]
      by_cases c : K ≤ k + 1
      · rw [if_pos c]
      · rw [if_neg c, if_pos (by decide)]
    · obtain ⟨j, hj⟩ := gpk_ex (sh := sh) hr c0
      obtain ⟨j1, j2, j3⟩ := gpk_some (w 2) j hj
      obtain ⟨o', e⟩ := inner (gst sh (w 2) v k).1 (nI v) (nI K) (nI (gst sh (w 2) v k).2) (nI k) o.2.2.2.2 hr
      have hj20 : gpk sh (gst sh (w 2) v k).1 20 = some j := by rw [gpk_ext h20 hr]; exact hj
      refine ⟨(some (.inr (.inr (some (L + 3 + 5 + 3 * j)))), some (.inr (.inr (some (L + 3)))), some (.inl (20 : Int32)), some (.inl (nI 20)), o'), ?_⟩
      rw [E150_8 _ _ _ _ _ _ _ _ _ _ _ _ h0]
      simp (disch := omega) only [sp_len]
      rw [if_neg (by omega), if_neg (by rw [sp_eq0 (by omega)]; exact c0), e, E150_35 _ _ _ _ _ _ _ _ _ _ h0, if_pos (by decide), hj20, Option.map_some, lt_nl_s, lt_gd_t (sh_mv h0 (by omega)), p65 d _ (sh_mv h0 (by omega)) m, lt_cI_s, c65 h (by omega), sp_clr (by omega) (by omega) j2, (h.2.2.2.2.1 j j1).2.2.2.2.1, nI_add, nI_1]
      simp only [gst]
      rw [hj]
      have e2 : sh j = w_sh w j := by rw [hsh]
      rw [← e2]
  · intro o
    rw [E150_8 _ _ _ _ _ _ _ _ _ _ _ _ h0, if_pos (by rw [sp_len (by omega) (by omega)]; exact Nat.le_refl _), gst_G]
/-- fewestFreeing -/
theorem k149 (d : Nat) {a0 : Nat} (h0 : ts_sh a0 = (0, 11)) (h : cl N w (a0 + 13) m) (hw : wfL N w) {v K : Nat} (hv : v < 2 ^ w 2) {Z : Int} (z1 : -1000000000 ≤ Z) (z2 : Z ≤ 1000000000) (hK : K ≤ 20) (h1 : Z ≤ (Gf (fun i => w_sh w i) (w 2) K v : Nat)) (h2 : ∀ k, k < K → ((Gf (fun i => w_sh w i) (w 2) k v : Nat) : Int) < Z) : lt_ev (d + 3) 149 [.inr (.inr (some a0)), .inl (nI v), .inl (iZ Z)] m = some (some (.inl (nI K)), m) := by
  have hL : ts_sh (a0 + 13) = (0, 2) := sf_of h0 5 (by decide) (by decide)
  refine (E149 (d + 2) a0 _ _ h0 m).trans ?_
  refine lp_it (F := fun k (_ : Unit) => L149_2 (d + 2) a0 (nI v) (iZ Z) (nI k) m) K ?_ ?_ ()
  · intro k o hk
    have hG := G_le hw k v
    refine ⟨(), ?_⟩
    rw [E149_2 _ _ _ _ _ h0]
    simp (disch := omega) only [q_20, sp_ltn]
    rw [if_neg (by omega), k150 d hL h hw hv (by omega), lt_cI_s]
    simp (disch := omega) only [iZ_lt]
    rw [if_pos (h2 k hk), nI_1]
  · intro o
    have hG := G_le hw K v
    rw [E149_2 _ _ _ _ _ h0]
    simp (disch := omega) only [q_20, sp_ltn]
    rw [if_neg (by omega), k150 d hL h hw hv (by omega), lt_cI_s]
    simp (disch := omega) only [iZ_lt]
    rw [if_neg (by omega)]
theorem k149n (d : Nat) {a0 : Nat} (h0 : ts_sh a0 = (0, 11)) (h : cl N w (a0 + 13) m) (hw : wfL N w) {v : Nat} (hv : v < 2 ^ w 2) {Z : Int} (z1 : -1000000000 ≤ Z) (z2 : Z ≤ 1000000000) (h2 : ∀ k, k < 21 → ((Gf (fun i => w_sh w i) (w 2) k v : Nat) : Int) < Z) : lt_ev (d + 3) 149 [.inr (.inr (some a0)), .inl (nI v), .inl (iZ Z)] m = some (some (.inl (-1)), m) := by
  have hL : ts_sh (a0 + 13) = (0, 2) := sf_of h0 5 (by decide) (by decide)
  refine (E149 (d + 2) a0 _ _ h0 m).trans ?_
  refine lp_it (F := fun k (_ : Unit) => L149_2 (d + 2) a0 (nI v) (iZ Z) (nI k) m) 21 ?_ ?_ ()
  · intro k o hk
    have hG := G_le hw k v
    refine ⟨(), ?_⟩
    rw [E149_2 _ _ _ _ _ h0]
    simp (disch := omega) only [q_20, sp_ltn]
    rw [if_neg (by omega), k150 d hL h hw hv (by omega), lt_cI_s]
    simp (disch := omega) only [iZ_lt]
    rw [if_pos (h2 k hk), nI_1]
  · intro o
    rw [E149_2 _ _ _ _ _ h0, if_pos (by decide)]
end FREES

/-! ===== way ===== -/
def dsD : DT := fun N => dsN N.2.2.1 N.1
/-- the first of r numbers from i on with p; else z -/
def frN (p : Nat → Bool) (z : Nat) : Nat → Nat → Nat
  | 0, _ => z
  | r + 1, i => if p i = true then i else frN p z r (i + 1)
theorem frN_ex {p : Nat → Bool} {z c : Nat} : ∀ r i, i ≤ c → c < i + r → p c = true → p (frN p z r i) = true ∧ frN p z r i ≤ c := by
  intro r
  induction r with
  | zero => intro i h1 h2; omega
  | succ r ih =>
    intro i h1 h2 h3
    simp only [frN]
    by_cases e : p i = true
    · rw [if_pos e]; exact ⟨e, h1⟩
    · rw [if_neg e]
      have : i ≠ c := by rintro rfl; exact e h3
      exact ih (i + 1) (by omega) (by omega) h3
def onw (H : Nat → Nat → Nat) (n b a : Nat) : Nat → Bool := fun o => decide (0 < H a o ∧ H a o + dsN H n o b = dsN H n a b)
def nxN (H : Nat → Nat → Nat) (n b a : Nat) : Nat := frN (onw H n b a) b n 0
theorem nx_ok {H : Nat → Nat → Nat} {n a b : Nat} (ha : a < n) (hb : b < n) (hne : a ≠ b) (h : dsN H n a b < 1000000) : nxN H n b a < n ∧ 0 < H a (nxN H n b a) ∧ H a (nxN H n b a) + dsN H n (nxN H n b a) b = dsN H n a b := by
  obtain ⟨c, hc, h1, h2⟩ := ds_N ha hb hne h
  obtain ⟨h3, h4⟩ := frN_ex (p := onw H n b a) (z := b) (c := c) n 0 (Nat.zero_le _) (by omega) (decide_eq_true ⟨h1, h2⟩)
  have h5 := of_decide_eq_true h3
  exact ⟨by unfold nxN; omega, h5⟩
/-- the offices that follow -/
def paN' (H : Nat → Nat → Nat) (n b : Nat) : Nat → Nat → List Int32
  | 0, _ => []
  | k + 1, a => if a = b then [] else nI (nxN H n b a) :: paN' H n b k (nxN H n b a)
section WY
variable {wl : DT} {N : NT} {w : Nat → Nat} {T : Nat} {m : lt_m} {vs us : List Int32}
theorem k69 {A : Nat} (hA : ts_sh A = (0, 5)) (hN : wfN N) (hn : nR N A m) (hr : AR N A (dsN N.2.2.1 N.1) m) {a b : Nat} (ha : a < N.1) (hb : b < N.1) : ∀ d, lt_ev (d + 3) 69 [.inr (.inr (some A)), .inl (nI a), .inl (nI b)] m = some (some (.inl (nI (nxN N.2.2.1 N.1 b a))), m) := by
  intro d
  have hn2 := hN.2.1
  refine (E69 (d + 2) A _ _ hA m).trans ?_
  have key : ∀ r i o4, i + r = N.1 → L69_2 (d + 2) A (nI a) (nI b) (nI i) o4 m = some (some (.inl (nI (frN (onw N.2.2.1 N.1 b a) b r i))), m) := by
    intro r
    induction r with
    | zero =>
      intro i o4 hi
      have hi : i = N.1 := hi
      subst hi
      rw [E69_2 _ _ _ _ _ _ hA, hn.1, if_pos (by rw [sp_len (by omega) (by omega)]; exact Nat.le_refl _)]
      rfl
    | succ r ih =>
      intro i o4 hi
      have hi2 : i < N.1 := by omega
      have b1 := hN.2.2.2.1 a i ha hi2
      have b2 : dsN N.2.2.1 N.1 i b ≤ 1000000 := fw_le hN.2.2.2.1 hi2 hb _
      have b3 : dsN N.2.2.1 N.1 a b ≤ 1000000 := fw_le hN.2.2.2.1 ha hb _
      rw [E69_2 _ _ _ _ _ _ hA, hn.1, if_neg (by rw [sp_len (by omega) (by omega)]; omega), p13 d A _ _ hA m, lt_cI_s, c13 hn hN ha hi2]
      simp only [frN]
      by_cases c : N.2.2.1 a i = 0
      · rw [if_pos (by rw [sp_le0 (by omega)]; omega), nI_1, ih (i + 1) _ (by omega), if_neg (fun q => by
          have := (of_decide_eq_true q : 0 < N.2.2.1 a i ∧ _).1
          omega)]
      · rw [if_neg (by rw [sp_le0 (by omega)]; omega), p18 d A _ _ hA m, lt_cI_s, c18 hn hN hr hi2 hb, p18 d A _ _ hA m, lt_cI_s, c18 hn hN hr ha hb, nI_add]
        by_cases c2 : N.2.2.1 a i + dsN N.2.2.1 N.1 i b = dsN N.2.2.1 N.1 a b
        · rw [if_neg (by rw [c2]; exact fun q => q rfl), if_pos (show onw N.2.2.1 N.1 b a i = true from decide_eq_true ⟨by omega, c2⟩)]
        · rw [if_pos (by rw [sp_eqn (by omega) (by omega)]; exact c2), nI_1, ih (i + 1) _ (by omega), if_neg (show ¬ onw N.2.2.1 N.1 b a i = true from fun q => c2 (of_decide_eq_true q : 0 < N.2.2.1 a i ∧ _).2)]
  exact key N.1 0 none (by omega)
theorem pa_len {H : Nat → Nat → Nat} {n b : Nat} (hb : b < n) : ∀ k a, a < n → dsN H n a b < 1000000 → (paN' H n b k a).length ≤ rkN H n b a := by
  intro k
  induction k with
  | zero => intro a _ _; exact Nat.zero_le _
  | succ k ih =>
    intro a ha h
    simp only [paN']
    by_cases e : a = b
    · rw [if_pos e]; exact Nat.zero_le _
    · rw [if_neg e]
      obtain ⟨h1, h2, h3⟩ := nx_ok ha hb e h
      have := ih _ h1 (by omega)
      have := rk_lt (H := H) (a := a) (b := b) h1 (by omega)
      rw [List.length_cons]
      omega
theorem same_t {m M : lt_m} (h : tfr m M) : same m M := ⟨by rw [h.2], by rw [h.2], fun b k hb => by rw [h.1 b (by rintro rfl; exact absurd hb (by unfold scr; simp))]⟩
end WY

/-! ===== gates ===== -/
section GA
variable (H : Nat → Nat → Nat) (n : Nat)
/-- one round of the class: further offices -/
def fuN (R : Nat) : Nat → Nat
  | 0 => R
  | i + 1 => if R.testBit i = true then fuN R i ||| bitsN (fun b => decide (0 < H i b)) n else fuN R i
def rcN (shut a : Nat) : Nat → Nat
  | 0 => 2 ^ a
  | k + 1 => dfN (fuN H n (rcN shut a k) n) shut
/-- within so many roads of the goal, going round o -/
def bkN (o g : Nat) : Nat → Nat → Prop
  | 0, p => p = g
  | j + 1, p => bkN o g j p ∨ ∃ q, q < n ∧ q ≠ o ∧ 0 < H p q ∧ bkN o g j q
/-- a ROUTE goes round o -/
def enN (o g : Nat) : Nat → Nat → Nat → Prop
  | 0, p, set => p = g ∧ set.testBit o = false
  | r + 1, p, set => (p = g ∧ set.testBit o = false) ∨ (p ≠ g ∧ ∃ q, q < n ∧ set.testBit q = false ∧ 0 < H p q ∧ enN o g r q (set ||| 2 ^ q))
end GA
section GB
variable {H : Nat → Nat → Nat} {n g o : Nat}
theorem smM_al {f : Nat → MW} (ho : o < 12) : ∀ n, (smM f n).2.2.2.testBit o = false ↔ ∃ i, i < n ∧ (f i).2.2.2.testBit o = false := by
  intro n
  induction n with
  | zero =>
    constructor
    · intro h
      have : (4095 : Nat).testBit o = false := h
      rw [show (4095 : Nat) = 2 ^ 12 - 1 by decide, Nat.testBit_two_pow_sub_one, decide_eq_true ho] at this
      exact absurd this (by decide)
    · rintro ⟨i, hi, _⟩; omega
  | succ n ih =>
    have e : (smM f (n + 1)).2.2.2 = (smM f n).2.2.2 &&& (f n).2.2.2 := rfl
    rw [e, Nat.testBit_and, Bool.and_eq_false_iff, ih]
    constructor
    · rintro (⟨i, hi, h⟩ | h)
      · exact ⟨i, by omega, h⟩
      · exact ⟨n, by omega, h⟩
    · rintro ⟨i, hi, h⟩
      by_cases c : i = n
      · subst c; exact Or.inr h
      · exact Or.inl ⟨i, by omega, h⟩
theorem smM_ct {f : Nat → MW} : ∀ n, 0 < (smM f n).1 ↔ ∃ i, i < n ∧ 0 < (f i).1 := by
  intro n
  induction n with
  | zero =>
    constructor
    · intro h; exact absurd h (Nat.lt_irrefl 0)
    · rintro ⟨i, hi, _⟩; omega
  | succ n ih =>
    have e : (smM f (n + 1)).1 = (smM f n).1 + (f n).1 := rfl
    rw [e]
    constructor
    · intro h
      rcases Nat.eq_zero_or_pos (f n).1 with q | q
      · obtain ⟨i, hi, h⟩ := ih.mp (by omega)
        exact ⟨i, by omega, h⟩
      · exact ⟨n, by omega, q⟩
    · rintro ⟨i, hi, h⟩
      by_cases c : i = n
      · subst c; omega
      · have := ih.mpr ⟨i, by omega, h⟩
        omega
theorem mO_al (ho : o < 12) : ¬ mO.2.2.2.testBit o = false := by
  show ¬ (4095 : Nat).testBit o = false
  rw [show (4095 : Nat) = 2 ^ 12 - 1 by decide, Nat.testBit_two_pow_sub_one, decide_eq_true ho]
  decide
theorem tb_nf {v i : Nat} (h : ¬ v.testBit i = true) : v.testBit i = false := by
  cases q : v.testBit i with
  | false => rfl
  | true => exact absurd q h
theorem CR_al (ho : o < 12) : ∀ r p set sp, (CR H n g r p set sp).2.2.2.testBit o = false ↔ enN H n o g r p set := by
  intro r
  induction r with
  | zero =>
    intro p set sp
    simp only [CR, enN]
    by_cases e : p = g
    · rw [if_pos e]; exact ⟨fun h => ⟨e, h⟩, fun h => h.2⟩
    · rw [if_neg e]; exact ⟨fun h => absurd h (mO_al ho), fun h => absurd h.1 e⟩
  | succ r ih =>
    intro p set sp
    simp only [CR, enN]
    by_cases e : p = g
    · rw [if_pos e]; exact ⟨fun h => Or.inl ⟨e, h⟩, fun h => h.elim (fun q => q.2) (fun q => absurd e q.1)⟩
    · rw [if_neg e, smM_al ho]
      constructor
      · rintro ⟨i, hi, h⟩
        refine Or.inr ⟨e, i, hi, ?_⟩
        by_cases c : set.testBit i = true ∨ H p i = 0
        · rw [if_pos c] at h; exact absurd h (mO_al ho)
        · rw [if_neg c] at h
          exact ⟨tb_nf fun q => c (Or.inl q), Nat.pos_of_ne_zero fun q => c (Or.inr q), (ih i _ _).mp h⟩
      · rintro (⟨q, -⟩ | ⟨-, i, hi, h1, h2, h3⟩)
        · exact absurd q e
        · refine ⟨i, hi, ?_⟩
          rw [if_neg (show ¬ (set.testBit i = true ∨ H p i = 0) from fun q => q.elim (fun q => absurd (h1.symm.trans q) (by decide)) (fun q => by omega))]
          exact (ih i _ _).mpr h3
theorem CR_ct : ∀ r p set sp, set < 4096 → n ≤ 12 → (0 < (CR H n g r p set sp).1 ↔ enN H n 12 g r p set) := by
  have hb : ∀ s : Nat, s < 4096 → s.testBit 12 = false := fun s h => Nat.testBit_lt_two_pow h
  intro r
  induction r with
  | zero =>
    intro p set sp hs _
    simp only [CR, enN]
    by_cases e : p = g
    · rw [if_pos e]; exact ⟨fun _ => ⟨e, hb _ hs⟩, fun _ => Nat.one_pos⟩
    · rw [if_neg e]; exact ⟨fun h => absurd h (Nat.lt_irrefl 0), fun h => absurd h.1 e⟩
  | succ r ih =>
    intro p set sp hs hn
    simp only [CR, enN]
    by_cases e : p = g
    · rw [if_pos e]; exact ⟨fun _ => Or.inl ⟨e, hb _ hs⟩, fun _ => Nat.one_pos⟩
    · rw [if_neg e, smM_ct]
      constructor
      · rintro ⟨i, hi, h⟩
        refine Or.inr ⟨e, i, hi, ?_⟩
        by_cases c : set.testBit i = true ∨ H p i = 0
        · rw [if_pos c] at h; exact absurd h (Nat.lt_irrefl 0)
        · rw [if_neg c] at h
          exact ⟨tb_nf fun q => c (Or.inl q), Nat.pos_of_ne_zero fun q => c (Or.inr q), (ih i _ _ (or_4096 hs (by omega)) hn).mp h⟩
      · rintro (⟨q, -⟩ | ⟨-, i, hi, h1, h2, h3⟩)
        · exact absurd q e
        · refine ⟨i, hi, ?_⟩
          rw [if_neg (show ¬ (set.testBit i = true ∨ H p i = 0) from fun q => q.elim (fun q => absurd (h1.symm.trans q) (by decide)) (fun q => by omega))]
          exact (ih i _ _ (or_4096 hs (by omega)) hn).mpr h3
theorem en_bit : ∀ r p set, enN H n o g r p set → set.testBit o = false := by
  intro r
  induction r with
  | zero => intro p set h; exact h.2
  | succ r ih =>
    intro p set h
    rcases h with h | ⟨-, q, hq, h1, h2, h3⟩
    · exact h.2
    · have := ih q _ h3
      rw [Nat.testBit_or, Bool.or_eq_false_iff] at this
      exact this.1
theorem bk_up : ∀ j p, bkN H n o g j p → bkN H n o g (j + 1) p := fun _ _ h => Or.inl h
theorem bk_le {i j p : Nat} (h : i ≤ j) (hb : bkN H n o g i p) : bkN H n o g j p := by
  obtain ⟨k, rfl⟩ := Nat.le.dest h
  induction k with
  | zero => exact hb
  | succ k ih => exact bk_up _ _ (ih (by omega))
theorem en_bk : ∀ r p set, enN H n o g r p set → bkN H n o g r p := by
  intro r
  induction r with
  | zero => intro p set h; exact h.1
  | succ r ih =>
    intro p set h
    rcases h with h | ⟨-, q, hq, h1, h2, h3⟩
    · exact bk_le (Nat.zero_le _) (show bkN H n o g 0 p from h.1)
    · have hb := en_bit r q _ h3
      refine Or.inr ⟨q, hq, ?_, h2, ih q _ h3⟩
      rintro rfl
      rw [Nat.testBit_or, Nat.testBit_two_pow_self, Bool.or_true] at hb
      exact absurd hb (by decide)
theorem bk_lv : ∀ k p, bkN H n o g k p → ∃ j, j ≤ k ∧ bkN H n o g j p ∧ ∀ i, i < j → ¬ bkN H n o g i p := by
  intro k
  induction k using Nat.strongRecOn with
  | ind k ih =>
    intro p h
    by_cases c : ∃ i, i < k ∧ bkN H n o g i p
    · obtain ⟨i, hi, hb⟩ := c
      obtain ⟨j, h1, h2, h3⟩ := ih i hi p hb
      exact ⟨j, by omega, h2, h3⟩
    · exact ⟨k, Nat.le_refl k, h, fun i hi hb => c ⟨i, hi, hb⟩⟩
theorem bk_en : ∀ j r p set, j ≤ r → bkN H n o g j p → (∀ i, i < j → ¬ bkN H n o g i p) → set.testBit o = false → (∀ x, set.testBit x = true → ∀ i, i < j → ¬ bkN H n o g i x) → enN H n o g r p set := by
  intro j
  induction j with
  | zero =>
    intro r p set hr hb _ ho _
    have hb : p = g := hb
    cases r with
    | zero => exact ⟨hb, ho⟩
    | succ r => exact Or.inl ⟨hb, ho⟩
  | succ j ih =>
    intro r p set hr hb hl ho hs
    obtain ⟨r', rfl⟩ : ∃ r', r = r' + 1 := ⟨r - 1, by omega⟩
    have hpg : p ≠ g := fun q => hl 0 (by omega) q
    rcases hb with hb | ⟨q, hq, h1, h2, h3⟩
    · exact absurd hb (hl j (by omega))
    · have hql : ∀ i, i < j → ¬ bkN H n o g i q := fun i hi hbq => hl (i + 1) (by omega) (Or.inr ⟨q, hq, h1, h2, hbq⟩)
      have hqs : set.testBit q = false := tb_nf fun c => hs q c j (by omega) h3
      refine Or.inr ⟨hpg, q, hq, hqs, h2, ih r' q _ (by omega) h3 hql ?_ fun x hx i hi => ?_⟩
      · rw [Nat.testBit_or, ho, Nat.testBit_two_pow_of_ne h1]; rfl
      · rw [Nat.testBit_or, Bool.or_eq_true] at hx
        rcases hx with hx | hx
        · exact hs x hx i (by omega)
        · rw [Nat.testBit_two_pow, decide_eq_true_eq] at hx
          rw [← hx]
          exact hql i hi
theorem en_iff {a : Nat} (ho : a ≠ o) : enN H n o g 7 a (2 ^ a) ↔ bkN H n o g 7 a := by
  constructor
  · exact en_bk 7 a _
  · intro h
    obtain ⟨j, h1, h2, h3⟩ := bk_lv 7 a h
    refine bk_en j 7 a _ h1 h2 h3 (Nat.testBit_two_pow_of_ne ho) fun x hx i hi => ?_
    rw [Nat.testBit_two_pow, decide_eq_true_eq] at hx
    rw [← hx]
    exact h3 i hi
/-- the class's rounds -/
theorem fu_tb {R x : Nat} (hx : x < n) : ∀ i, (fuN H n R i).testBit x = true ↔ R.testBit x = true ∨ ∃ y, y < i ∧ R.testBit y = true ∧ 0 < H y x := by
  intro i
  induction i with
  | zero =>
    constructor
    · intro h; exact Or.inl h
    · rintro (h | ⟨y, hy, _⟩)
      · exact h
      · omega
  | succ i ih =>
    simp only [fuN]
    by_cases c : R.testBit i = true
    · rw [if_pos c, Nat.testBit_or, Bool.or_eq_true, ih, bitsN_tb, decide_eq_true hx, Bool.true_and, decide_eq_true_eq]
      constructor
      · rintro ((h | ⟨y, hy, h⟩) | h)
        · exact Or.inl h
        · exact Or.inr ⟨y, by omega, h⟩
        · exact Or.inr ⟨i, by omega, c, h⟩
      · rintro (h | ⟨y, hy, h⟩)
        · exact Or.inl (Or.inl h)
        · by_cases e : y = i
          · subst e; exact Or.inr h.2
          · exact Or.inl (Or.inr ⟨y, by omega, h⟩)
    · rw [if_neg c, ih]
      constructor
      · rintro (h | ⟨y, hy, h⟩)
        · exact Or.inl h
        · exact Or.inr ⟨y, by omega, h⟩
      · rintro (h | ⟨y, hy, h⟩)
        · exact Or.inl h
        · by_cases e : y = i
          · subst e; exact absurd h.1 c
          · exact Or.inr ⟨y, by omega, h⟩
theorem rc_s {shut a k x : Nat} (hn : n ≤ 12) (hsh : ∀ x, x < n → (shut.testBit x = true ↔ x = o)) (hx : x < n) : (rcN H n shut a (k + 1)).testBit x = true ↔ ((rcN H n shut a k).testBit x = true ∨ ∃ y, y < n ∧ (rcN H n shut a k).testBit y = true ∧ 0 < H y x) ∧ x ≠ o := by
  have e : shut.testBit x = decide (x = o) := by
    by_cases c : x = o
    · rw [decide_eq_true c]; exact (hsh x hx).mpr c
    · rw [decide_eq_false c]; exact tb_nf fun q => c ((hsh x hx).mp q)
  simp only [rcN]
  rw [df_tb (by omega), Bool.and_eq_true, fu_tb hx, e, Bool.not_eq_true', decide_eq_false_iff_not]
theorem rc_bk {shut a : Nat} (hn : n ≤ 12) (hsh : ∀ x, x < n → (shut.testBit x = true ↔ x = o)) (ha : a < n) : ∀ k x j, x < n → (rcN H n shut a k).testBit x = true → bkN H n o g j x → bkN H n o g (j + k) a := by
  intro k
  induction k with
  | zero =>
    intro x j hx h hb
    have h : (2 ^ a).testBit x = true := h
    rw [Nat.testBit_two_pow, decide_eq_true_eq] at h
    rw [h]
    exact hb
  | succ k ih =>
    intro x j hx h hb
    obtain ⟨h1, h2⟩ := (rc_s hn hsh hx).mp h
    rcases h1 with h1 | ⟨y, hy, h3, h4⟩
    · exact bk_up _ _ (ih x j hx h1 hb)
    · have := ih y (j + 1) hy h3 (Or.inr ⟨x, hx, h2, h4, hb⟩)
      rw [show j + (k + 1) = j + 1 + k by omega]
      exact this
theorem rc_no {shut a : Nat} (hn : n ≤ 12) (hsh : ∀ x, x < n → (shut.testBit x = true ↔ x = o)) (hao : a ≠ o) : ∀ k x, x < n → (rcN H n shut a k).testBit x = true → x ≠ o := by
  intro k
  cases k with
  | zero =>
    intro x hx h
    have h : (2 ^ a).testBit x = true := h
    rw [Nat.testBit_two_pow, decide_eq_true_eq] at h
    rw [← h]; exact hao
  | succ k => intro x hx h; exact ((rc_s hn hsh hx).mp h).2
theorem bk_rc {shut a : Nat} (hn : n ≤ 12) (hsh : ∀ x, x < n → (shut.testBit x = true ↔ x = o)) (hao : a ≠ o) (hg : g < n) : ∀ j x k, x < n → (rcN H n shut a k).testBit x = true → bkN H n o g j x → (rcN H n shut a (k + j)).testBit g = true := by
  have up : ∀ k x, x < n → (rcN H n shut a k).testBit x = true → (rcN H n shut a (k + 1)).testBit x = true := fun k x hx h => (rc_s hn hsh hx).mpr ⟨Or.inl h, rc_no hn hsh hao k x hx h⟩
  intro j
  induction j with
  | zero =>
    intro x k hx h hb
    have hb : x = g := hb
    rw [← hb]
    exact h
  | succ j ih =>
    intro x k hx h hb
    rcases hb with hb | ⟨q, hq, h1, h2, h3⟩
    · exact up _ _ hg (ih x k hx h hb)
    · have := ih q (k + 1) hq ((rc_s hn hsh hq).mpr ⟨Or.inr ⟨x, hx, h, h2⟩, h1⟩) h3
      rw [show k + (j + 1) = k + 1 + j by omega]
      exact this
theorem rc_iff {shut a : Nat} (hn : n ≤ 12) (hsh : ∀ x, x < n → (shut.testBit x = true ↔ x = o)) (ha : a < n) (hg : g < n) (hao : a ≠ o) : (rcN H n shut a 7).testBit g = true ↔ enN H n o g 7 a (2 ^ a) := by
  rw [en_iff hao]
  constructor
  · intro h
    exact rc_bk hn hsh ha 7 g 0 hg h rfl
  · intro h
    have := bk_rc hn hsh hao hg 7 a 0 ha (show (2 ^ a).testBit a = true from Nat.testBit_two_pow_self) h
    rw [Nat.zero_add] at this
    exact this
end GB

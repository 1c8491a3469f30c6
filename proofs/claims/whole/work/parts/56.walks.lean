/-! ===== all ROUTES between two offices: how many, least, greatest, passed by all ===== -/
abbrev MW : Type := Nat × Nat × Nat × Nat
def mO : MW := (0, 1000000, 0, 4095)
def mP (x y : MW) : MW := (x.1 + y.1, min x.2.1 y.2.1, max x.2.2.1 y.2.2.1, x.2.2.2 &&& y.2.2.2)
def smM (f : Nat → MW) : Nat → MW
  | 0 => mO
  | n + 1 => mP (smM f n) (f n)
def gdM (x : MW) : Prop := x.2.1 ≤ 1000000 ∧ x.2.2.1 ≤ 1000 ∧ x.2.2.2 < 4096
theorem mP_as {x y z : MW} : mP (mP x y) z = mP x (mP y z) := by
  unfold mP
  simp only [Nat.add_assoc, Nat.min_assoc, Nat.max_assoc, Nat.and_assoc]
theorem mP_cm {x y : MW} : mP x y = mP y x := by
  unfold mP
  rw [Nat.add_comm, Nat.min_comm, Nat.max_comm, Nat.and_comm]
theorem and_4095 {a : Nat} (h : a < 4096) : a &&& 4095 = a := by
  have := Nat.and_two_pow_sub_one_eq_mod a 12
  rw [show 2 ^ 12 - 1 = 4095 by decide] at this
  rw [this]
  exact Nat.mod_eq_of_lt h
theorem mP_O {x : MW} (h : gdM x) : mP x mO = x := by
  obtain ⟨h1, h2, h3⟩ := h
  unfold mP mO
  refine Prod.ext rfl (Prod.ext (Nat.min_eq_left h1) (Prod.ext (Nat.max_eq_left (Nat.zero_le _)) (and_4095 h3)))
theorem gd_O : gdM mO := ⟨Nat.le_refl _, Nat.zero_le _, by decide⟩
theorem gd_P {x y : MW} (h : gdM x) (h2 : gdM y) : gdM (mP x y) := by
  obtain ⟨a, b, c⟩ := h
  obtain ⟨d, e, f⟩ := h2
  unfold mP
  refine ⟨?_, ?_, ?_⟩
  · show min _ _ ≤ _; omega
  · show max _ _ ≤ _; omega
  · exact Nat.lt_of_le_of_lt Nat.and_le_left c
theorem gd_S {f : Nat → MW} {n : Nat} (h : ∀ i, i < n → gdM (f i)) : gdM (smM f n) := by
  induction n with
  | zero => exact gd_O
  | succ n ih => exact gd_P (ih fun i hi => h i (by omega)) (h n (by omega))
theorem smM_congr {f g : Nat → MW} {n : Nat} (h : ∀ i, i < n → f i = g i) : smM f n = smM g n := by
  induction n with
  | zero => rfl
  | succ n ih => simp only [smM, ih (fun i hi => h i (by omega)), h n (by omega)]
theorem smM_O {f : Nat → MW} {n : Nat} (h : ∀ i, i < n → f i = mO) : smM f n = mO := by
  induction n with
  | zero => rfl
  | succ n ih => simp only [smM, ih (fun i hi => h i (by omega)), h n (by omega)]; exact mP_O gd_O
theorem smM_ex {f f' : Nat → MW} {g : Nat} : ∀ n, g < n → f' g = mO → (∀ i, i < n → i ≠ g → f' i = f i) → (∀ i, i < n → gdM (f i)) → smM f n = mP (f g) (smM f' n) := by
  intro n
  induction n with
  | zero => intro h; omega
  | succ n ih =>
    intro hg h0 he hgd
    simp only [smM]
    by_cases e : g = n
    · subst e
      rw [h0, smM_congr (f := f') (g := f) fun i hi => he i (by omega) (by omega), mP_O (gd_S fun i hi => hgd i (by omega))]
      exact mP_cm
    · rw [ih (by omega) h0 (fun i hi => he i (by omega)) (fun i hi => hgd i (by omega)), mP_as, he n (by omega) (by omega)]
section CRC
variable (H : Nat → Nat → Nat) (n g : Nat)
def CR : Nat → Nat → Nat → Nat → MW
  | 0, a, set, sp => if a = g then (1, sp, sp, set) else mO
  | r + 1, a, set, sp => if a = g then (1, sp, sp, set) else smM (fun o => if set.testBit o = true ∨ H a o = 0 then mO else CR r o (set ||| 2 ^ o) (sp + H a o)) n
def CB (a p sp : Nat) : MW := if H a g = 0 then mO else (1, sp + H a g, sp + H a g, p)
def CC : Nat → Nat → Nat → Nat → MW
  | 0, a, p, sp => CB H g a p sp
  | r + 1, a, p, sp => mP (CB H g a p sp) (smM (fun o => if p.testBit o = true ∨ H a o = 0 then mO else CC r o (p ||| 2 ^ o) (sp + H a o)) n)
end CRC
theorem or_4096 {a o : Nat} (h : a < 4096) (ho : o < 12) : a ||| 2 ^ o < 4096 := by
  have : a ||| 2 ^ o < 2 ^ 12 := Nat.or_lt_two_pow h (Nat.pow_lt_pow_right (by omega) ho)
  exact this
section CR2
variable {H : Nat → Nat → Nat} {n g : Nat}
theorem gd_CR (hn : n ≤ 12) (hH : ∀ a b, a < n → b < n → H a b ≤ 99) : ∀ r a set sp, a < n → set < 4096 → sp + 100 * r ≤ 1000 → gdM (CR H n g r a set sp) := by
  intro r
  induction r with
  | zero =>
    intro a set sp ha hs hsp
    simp only [CR]
    split
    · exact ⟨by show sp ≤ _; omega, by show sp ≤ _; omega, hs⟩
    · exact gd_O
  | succ r ih =>
    intro a set sp ha hs hsp
    simp only [CR]
    split
    · exact ⟨by show sp ≤ _; omega, by show sp ≤ _; omega, hs⟩
    · refine gd_S fun o ho => ?_
      split
      · exact gd_O
      · have := hH a o ha ho
        exact ih o _ _ ho (or_4096 hs (by omega)) (by omega)
theorem gd_CB (hg : g < n) (hH : ∀ a b, a < n → b < n → H a b ≤ 99) {a p sp : Nat} (ha : a < n) (hp : p < 4096) (hsp : sp + 100 ≤ 1000) : gdM (CB H g a p sp) := by
  have := hH a g ha hg
  unfold CB
  split
  · exact gd_O
  · exact ⟨by show sp + H a g ≤ _; omega, by show sp + H a g ≤ _; omega, hp⟩
theorem gd_CC (hn : n ≤ 12) (hg : g < n) (hH : ∀ a b, a < n → b < n → H a b ≤ 99) : ∀ r a p sp, a < n → p < 4096 → sp + 100 * (r + 1) ≤ 1000 → gdM (CC H n g r a p sp) := by
  intro r
  induction r with
  | zero => intro a p sp ha hp hsp; exact gd_CB hg hH ha hp (by omega)
  | succ r ih =>
    intro a p sp ha hp hsp
    refine gd_P (gd_CB hg hH ha hp (by omega)) (gd_S fun o ho => ?_)
    split
    · exact gd_O
    · have := hH a o ha ho
      exact ih o _ _ ho (or_4096 hp (by omega)) (by omega)
/-- class and reference count alike -/
theorem CR_CC (hn : n ≤ 12) (hg : g < n) (hH : ∀ a b, a < n → b < n → H a b ≤ 99) : ∀ r a set sp, a < n → a ≠ g → set.testBit g = false → set < 4096 → sp + 100 * (r + 1) ≤ 1000 → CR H n g (r + 1) a set sp = CC H n g r a (set ||| 2 ^ g) sp := by
  intro r
  induction r with
  | zero =>
    intro a set sp ha hne hset hs hsp
    have hCR : CR H n g 1 a set sp = smM (fun o => if set.testBit o = true ∨ H a o = 0 then mO else CR H n g 0 o (set ||| 2 ^ o) (sp + H a o)) n := by
      simp only [CR]
      rw [if_neg hne]
    have hgd : ∀ i, i < n → gdM (if set.testBit i = true ∨ H a i = 0 then mO else CR H n g 0 i (set ||| 2 ^ i) (sp + H a i)) := fun i hi => by
      split
      · exact gd_O
      · have := hH a i ha hi
        exact gd_CR hn hH 0 i _ _ hi (or_4096 hs (by omega)) (by omega)
    rw [hCR, smM_ex (f' := fun _ => mO) n hg rfl (fun i hi hne2 => ?_) hgd, smM_O fun _ _ => rfl, mP_O (hgd g hg)]
    · show (if _ then _ else _) = CB H g a (set ||| 2 ^ g) sp
      unfold CB
      rw [hset]
      by_cases c : H a g = 0
      · rw [if_pos (Or.inr c), if_pos c]
      · rw [if_neg (fun q => q.elim (fun q => absurd q (by decide)) c), if_neg c]
        simp only [CR]
        rw [if_pos trivial]
    · show mO = if _ then _ else _
      split
      · rfl
      · simp only [CR]
        rw [if_neg hne2]
  | succ r ih =>
    intro a set sp ha hne hset hs hsp
    have hCR : CR H n g (r + 1 + 1) a set sp = smM (fun o => if set.testBit o = true ∨ H a o = 0 then mO else CR H n g (r + 1) o (set ||| 2 ^ o) (sp + H a o)) n := by
      rw [CR]
      rw [if_neg hne]
    have hgd : ∀ i, i < n → gdM (if set.testBit i = true ∨ H a i = 0 then mO else CR H n g (r + 1) i (set ||| 2 ^ i) (sp + H a i)) := fun i hi => by
      split
      · exact gd_O
      · have := hH a i ha hi
        exact gd_CR hn hH (r + 1) i _ _ hi (or_4096 hs (by omega)) (by omega)
    rw [hCR, smM_ex (f' := fun o => if (set ||| 2 ^ g).testBit o = true ∨ H a o = 0 then mO else CC H n g r o ((set ||| 2 ^ g) ||| 2 ^ o) (sp + H a o)) n hg ?_ (fun i hi hne2 => ?_) hgd]
    · show mP _ _ = mP (CB H g a (set ||| 2 ^ g) sp) _
      congr 1
      unfold CB
      rw [hset]
      by_cases c : H a g = 0
      · rw [if_pos (Or.inr c), if_pos c]
      · rw [if_neg (fun q => q.elim (fun q => absurd q (by decide)) c), if_neg c]
        simp only [CR]
        rw [if_pos trivial]
    · show (if _ then _ else _) = mO
      rw [if_pos (Or.inl (by rw [Nat.testBit_or, Nat.testBit_two_pow_self, Bool.or_true]))]
    · have e : (set ||| 2 ^ g).testBit i = set.testBit i := by
        rw [Nat.testBit_or, Nat.testBit_two_pow_of_ne (Ne.symm hne2), Bool.or_false]
      show (if (set ||| 2 ^ g).testBit i = true ∨ H a i = 0 then mO else _) = (if set.testBit i = true ∨ H a i = 0 then mO else _)
      rw [e]
      by_cases c : set.testBit i = true ∨ H a i = 0
      · rw [if_pos c, if_pos c]
      · rw [if_neg c, if_neg c]
        have := hH a i ha hi
        have hb : (set ||| 2 ^ i).testBit g = false := by rw [Nat.testBit_or, Nat.testBit_two_pow_of_ne hne2, hset]; rfl
        rw [ih i (set ||| 2 ^ i) (sp + H a i) hi hne2 hb (or_4096 hs (by omega)) (by omega), Nat.or_assoc, Nat.or_assoc, Nat.or_comm (2 ^ i)]
/-- bounds of the number of ROUTES -/
def bdM : Nat → Nat
  | 0 => 1
  | r + 1 => 12 * bdM r
theorem smM_c {f : Nat → MW} {c : Nat} : ∀ n, (∀ i, i < n → (f i).1 ≤ c) → (smM f n).1 ≤ n * c := by
  intro n
  induction n with
  | zero => intro _; exact Nat.zero_le _
  | succ n ih =>
    intro h
    have a := ih fun i hi => h i (by omega)
    have b := h n (by omega)
    show (smM f n).1 + (f n).1 ≤ _
    rw [Nat.succ_mul]
    omega
theorem bd_pos : ∀ r, 1 ≤ bdM r := by
  intro r
  induction r with
  | zero => exact Nat.le_refl _
  | succ r ih => simp only [bdM]; omega
theorem CR_c (hn : n ≤ 12) : ∀ r a set sp, (CR H n g r a set sp).1 ≤ bdM r := by
  intro r
  induction r with
  | zero =>
    intro a set sp
    simp only [CR]
    split
    · exact Nat.le_refl _
    · exact Nat.zero_le _
  | succ r ih =>
    intro a set sp
    have hp := bd_pos r
    simp only [CR]
    split
    · show 1 ≤ 12 * bdM r; omega
    · have := smM_c (f := fun o => if set.testBit o = true ∨ H a o = 0 then mO else CR H n g r o (set ||| 2 ^ o) (sp + H a o)) (c := bdM r) n (fun i hi => by
        split
        · exact Nat.zero_le _
        · exact ih _ _ _)
      have h2 : n * bdM r ≤ 12 * bdM r := Nat.mul_le_mul_right _ hn
      show _ ≤ 12 * bdM r
      omega
/-- none found: nothing least -/
def nzM (x : MW) : Prop := x.1 = 0 → x.2.1 = 1000000
theorem nz_P {x y : MW} (h : nzM x) (h2 : nzM y) : nzM (mP x y) := by
  intro q
  have q : x.1 + y.1 = 0 := q
  show min x.2.1 y.2.1 = _
  rw [h (by omega), h2 (by omega)]
  rfl
theorem nz_S {f : Nat → MW} {n : Nat} (h : ∀ i, i < n → nzM (f i)) : nzM (smM f n) := by
  induction n with
  | zero => intro _; rfl
  | succ n ih => exact nz_P (ih fun i hi => h i (by omega)) (h n (by omega))
theorem nz_CR : ∀ r a set sp, nzM (CR H n g r a set sp) := by
  intro r
  induction r with
  | zero =>
    intro a set sp
    simp only [CR]
    split
    · intro q; exact absurd q (by simp)
    · intro _; rfl
  | succ r ih =>
    intro a set sp
    simp only [CR]
    split
    · intro q; exact absurd q (by simp)
    · refine nz_S fun o _ => ?_
      split
      · intro _; rfl
      · exact ih _ _ _
end CR2

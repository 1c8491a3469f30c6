/-! ===== a NET told by a text: what it is ===== -/
def ctP (tx : Nat → Nat) (tk : Nat) : Nat → Nat → (Nat → Nat) → Nat → Nat ⊕ (Nat × (Nat → Nat) × Nat)
  | 0, k, c, p => if sg tx tk p = 124 then .inr (k, c, p + 1) else .inl p
  | f + 1, k, c, p => if 48 ≤ sg tx tk p ∧ sg tx tk p ≤ 53 then ctP tx tk f (k + 1) (wset c k (sg tx tk p - 48)) (p + 1) else if 2 ≤ k ∧ sg tx tk p = 124 then .inr (k, c, p + 1) else .inl p
def h2N (H : Nat → Nat → Nat) (a b h : Nat) : Nat → Nat → Nat := fun x y => if (x = a ∧ y = b) ∨ (x = b ∧ y = a) then h else H x y
def rdP (n : Nat) (tx : Nat → Nat) (tk : Nat) : Nat → Nat → (Nat → Nat → Nat) → Nat → Nat ⊕ (Nat × (Nat → Nat → Nat) × Nat)
  | 0, _, _, _ => .inl 0
  | f + 1, q, H, p => match nuN tx tk (dgs n) 0 n p with
    | .inl e => .inl e
    | .inr (a, p1) => if sg tx tk p1 = 45 then (match nuN tx tk (dgs n) 0 n (p1 + 1) with
      | .inl e => .inl e
      | .inr (b, p2) => if a = b ∨ 0 < H a b then .inl (p2 - 1) else if sg tx tk p2 = 58 then (match nuN tx tk 2 1 100 (p2 + 1) with
        | .inl e => .inl e
        | .inr (h, p3) => if q + 1 < 40 ∧ sg tx tk p3 = 44 then rdP n tx tk f (q + 1) (h2N H a b h) (p3 + 1) else .inr (q + 1, h2N H a b h, p3)) else .inl p2) else .inl p1
def dtP (tx : Nat → Nat) (tk : Nat) : Nat → Nat → (Nat → Nat) → Nat → Nat ⊕ (Nat × (Nat → Nat) × Nat)
  | 0, _, _, _ => .inl 0
  | f + 1, g, dd, p => match nuN tx tk 3 1 1000 p with
    | .inl e => .inl e
    | .inr (v, p1) => if g + 1 < 6 ∧ sg tx tk p1 = 44 then dtP tx tk f (g + 1) (wset dd g v) (p1 + 1) else .inr (g + 1, wset dd g v, p1)
def rdA (n : Nat) (tx : Nat → Nat) (tk p : Nat) : Nat ⊕ (Nat × (Nat → Nat → Nat) × Nat) := if p < tk ∧ ¬ sg tx tk p = 124 then rdP n tx tk 40 0 (fun _ _ => 0) p else .inr (0, fun _ _ => 0, p)
def dtA (tx : Nat → Nat) (tk p : Nat) : Nat ⊕ (Nat × (Nat → Nat) × Nat) := if sg tx tk p = 124 then dtP tx tk 6 0 (fun _ => 0) (p + 1) else .inr (0, fun _ => 0, p)
def ntP (tx : Nat → Nat) (tk : Nat) : Nat ⊕ (NT × Nat) := match ctP tx tk 12 0 (fun _ => 0) 0 with
  | .inl e => .inl e
  | .inr (n, c, p) => match rdA n tx tk p with
    | .inl e => .inl e
    | .inr (q, H, p2) => match dtA tx tk p2 with
      | .inl e => .inl e
      | .inr (g, dd, p3) => if p3 < tk then .inl p3 else .inr ((n, g, H, c, dd), q)
theorem rdN_d {tx : Nat → Nat} {tk : Nat} : ∀ n i v p, i + n ≤ 3 → (i = 0 ∧ v = 0 ∨ i = 1 ∧ v < 10 ∨ i = 2 ∧ 10 ≤ v ∧ v < 100 ∨ i = 3 ∧ 100 ≤ v ∧ v < 1000) → ((rdN tx tk n i v p).1 = 0 ∨ (rdN tx tk n i v p).1 = 1 ∧ (rdN tx tk n i v p).2.1 < 10 ∨ (rdN tx tk n i v p).1 = 2 ∧ 10 ≤ (rdN tx tk n i v p).2.1 ∧ (rdN tx tk n i v p).2.1 < 100 ∨ (rdN tx tk n i v p).1 = 3 ∧ 100 ≤ (rdN tx tk n i v p).2.1 ∧ (rdN tx tk n i v p).2.1 < 1000) := by
  intro n
  induction n with
  | zero =>
    intro i v p h1 h2
    simp only [rdN]
    omega
  | succ n ih =>
    intro i v p h1 h2
    simp only [rdN]
    by_cases c : (48 ≤ sg tx tk p ∧ sg tx tk p ≤ 57) ∧ (i = 0 ∨ 0 < v)
    · rw [if_pos c]
      exact ih (i + 1) _ _ (by omega) (by omega)
    · rw [if_neg c]
      show (i = 0 ∨ i = 1 ∧ v < 10 ∨ i = 2 ∧ 10 ≤ v ∧ v < 100 ∨ i = 3 ∧ 100 ≤ v ∧ v < 1000)
      omega
theorem dg_len {v : Nat} : (dgL v).length = if v < 10 then 1 else if v < 100 then 2 else 3 := by
  unfold dgL
  by_cases c1 : v < 10
  · rw [if_pos c1, if_neg (by omega), if_neg (by omega)]; rfl
  · rw [if_neg c1, if_pos (show 10 ≤ v by omega)]
    by_cases c2 : v < 100
    · rw [if_pos c2, if_neg (by omega)]; rfl
    · rw [if_neg c2, if_pos (by omega)]; rfl
theorem nuN_len {tx : Nat → Nat} {tk dg lo hi1 p v p' : Nat} (hp : p ≤ tk) (hd : dg ≤ 3) (h : nuN tx tk dg lo hi1 p = .inr (v, p')) : p' = p + (dgL v).length := by
  have a := nuR_r h
  have b := rdN_c (tx := tx) (tk := tk) hp hd
  have c := rdN_d (tx := tx) (tk := tk) dg 0 0 p (by omega) (Or.inl ⟨rfl, rfl⟩)
  rw [dg_len]
  generalize rdN tx tk dg 0 0 p = r at a b c
  obtain ⟨ri, rv, rp⟩ := r
  simp only at a b c
  split
  · omega
  · split <;> omega
/-- the length of the roads written down -/
def SR (H : Nat → Nat → Nat) (n k : Nat) : Nat := sumN (fun i => if rcd H n i = true then (rdL (i / 12) (i % 12) (H (i / 12) (i % 12))).length + 1 else 0) k
theorem SR_rl {H : Nat → Nat → Nat} {n : Nat} : ∀ k, (SR H n k = 0 ∧ rlL H n k = []) ∨ (rlL H n k ≠ [] ∧ (rlL H n k).length + 1 = SR H n k) := by
  intro k
  induction k with
  | zero => exact Or.inl ⟨rfl, rfl⟩
  | succ k ih =>
    have e : SR H n (k + 1) = SR H n k + if rcd H n k = true then (rdL (k / 12) (k % 12) (H (k / 12) (k % 12))).length + 1 else 0 := rfl
    rw [e]
    simp only [rlL]
    by_cases c : rcd H n k = true
    · rw [if_pos c, if_pos c]
      rcases ih with ⟨h1, h2⟩ | ⟨h1, h2⟩
      · rw [h2, if_pos rfl, h1]
        exact Or.inr ⟨rd_ne _ _ _, by omega⟩
      · rw [if_neg h1]
        refine Or.inr ⟨fun q => h1 (List.append_eq_nil_iff.mp q).1, ?_⟩
        simp only [List.length_append, List.length_cons, List.length_nil]
        omega
    · rw [if_neg c, if_neg c]
      exact ih
theorem rl_len {H : Nat → Nat → Nat} {n : Nat} : (rlL H n 144).length = SR H n 144 - 1 := by
  rcases SR_rl (H := H) (n := n) 144 with ⟨h1, h2⟩ | ⟨h1, h2⟩
  · rw [h2, h1]; rfl
  · omega
theorem sumN_upd {f g : Nat → Nat} {j d : Nat} : ∀ n, j < n → (∀ i, i < n → i ≠ j → g i = f i) → f j = g j + d → sumN f n = sumN g n + d := by
  intro n
  induction n with
  | zero => intro h; omega
  | succ n ih =>
    intro h h1 h2
    simp only [sumN]
    by_cases e : n = j
    · subst e
      rw [h2, sumN_congr (f := f) (g := g) fun i hi => (h1 i (by omega) (by omega)).symm]
      omega
    · rw [ih (by omega) (fun i hi => h1 i (by omega)) h2, h1 n (by omega) e]
      omega
theorem rd_len {a b h : Nat} : (rdL a b h).length = (dgL a).length + (dgL b).length + (dgL h).length + 2 := by
  unfold rdL
  simp only [List.length_append, List.length_cons, List.length_nil]
  omega
/-- roads that are a NET's -/
def hOK (n : Nat) (H : Nat → Nat → Nat) : Prop := (∀ a b, H a b ≤ 99) ∧ (∀ a b, H a b = H b a) ∧ (∀ a, H a a = 0) ∧ ∀ x y, ¬ (x < n ∧ y < n) → H x y = 0
theorem h2_ok {n : Nat} {H : Nat → Nat → Nat} {a b h : Nat} (ho : hOK n H) (ha : a < n) (hb : b < n) (hne : a ≠ b) (hh : h ≤ 99) : hOK n (h2N H a b h) := by
  obtain ⟨h1, h2, h3, h4⟩ := ho
  refine ⟨fun x y => ?_, fun x y => ?_, fun x => ?_, fun x y q => ?_⟩
  · show (if (x = a ∧ y = b) ∨ (x = b ∧ y = a) then h else H x y) ≤ 99
    split
    · exact hh
    · exact h1 x y
  · show (if (x = a ∧ y = b) ∨ (x = b ∧ y = a) then h else H x y) = (if (y = a ∧ x = b) ∨ (y = b ∧ x = a) then h else H y x)
    by_cases c : (x = a ∧ y = b) ∨ (x = b ∧ y = a)
    · rw [if_pos c, if_pos (by omega)]
    · rw [if_neg c, if_neg (by omega)]; exact h2 x y
  · show (if (x = a ∧ x = b) ∨ (x = b ∧ x = a) then h else H x x) = 0
    rw [if_neg (by omega)]; exact h3 x
  · show (if (x = a ∧ y = b) ∨ (x = b ∧ y = a) then h else H x y) = 0
    rw [if_neg (by omega)]; exact h4 x y q
theorem SR_h2 {n : Nat} {H : Nat → Nat → Nat} {a b h : Nat} (hn : n ≤ 12) (ho : hOK n H) (ha : a < n) (hb : b < n) (hne : a ≠ b) (h0 : H a b = 0) (hh : 0 < h) : SR (h2N H a b h) n 144 = SR H n 144 + ((rdL a b h).length + 1) := by
  obtain ⟨h1, h2, h3, h4⟩ := ho
  have hsym : (rdL a b h).length = (rdL b a h).length := by rw [rd_len, rd_len]; omega
  have key : ∀ x y, x < y → y < n → ((x = a ∧ y = b) ∨ (x = b ∧ y = a)) → H x y = 0 → SR (h2N H a b h) n 144 = SR H n 144 + ((rdL x y h).length + 1) := by
    intro x y hxy hyn hxy2 hz
    have kd : (12 * x + y) / 12 = x := by omega
    have km : (12 * x + y) % 12 = y := by omega
    refine sumN_upd (j := 12 * x + y) 144 (by omega) (fun i hi hne => ?_) ?_
    · have e : h2N H a b h (i / 12) (i % 12) = H (i / 12) (i % 12) ∨ ¬ i / 12 < i % 12 := by
        unfold h2N
        by_cases c : (i / 12 = a ∧ i % 12 = b) ∨ (i / 12 = b ∧ i % 12 = a)
        · exact Or.inr (by omega)
        · exact Or.inl (if_neg c)
      rcases e with e | e
      · unfold rcd
        rw [e]
      · have r1 : rcd H n i = false := decide_eq_false (by omega)
        have r2 : rcd (h2N H a b h) n i = false := decide_eq_false (by omega)
        rw [r1, r2, if_neg (by decide), if_neg (by decide)]
    · have hv : h2N H a b h x y = h := if_pos hxy2
      have r1 : rcd H n (12 * x + y) = false := decide_eq_false (by rw [kd, km]; omega)
      have r2 : rcd (h2N H a b h) n (12 * x + y) = true := decide_eq_true (by rw [kd, km, hv]; omega)
      rw [r1, r2, if_pos rfl, if_neg (by decide), kd, km, hv]
      omega
  rcases Nat.lt_or_ge a b with c | c
  · exact key a b c hb (Or.inl ⟨rfl, rfl⟩) h0
  · rw [hsym]
    exact key b a (by omega) ha (Or.inr ⟨rfl, rfl⟩) (by rw [h2]; exact h0)
theorem ctP_ok {tx : Nat → Nat} {tk : Nat} : ∀ f k c p n c' p', k + f = 12 → p = k → p ≤ tk → (∀ j, j < k → c j ≤ 5) → ctP tx tk f k c p = .inr (n, c', p') → 2 ≤ n ∧ n ≤ 12 ∧ (∀ j, j < n → c' j ≤ 5) ∧ p' = n + 1 ∧ p' ≤ tk := by
  intro f
  induction f with
  | zero =>
    intro k c p n c' p' hk hp htk hc h
    simp only [ctP] at h
    by_cases cs : sg tx tk p = 124
    · rw [if_pos cs] at h
      have := sg_lt cs (by omega)
      injection h with h
      injection h with h1 h
      injection h with h2 h3
      subst h1; subst h2; subst h3
      exact ⟨by omega, by omega, hc, by omega, by omega⟩
    · rw [if_neg cs] at h; cases h
  | succ f ih =>
    intro k c p n c' p' hk hp htk hc h
    simp only [ctP] at h
    by_cases cd : 48 ≤ sg tx tk p ∧ sg tx tk p ≤ 53
    · rw [if_pos cd] at h
      have hlt : p < tk := by
        rcases Nat.lt_or_ge p tk with q | q
        · exact q
        · have : sg tx tk p = 999 := if_neg (by omega)
          omega
      exact ih _ _ _ _ _ _ (by omega) (by omega) hlt (fun j hj => by
        by_cases e : j = k
        · subst e; rw [wset_eq]; omega
        · rw [wset_ne e]; exact hc j (by omega)) h
    · rw [if_neg cd] at h
      by_cases cs : 2 ≤ k ∧ sg tx tk p = 124
      · rw [if_pos cs] at h
        have := sg_lt cs.2 (by omega)
        injection h with h
        injection h with h1 h
        injection h with h2 h3
        subst h1; subst h2; subst h3
        exact ⟨by omega, by omega, hc, by omega, by omega⟩
      · rw [if_neg cs] at h; cases h
theorem rdP_ok {n : Nat} {tx : Nat → Nat} {tk : Nat} (hn : n ≤ 12) : ∀ f q H p p0 q' H' p', hOK n H → p ≤ tk → p = p0 + SR H n 144 → rdP n tx tk f q H p = .inr (q', H', p') → hOK n H' ∧ p' = p0 + (rlL H' n 144).length ∧ p' ≤ tk := by
  intro f
  induction f with
  | zero => intro q H p p0 q' H' p' _ _ _ h; cases h
  | succ f ih =>
    intro q H p p0 q' H' p' ho hp hp0 h
    simp only [rdP] at h
    cases h1 : nuN tx tk (dgs n) 0 n p with
    | inl e => rw [h1] at h; cases h
    | inr r =>
      obtain ⟨a, p1⟩ := r
      rw [h1] at h
      simp only at h
      obtain ⟨-, a2, -, -, -, a6⟩ := nuN_r hp (dgs_le n).2 h1
      have a7 := nuN_len hp (dgs_le n).2 h1
      by_cases c45 : sg tx tk p1 = 45
      · rw [if_pos c45] at h
        have l1 := sg_lt c45 (by omega)
        cases h2 : nuN tx tk (dgs n) 0 n (p1 + 1) with
        | inl e => rw [h2] at h; cases h
        | inr r =>
          obtain ⟨b, p2⟩ := r
          rw [h2] at h
          simp only at h
          obtain ⟨-, b2, -, -, -, b6⟩ := nuN_r (by omega) (dgs_le n).2 h2
          have b7 := nuN_len (by omega) (dgs_le n).2 h2
          by_cases cab : a = b ∨ 0 < H a b
          · rw [if_pos cab] at h; cases h
          · rw [if_neg cab] at h
            by_cases c58 : sg tx tk p2 = 58
            · rw [if_pos c58] at h
              have l2 := sg_lt c58 (by omega)
              cases h3 : nuN tx tk 2 1 100 (p2 + 1) with
              | inl e => rw [h3] at h; cases h
              | inr r =>
                obtain ⟨hh, p3⟩ := r
                rw [h3] at h
                simp only at h
                obtain ⟨d1, d2, -, -, -, d6⟩ := nuN_r (by omega) (by decide) h3
                have d7 := nuN_len (by omega) (by decide) h3
                have ho2 := h2_ok (h := hh) ho a2 b2 (by omega) (by omega)
                have hSR := SR_h2 (h := hh) hn ho a2 b2 (by omega) (by omega) (by omega)
                have hlen := rd_len (a := a) (b := b) (h := hh)
                by_cases c44 : q + 1 < 40 ∧ sg tx tk p3 = 44
                · rw [if_pos c44] at h
                  exact ih _ _ _ p0 _ _ _ ho2 (sg_lt c44.2 (by omega)) (by omega) h
                · rw [if_neg c44] at h
                  injection h with h
                  injection h with q1 h
                  injection h with q2 q3
                  subst q1; subst q2; subst q3
                  rw [rl_len]
                  exact ⟨ho2, by omega, d6⟩
            · rw [if_neg c58] at h; cases h
      · rw [if_neg c45] at h; cases h
theorem dt_congr {d1 d2 : Nat → Nat} : ∀ g, (∀ j, j < g → d1 j = d2 j) → dtL d1 g = dtL d2 g := by
  intro g
  induction g with
  | zero => intro _; rfl
  | succ g ih => intro h; simp only [dtL]; rw [ih fun j hj => h j (by omega), h g (by omega)]
theorem dtP_ok {tx : Nat → Nat} {tk : Nat} : ∀ f g dd p p0 g' dd' p', g + f = 6 → p ≤ tk → p = p0 + (dtL dd g).length + 1 → (∀ j, j < g → 1 ≤ dd j ∧ dd j ≤ 999) → dtP tx tk f g dd p = .inr (g', dd', p') → g' ≤ 6 ∧ (∀ j, j < g' → 1 ≤ dd' j ∧ dd' j ≤ 999) ∧ p' = p0 + (dtL dd' g').length ∧ p' ≤ tk := by
  intro f
  induction f with
  | zero => intro g dd p p0 g' dd' p' _ _ _ _ h; cases h
  | succ f ih =>
    intro g dd p p0 g' dd' p' hg hp hp0 hd h
    simp only [dtP] at h
    cases h1 : nuN tx tk 3 1 1000 p with
    | inl e => rw [h1] at h; cases h
    | inr r =>
      obtain ⟨v, p1⟩ := r
      rw [h1] at h
      simp only at h
      obtain ⟨d1, d2, -, -, -, d6⟩ := nuN_r hp (by decide) h1
      have d7 := nuN_len hp (by decide) h1
      have hd2 : ∀ j, j < g + 1 → 1 ≤ wset dd g v j ∧ wset dd g v j ≤ 999 := fun j hj => by
        by_cases e : j = g
        · subst e; rw [wset_eq]; omega
        · rw [wset_ne e]; exact hd j (by omega)
      have hl : (dtL (wset dd g v) (g + 1)).length = (dtL dd g).length + 1 + (dgL v).length := by
        simp only [dtL]
        rw [dt_congr (d1 := wset dd g v) (d2 := dd) g (fun j hj => wset_ne (by omega)), wset_eq]
        simp only [List.length_append, List.length_cons, List.length_nil]
        omega
      by_cases c44 : g + 1 < 6 ∧ sg tx tk p1 = 44
      · rw [if_pos c44] at h
        exact ih _ _ _ p0 _ _ _ (by omega) (sg_lt c44.2 (by omega)) (by omega) hd2 h
      · rw [if_neg c44] at h
        injection h with h
        injection h with q1 h
        injection h with q2 q3
        subst q1; subst q2; subst q3
        exact ⟨by omega, hd2, by omega, d6⟩
theorem SR_0 {n : Nat} : ∀ k, SR (fun _ _ => 0) n k = 0 := fun k => sumN_zero fun i _ => if_neg (by
  have : rcd (fun _ _ => 0) n i = false := decide_eq_false (fun q => absurd q.2.2 (Nat.lt_irrefl 0))
  rw [this]
  decide)
theorem ntP_ok {tx : Nat → Nat} {tk q : Nat} {N : NT} (h : ntP tx tk = .inr (N, q)) : wfN N ∧ (wtx N).length = tk ∧ ∀ x y, ¬ (x < N.1 ∧ y < N.1) → N.2.2.1 x y = 0 := by
  unfold ntP at h
  cases h1 : ctP tx tk 12 0 (fun _ => 0) 0 with
  | inl e => rw [h1] at h; cases h
  | inr r =>
    obtain ⟨n, c, p⟩ := r
    rw [h1] at h
    simp only at h
    obtain ⟨c1, c2, c3, c4, c5⟩ := ctP_ok 12 0 _ 0 n c p rfl rfl (Nat.zero_le _) (fun j hj => absurd hj (Nat.not_lt_zero _)) h1
    have h0 : hOK n (fun _ _ => 0) := ⟨fun _ _ => Nat.zero_le _, fun _ _ => rfl, fun _ => rfl, fun _ _ _ => rfl⟩
    cases h2 : rdA n tx tk p with
    | inl e => rw [h2] at h; cases h
    | inr r =>
      obtain ⟨q', H, p2⟩ := r
      rw [h2] at h
      simp only at h
      have hr : hOK n H ∧ p2 = p + (rlL H n 144).length ∧ p2 ≤ tk := by
        unfold rdA at h2
        by_cases cc : p < tk ∧ ¬ sg tx tk p = 124
        · rw [if_pos cc] at h2
          exact rdP_ok c2 40 0 _ p p _ _ _ h0 c5 (by rw [SR_0]; rfl) h2
        · rw [if_neg cc] at h2
          injection h2 with h2
          injection h2 with q1 h2
          injection h2 with q2 q3
          subst q2; subst q3
          rw [rl_len, SR_0]
          exact ⟨h0, rfl, c5⟩
      obtain ⟨r1, r2, r3⟩ := hr
      cases h3 : dtA tx tk p2 with
      | inl e => rw [h3] at h; cases h
      | inr r =>
        obtain ⟨g, dd, p3⟩ := r
        rw [h3] at h
        simp only at h
        have hd : g ≤ 6 ∧ (∀ j, j < g → 1 ≤ dd j ∧ dd j ≤ 999) ∧ p3 = p2 + (dtL dd g).length ∧ p3 ≤ tk := by
          unfold dtA at h3
          by_cases cc : sg tx tk p2 = 124
          · rw [if_pos cc] at h3
            exact dtP_ok 6 0 _ (p2 + 1) p2 _ _ _ rfl (sg_lt cc (by omega)) rfl (fun j hj => absurd hj (Nat.not_lt_zero _)) h3
          · rw [if_neg cc] at h3
            injection h3 with h3
            injection h3 with q1 h3
            injection h3 with q2 q3
            subst q1; subst q2; subst q3
            exact ⟨Nat.zero_le _, fun j hj => absurd hj (Nat.not_lt_zero _), rfl, r3⟩
        obtain ⟨d1, d2, d3, d4⟩ := hd
        by_cases cp : p3 < tk
        · rw [if_pos cp] at h; cases h
        · rw [if_neg cp] at h
          injection h with h
          injection h with q1 q2
          subst q1
          obtain ⟨o1, o2, o3, o4⟩ := r1
          refine ⟨⟨c1, c2, d1, fun a b _ _ => o1 a b, fun a b _ _ => o2 a b, fun a _ => o3 a, c3, d2⟩, ?_, o4⟩
          unfold wtx
          simp only [List.length_append, List.length_cons, List.length_nil, ct_len]
          omega

/-! ===== the reference measures to one office ===== -/
section GT
variable {H : Nat → Nat → Nat} {n g : Nat}
theorem ds_bd (hH : ∀ a b, a < n → b < n → H a b ≤ 99) (hg : g < n) : ∀ k a, a < n → rkN H n g a ≤ k → dsN H n a g < 1000000 → dsN H n a g ≤ 99 * k := by
  intro k
  induction k with
  | zero =>
    intro a ha hk h
    by_cases e : a = g
    · subst e; rw [ds_self]; omega
    · have := rk_0 (H := H) ha hg e; omega
  | succ k ih =>
    intro a ha hk h
    by_cases e : a = g
    · subst e; rw [ds_self]; omega
    · obtain ⟨c, hc, h1, h2⟩ := ds_N ha hg e h
      have h3 := rk_lt (H := H) (n := n) (a := a) (b := g) hc (by omega)
      have h4 := hH a c ha hc
      have := ih c hc (by omega) (by omega)
      omega
theorem ds_bd' (hH : ∀ a b, a < n → b < n → H a b ≤ 99) (hg : g < n) (h12 : n ≤ 12) {a : Nat} (ha : a < n) (h : dsN H n a g < 1000000) : dsN H n a g ≤ 1089 := by
  have h1 := rk_n (H := H) (b := g) ha
  have := ds_bd hH hg 11 a ha (by omega) h
  omega
/-- how far, as the reference has it -/
def rfN (H : Nat → Nat → Nat) (n g a : Nat) : Nat := if dsN H n a g < 1000000 then dsN H n a g else 1000000000
theorem rf_E (hH : ∀ a b, a < n → b < n → H a b ≤ 99) (hg : g < n) (h12 : n ≤ 12) {a b : Nat} (hb : b < n) (hr : 0 < H a b) (ha : a < n) : rfN H n g a ≤ H a b + rfN H n g b := by
  have h1 := ds_E (b := g) hb hr
  unfold rfN
  by_cases c : dsN H n b g < 1000000
  · have := ds_bd' hH hg h12 hb c
    have := hH a b ha hb
    rw [if_pos c, if_pos (by omega)]
    exact h1
  · rw [if_neg c]
    split <;> omega
def TR (n : Nat) (t : Nat → Nat) (m : lt_m) : Prop := ∀ o, o < n → m.1 724 o = nI (t o)
def LB (H : Nat → Nat → Nat) (n g : Nat) (t : Nat → Nat) : Prop := ∀ o, o < n → rfN H n g o ≤ t o ∧ t o ≤ 1000000000
end GT
/-- all but the reference's row of distances -/
def tfr (m M : lt_m) : Prop := (∀ b, b ≠ 724 → M.1 b = m.1 b) ∧ M.2 = m.2
theorem tfr_rf (m : lt_m) : tfr m m := ⟨fun _ _ => rfl, rfl⟩
theorem tfr_tr {a b c : lt_m} (h1 : tfr a b) (h2 : tfr b c) : tfr a c := ⟨fun x k => (h2.1 x k).trans (h1.1 x k), h2.2.trans h1.2⟩
theorem tfr_i {m : lt_m} {k : Nat} {v : Int32} : tfr m (lm_i m 724 k v) := ⟨fun b hb => lm_i_ne hb, rfl⟩
theorem ml_t {N : NT} {w : Nat → Nat} {m M : lt_m} (h : tfr m M) (hm : ml N w 711 m) : ml N w 711 M := by
  obtain ⟨h0, h1, h2, h3, h4, h5⟩ := hm
  exact ⟨by rw [h.1 (711 + 1) (by omega)]; exact h0, by rw [h.1 711 (by omega)]; exact h1, by rw [h.1 711 (by omega)]; exact h2, by rw [h.1 (711 + 4) (by omega)]; exact h3, by rw [h.1 (711 + 6) (by omega)]; exact h4, by rw [h.1 (711 + 5) (by omega)]; exact h5⟩
section GT2
variable {N : NT} {w : Nat → Nat} {g : Nat}
theorem TR_set {t : Nat → Nat} {n a v : Nat} {m : lt_m} (h : TR n t m) : TR n (wset t a v) (lm_i m 724 a (nI v)) := by
  intro o ho
  by_cases c : o = a
  · subst c; rw [lm_i_eq, wset_eq]
  · rw [lm_i_ns (by omega), wset_ne c]; exact h o ho
/-- one office's roads -/
theorem m201c (hN : wfN N) (hg : g < N.1) (x1 x2 : Int32) {a : Nat} (ha : a < N.1) : ∀ r b t m, b + r = N.1 → ml N w 711 m → TR N.1 t m → LB N.2.2.1 N.1 g t → ∃ t' M, (∀ d, L201_56 (d + 1) 711 x1 x2 (nI a) (nI b) m = L201_45 (d + 1) 711 x1 x2 (nI (a + 1)) (some (.inl (nI N.1))) M) ∧ TR N.1 t' M ∧ LB N.2.2.1 N.1 g t' ∧ tfr m M ∧ (∀ o, t' o ≤ t o) ∧ (∀ o, o ≠ a → t' o = t o) ∧ ∀ b', b ≤ b' → b' < N.1 → 0 < N.2.2.1 a b' → t' a ≤ N.2.2.1 a b' + t b' := by
  have hn1 := hN.1
  have hn2 := hN.2.1
  intro r
  induction r with
  | zero =>
    intro b t m hb hml ht hl
    have hb : b = N.1 := hb
    subst hb
    refine ⟨t, m, fun d => ?_, ht, hl, tfr_rf m, fun _ => Nat.le_refl _, fun _ _ => rfl, fun b' h1 h2 => by omega⟩
    rw [E201_56 _ _ _ _ _ _ sy, hml.2.1, if_pos (by rw [sp_len (by omega) (by omega)]; exact Nat.le_refl _), nI_1]
  | succ r ih =>
    intro b t m hb hml ht hl
    have hb2 : b < N.1 := by omega
    have hh := hN.2.2.2.1 a b ha hb2
    have la := hl a ha
    have lb := hl b hb2
    by_cases c : N.2.2.1 a b = 0
    · obtain ⟨t', M, e1, i1, l1, f1, d1, q1, p1⟩ := ih (b + 1) t m (by omega) hml ht hl
      refine ⟨t', M, fun d => ?_, i1, l1, f1, d1, q1, fun b' h1 h2 h3 => p1 b' (by
        by_cases e : b' = b
        · subst e; omega
        · omega) h2 h3⟩
      rw [E201_56 _ _ _ _ _ _ sy, hml.2.1, if_neg (by rw [sp_len (by omega) (by omega)]; omega), m194 d sy hml hN ha hb2, lt_cI_s, if_pos (by rw [sp_le0 (by omega)]; omega), nI_1, e1 d]
    · obtain ⟨v, hv⟩ : ∃ v, v = min (t a) (N.2.2.1 a b + t b) := ⟨_, rfl⟩
      have hab : a ≠ b := fun q => c (by rw [q]; exact hN.2.2.2.2.2.1 b hb2)
      have hl2 : LB N.2.2.1 N.1 g (wset t a v) := by
        intro o ho
        by_cases e : o = a
        · subst e
          rw [wset_eq]
          have := rf_E hN.2.2.2.1 hg hn2 hb2 (show 0 < N.2.2.1 o b by omega) ho
          omega
        · rw [wset_ne e]; exact hl o ho
      obtain ⟨t', M, e1, i1, l1, f1, d1, q1, p1⟩ := ih (b + 1) (wset t a v) (lm_i m 724 a (nI v)) (by omega) (ml_t tfr_i hml) (TR_set ht) hl2
      have hd : ∀ o, t' o ≤ t o := fun o => by
        have := d1 o
        by_cases e : o = a
        · subst e; rw [wset_eq] at this; omega
        · rw [wset_ne e] at this; exact this
      refine ⟨t', M, fun d => ?_, i1, l1, tfr_tr tfr_i f1, hd, fun o ho => by rw [q1 o ho, wset_ne ho], fun b' h1 h2 h3 => ?_⟩
      · rw [E201_56 _ _ _ _ _ _ sy, hml.2.1, if_neg (by rw [sp_len (by omega) (by omega)]; omega), m194 d sy hml hN ha hb2, lt_cI_s, if_neg (by rw [sp_le0 (by omega)]; omega), lt_gd_t (sp_gd (by omega) (by omega)), m194 d sy hml hN ha hb2, lt_cI_s, lt_gd_t (sp_gd (by omega) (by omega)), lt_gd_t (sp_gd (by omega) (by omega)), nI_clamp (by omega), nI_clamp (by omega), show m.1 (711 + 13) a = nI (t a) from ht a ha, show m.1 (711 + 13) b = nI (t b) from ht b hb2, nI_add, sp_min (by omega) (by omega), ← hv, nI_1]
        exact e1 d
      · by_cases e : b' = b
        · subst e
          have := d1 a
          rw [wset_eq] at this
          omega
        · have := p1 b' (by omega) h2 h3
          rw [wset_ne (by rintro rfl; exact hab (by have := hN.2.2.2.2.2.1 b' h2; omega))] at this
          exact this
/-- one pass -/
theorem m201p (hN : wfN N) (hg : g < N.1) (x1 x2 : Int32) : ∀ r a t o4 m, a + r = N.1 → ml N w 711 m → TR N.1 t m → LB N.2.2.1 N.1 g t → ∃ t' M o3' o4', (∀ d, L201_45 (d + 1) 711 x1 x2 (nI a) o4 m = L201_35 (d + 1) 711 x1 (x2 + 1) o3' o4' M) ∧ TR N.1 t' M ∧ LB N.2.2.1 N.1 g t' ∧ tfr m M ∧ (∀ o, t' o ≤ t o) ∧ ∀ a' b', a ≤ a' → a' < N.1 → b' < N.1 → 0 < N.2.2.1 a' b' → t' a' ≤ N.2.2.1 a' b' + t b' := by
  have hn1 := hN.1
  have hn2 := hN.2.1
  intro r
  induction r with
  | zero =>
    intro a t o4 m ha hml ht hl
    have ha : a = N.1 := ha
    subst ha
    refine ⟨t, m, some (.inl (nI N.1)), o4, fun d => ?_, ht, hl, tfr_rf m, fun _ => Nat.le_refl _, fun a' b' h1 h2 => by omega⟩
    rw [E201_45 _ _ _ _ _ _ sy, hml.2.1, if_pos (by rw [sp_len (by omega) (by omega)]; exact Nat.le_refl _)]
  | succ r ih =>
    intro a t o4 m ha hml ht hl
    obtain ⟨t1, M1, e1, i1, l1, f1, d1, q1, p1⟩ := m201c hN hg x1 x2 (a := a) (by omega) N.1 0 t m (by omega) hml ht hl
    obtain ⟨t2, M2, o3', o4', e2, i2, l2, f2, d2, p2⟩ := ih (a + 1) t1 (some (.inl (nI N.1))) M1 (by omega) (ml_t f1 hml) i1 l1
    refine ⟨t2, M2, o3', o4', fun d => ?_, i2, l2, tfr_tr f1 f2, fun o => Nat.le_trans (d2 o) (d1 o), fun a' b' h1 h2 h3 h4 => ?_⟩
    · rw [E201_45 _ _ _ _ _ _ sy, hml.2.1, if_neg (by rw [sp_len (by omega) (by omega)]; omega)]
      exact (e1 d).trans (e2 d)
    · by_cases e : a' = a
      · subst e
        exact Nat.le_trans (d2 a') (p1 b' (Nat.zero_le _) h3 h4)
      · have := p2 a' b' (by omega) h2 h3 h4
        have := d1 b'
        omega
theorem m201k (hN : wfN N) (hg : g < N.1) (x1 : Int32) : ∀ r k t o3 o4 m, k + r = N.1 → ml N w 711 m → TR N.1 t m → LB N.2.2.1 N.1 g t → (∀ a, a < N.1 → dsN N.2.2.1 N.1 a g < 1000000 → rkN N.2.2.1 N.1 g a ≤ k → t a ≤ dsN N.2.2.1 N.1 a g) → ∃ M, (∀ d, L201_35 (d + 1) 711 x1 (nI k) o3 o4 m = some (none, M)) ∧ TR N.1 (rfN N.2.2.1 N.1 g) M ∧ tfr m M := by
  have hn1 := hN.1
  have hn2 := hN.2.1
  intro r
  induction r with
  | zero =>
    intro k t o3 o4 m hk hml ht hl hC
    have hk : k = N.1 := hk
    subst hk
    refine ⟨m, fun d => ?_, fun o ho => ?_, tfr_rf m⟩
    · rw [E201_35 _ _ _ _ _ _ sy, hml.2.1, if_pos (by rw [sp_len (by omega) (by omega)]; exact Nat.le_refl _)]
    · rw [ht o ho]
      have h1 := hl o ho
      have h2 := rk_n (H := N.2.2.1) (b := g) ho
      congr 1
      unfold rfN at h1 ⊢
      by_cases c : dsN N.2.2.1 N.1 o g < 1000000
      · rw [if_pos c] at h1 ⊢
        have := hC o ho c (by omega)
        omega
      · rw [if_neg c] at h1 ⊢
        omega
  | succ r ih =>
    intro k t o3 o4 m hk hml ht hl hC
    obtain ⟨t1, M1, o3', o4', e1, i1, l1, f1, d1, p1⟩ := m201p hN hg x1 (nI k) N.1 0 t o4 m (by omega) hml ht hl
    obtain ⟨M, e2, i2, f2⟩ := ih (k + 1) t1 o3' o4' M1 (by omega) (ml_t f1 hml) i1 l1 (fun a ha hd hr => by
      by_cases e : a = g
      · subst e
        have h0 := hC a ha hd (by
          have : rkN N.2.2.1 N.1 a a = 0 := by
            unfold rkN
            rw [ds_self]
            exact sumN_zero fun i _ => if_neg (Nat.not_lt_zero _)
          omega)
        exact Nat.le_trans (d1 a) h0
      · obtain ⟨c, hc, h1, h2⟩ := ds_N ha hg e hd
        have h3 := rk_lt (H := N.2.2.1) (n := N.1) (a := a) (b := g) hc (by omega)
        have h4 := hC c hc (by omega) (by omega)
        have h5 := p1 a c (Nat.zero_le _) ha hc h1
        omega)
    refine ⟨M, fun d => ?_, i2, tfr_tr f1 f2⟩
    rw [E201_35 _ _ _ _ _ _ sy, hml.2.1, if_neg (by rw [sp_len (by omega) (by omega)]; omega)]
    have := e1 d
    rw [nI_1] at this
    exact this.trans (e2 d)
theorem m201i (hN : wfN N) (hg : g < N.1) : ∀ r k m, k + r = N.1 → ml N w 711 m → (∀ o, o < k → m.1 724 o = nI (if o = g then 0 else 1000000000)) → ∃ M, (∀ d, L201_2 (d + 1) 711 (nI g) (nI k) m = L201_35 (d + 1) 711 (nI g) 0 none none M) ∧ TR N.1 (fun o => if o = g then 0 else 1000000000) M ∧ tfr m M := by
  have hn1 := hN.1
  have hn2 := hN.2.1
  intro r
  induction r with
  | zero =>
    intro k m hk hml hi
    have hk : k = N.1 := hk
    subst hk
    refine ⟨m, fun d => ?_, hi, tfr_rf m⟩
    rw [E201_2 _ _ _ _ sy, hml.2.1, if_pos (by rw [sp_len (by omega) (by omega)]; exact Nat.le_refl _)]
  | succ r ih =>
    intro k m hk hml hi
    obtain ⟨M, e1, i1, f1⟩ := ih (k + 1) (lm_i m 724 k (nI (if k = g then 0 else 1000000000))) (by omega) (ml_t tfr_i hml) (fun o ho => by
      by_cases e : o = k
      · subst e; rw [lm_i_eq]
      · rw [lm_i_ns (by omega)]; exact hi o (by omega))
    refine ⟨M, fun d => ?_, i1, tfr_tr tfr_i f1⟩
    rw [E201_2 _ _ _ _ sy, hml.2.1, if_neg (by rw [sp_len (by omega) (by omega)]; omega), ← e1 d, nI_1]
    by_cases c : k = g
    · rw [if_neg (by rw [c]; exact fun q => q rfl), lt_gd_t (sp_gd (by omega) (by omega)), nI_clamp (by omega), if_pos c]
      rfl
    · rw [if_pos (by rw [sp_eqn (by omega) (by omega)]; exact c), lt_gd_t (sp_gd (by omega) (by omega)), nI_clamp (by omega), if_neg c]
      rfl
/-- goesTo -/
theorem m201 (hN : wfN N) (hg : g < N.1) {m : lt_m} (hml : ml N w 711 m) : ∃ M, (∀ d, lt_ev (d + 2) 201 [.inr (.inr (some 711)), .inl (nI g)] m = some (none, M)) ∧ TR N.1 (rfN N.2.2.1 N.1 g) M ∧ tfr m M := by
  obtain ⟨M1, e1, i1, f1⟩ := m201i (w := w) hN hg N.1 0 m (by omega) hml (fun o ho => absurd ho (Nat.not_lt_zero _))
  have hl : LB N.2.2.1 N.1 g (fun o => if o = g then 0 else 1000000000) := by
    intro o ho
    simp only
    by_cases e : o = g
    · subst e
      rw [if_pos rfl]
      unfold rfN
      rw [ds_self, if_pos (by omega)]
      omega
    · rw [if_neg e]
      unfold rfN
      split <;> omega
  obtain ⟨M2, e2, i2, f2⟩ := m201k (w := w) hN hg (nI g) N.1 0 _ none none M1 (by omega) (ml_t f1 hml) i1 hl (fun a ha hd hr => by
    have e : a = g := by
      by_cases e : a = g
      · exact e
      · have := rk_0 (H := N.2.2.1) ha hg e; omega
    show (if a = g then 0 else 1000000000) ≤ _
    rw [if_pos e]
    exact Nat.zero_le _)
  exact ⟨M2, fun d => (E201 (d + 1) 711 _ sy m).trans ((e1 d).trans (e2 d)), i2, tfr_tr f1 f2⟩
end GT2

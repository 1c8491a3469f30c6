/-! ===== the reference reads a NET ===== -/
section MRD
variable {n : Nat} {tx : Nat → Nat} {tk p e : Nat} {c : Nat → Nat}
def hfr (k0 b0 : Nat) (m M : lt_m) : Prop := (∀ b k, ¬ (b = 711 ∧ (k = 17 ∨ k = 18 ∨ k = k0)) → b ≠ b0 → M.1 b k = m.1 b k) ∧ M.2 = m.2
theorem hfr_rf {k0 b0 : Nat} (m : lt_m) : hfr k0 b0 m m := ⟨fun _ _ _ _ => rfl, rfl⟩
theorem hfr_tr {k0 b0 : Nat} {a b c : lt_m} (h1 : hfr k0 b0 a b) (h2 : hfr k0 b0 b c) : hfr k0 b0 a c := ⟨fun x k g1 g2 => (h2.1 x k g1 g2).trans (h1.1 x k g1 g2), h2.2.trans h1.2⟩
theorem hfr_i {k0 b0 : Nat} {m : lt_m} {a k : Nat} {v : Int32} (h : (a = 711 ∧ (k = 17 ∨ k = 18 ∨ k = k0)) ∨ a = b0) : hfr k0 b0 m (lm_i m a k v) := ⟨fun b j g1 g2 => lm_i_ns (by rintro ⟨rfl, rfl⟩; rcases h with h | h; exact g1 h; exact g2 h), rfl⟩
theorem hfr_r {k0 b0 : Nat} {m M : lt_m} (h : rfr m M) : hfr k0 b0 m M := ⟨fun b k g1 _ => h.1 b k (by omega), h.2⟩
theorem nu1n (h : ¬ (48 ≤ sg tx tk p ∧ sg tx tk p ≤ 53)) : nuN tx tk 1 0 6 p = .inl p := by
  by_cases c9 : 48 ≤ sg tx tk p ∧ sg tx tk p ≤ 57
  · have e : rdN tx tk 1 0 0 p = (1, sg tx tk p - 48, p + 1) := by
      show (if (48 ≤ sg tx tk p ∧ sg tx tk p ≤ 57) ∧ ((0 : Nat) = 0 ∨ 0 < 0) then rdN tx tk 0 (0 + 1) (10 * 0 + (sg tx tk p - 48)) (p + 1) else (0, 0, p)) = _
      rw [if_pos ⟨⟨c9.1, by omega⟩, Or.inl rfl⟩]
      show ((1 : Nat), 10 * 0 + (sg tx tk p - 48), p + 1) = _
      rw [Nat.mul_zero, Nat.zero_add]
    unfold nuN
    rw [e]
    unfold nuR
    rw [if_neg (by simp), if_neg (show ¬ (0 ≤ sg tx tk p - 48 ∧ sg tx tk p - 48 < 6) by omega)]
    rfl
  · have e : rdN tx tk 1 0 0 p = (0, 0, p) := by
      show (if (48 ≤ sg tx tk p ∧ sg tx tk p ≤ 57) ∧ ((0 : Nat) = 0 ∨ 0 < 0) then rdN tx tk 0 (0 + 1) (10 * 0 + (sg tx tk p - 48)) (p + 1) else (0, 0, p)) = _
      rw [if_neg (fun q => c9 q.1)]
    unfold nuN
    rw [e]
    unfold nuR
    rw [if_pos rfl]
/-- countries -/
def d0M (k : Nat) (c : Nat → Nat) (m : lt_m) : Prop := m.1 711 19 = nI k ∧ ∀ j, j < k → m.1 720 j = nI (c j)
def ctM (tx : Nat → Nat) (tk : Nat) (M : lt_m) (x : Nat ⊕ (Nat × (Nat → Nat) × Nat)) : Prop := match x with
  | .inl e => rbd tx tk e M
  | .inr (n, c, p) => rrd tx tk p M ∧ d0M n c M
theorem m185l : ∀ f k c p m o, k + f = 12 → rrd tx tk p m → d0M k c m → ∃ M, (∀ d, L185_5 (d + 2) 711 o m = some (none, M)) ∧ hfr 19 720 m M ∧ ctM tx tk M (ctP tx tk f k c p) := by
  have bar : ∀ k c p m, rrd tx tk p m → d0M k c m → sg tx tk p = 124 → (∀ d, lt_ev (d + 2) 189 [.inr (.inr (some 711)), .inl (124 : Int32)] m = some (none, lm_i m 711 17 (nI (p + 1)))) ∧ hfr 19 720 m (lm_i m 711 17 (nI (p + 1))) ∧ rrd tx tk (p + 1) (lm_i m 711 17 (nI (p + 1))) ∧ d0M k c (lm_i m 711 17 (nI (p + 1))) := by
    intro k c p m h hd cs
    obtain ⟨e1, h1⟩ := m189t (c := 124) (by omega) h cs
    exact ⟨e1, hfr_i (by omega), h1, by rw [lm_i_ns (by omega)]; exact hd.1, fun j hj => by rw [lm_i_ne (by decide)]; exact hd.2 j hj⟩
  have sees : ∀ p m, rrd tx tk p m → ((if p < tk then nI (tx p) else (-1 : Int32)) = (124 : Int32)) = (sg tx tk p = 124) := fun p m h => rsg (c := 124) (by omega) h
  intro f
  induction f with
  | zero =>
    intro k c p m o hk h hd
    have hk : k = 12 := hk
    subst hk
    have hp := h.2.1
    have htk := h.1.1
    have head : ∀ d, L185_5 (d + 2) 711 o m = if sg tx tk p = 124 then (lt_cV (lt_ev (d + 2) 189 [.inr (.inr (some 711)), .inl (124 : Int32)] m) (fun m3 => (some (none, m3)))) else (L185_30 (d + 2) 711 (o) m) := fun d => by
      rw [E185_5 _ _ _ sy, if_neg (fun q => q h.2.2.2), hd.1, if_neg (by decide), m186 (d + 1) h, lt_cI_s]
      simp only [sees p m h]
    simp only [ctP]
    by_cases cs : sg tx tk p = 124
    · rw [if_pos cs]
      obtain ⟨e1, f1, h1, d1⟩ := bar 12 c p m h hd cs
      exact ⟨_, fun d => by rw [head, if_pos cs, e1 d, lt_cV_s], f1, h1, d1⟩
    · rw [if_neg cs]
      obtain ⟨e1, h1, f1⟩ := m187g (q := p) (by omega) h
      refine ⟨_, fun d => ?_, hfr_r f1, h1⟩
      rw [head, if_neg cs, E185_30 _ _ _ sy, hd.1, if_neg (fun q => q rfl), h.2.2.1, e1 (d + 1), lt_cV_s, E185_47 _ _ _ sy, m188b _ _ _ h1 d, lt_cI_s, if_neg (rb18 h1)]
  | succ f ih =>
    intro k c p m o hk h hd
    have hp := h.2.1
    have htk := h.1.1
    -- a number
    have num : ∀ o, ∃ M, (∀ d, L185_30 (d + 2) 711 o m = some (none, M)) ∧ hfr 19 720 m M ∧ ctM tx tk M (if 48 ≤ sg tx tk p ∧ sg tx tk p ≤ 53 then ctP tx tk f (k + 1) (wset c k (sg tx tk p - 48)) (p + 1) else .inl p) := by
      intro o
      have e30 : ∀ d, L185_30 (d + 2) 711 o m = L185_47 (d + 2) 711 o m := fun d => by
        rw [E185_30 _ _ _ sy, hd.1, if_pos (by rw [q_12, sp_eqn (by omega) (by omega)]; omega)]
      rcases m188 (lo := 0) (hi1 := 6) (dg := 1) (by omega) (by omega) (by omega) h with ⟨v, p1, M1, hnu, e1, h1, f1⟩ | ⟨e, u, M1, hnu, e1, h1, f1⟩
      · by_cases cd : 48 ≤ sg tx tk p ∧ sg tx tk p ≤ 53
        · rw [if_pos cd]
          rw [nu1 cd] at hnu
          injection hnu with hnu
          injection hnu with hv hp1
          subst hv; subst hp1
          obtain ⟨M2, hM2⟩ : ∃ M2, M2 = lm_i (lm_i M1 720 k (nI (sg tx tk p - 48))) 711 19 (nI (k + 1)) := ⟨_, rfl⟩
          have h2 : rrd tx tk (p + 1) M2 := rrd_fr (by rw [hM2, lm_i_ne (by decide), lm_i_ne (by decide)]) (fun k hk => by rw [hM2, lm_i_ns (by omega), lm_i_ne (by decide)]) h1
          have hd1 : d0M k c M1 := ⟨by rw [f1.1 711 19 (by omega)]; exact hd.1, fun j hj => by rw [f1.1 720 j (by omega)]; exact hd.2 j hj⟩
          have hd2 : d0M (k + 1) (wset c k (sg tx tk p - 48)) M2 := by
            refine ⟨by rw [hM2, lm_i_eq], fun j hj => ?_⟩
            rw [hM2, lm_i_ne (by decide)]
            by_cases e : j = k
            · subst e; rw [lm_i_eq, wset_eq]
            · rw [lm_i_ns (by omega), wset_ne e]; exact hd1.2 j (by omega)
          obtain ⟨M, e2, f2, c2⟩ := ih (k + 1) _ (p + 1) M2 (some (.inl (nI (sg tx tk p - 48)))) (by omega) h2 hd2
          refine ⟨M, fun d => ?_, hfr_tr (hfr_r f1) (hfr_tr (by rw [hM2]; exact hfr_tr (hfr_i (by omega)) (hfr_i (by omega))) f2), c2⟩
          have e1' : lt_ev (d + 2) 188 [.inr (.inr (some 711)), .inl (0 : Int32), .inl (5 : Int32), .inl (1 : Int32)] m = some (some (.inl (nI (sg tx tk p - 48))), M1) := e1 d
          have es : (lm_i M1 (711 + 9) k (nI (sg tx tk p - 48))).1 711 19 = nI k := by rw [lm_i_ne (by decide)]; exact hd1.1
          rw [e30, E185_47 _ _ _ sy, e1', lt_cI_s, if_pos h1.2.2.2, hd1.1, lt_gd_t (sp_gd (by omega) (by omega)), nI_clamp (by omega), es, nI_1]
          show L185_5 (d + 2) 711 _ (lm_i (lm_i M1 720 k (nI (sg tx tk p - 48))) 711 19 (nI (k + 1))) = _
          rw [← hM2, e2 d]
        · rw [nu1n cd] at hnu; cases hnu
      · by_cases cd : 48 ≤ sg tx tk p ∧ sg tx tk p ≤ 53
        · rw [nu1 cd] at hnu; cases hnu
        · rw [if_neg cd]
          rw [nu1n cd] at hnu
          injection hnu with hnu
          subst hnu
          refine ⟨M1, fun d => ?_, hfr_r f1, h1⟩
          have e1' : lt_ev (d + 2) 188 [.inr (.inr (some 711)), .inl (0 : Int32), .inl (5 : Int32), .inl (1 : Int32)] m = some (some (.inl u), M1) := e1 d
          rw [e30, E185_47 _ _ _ sy, e1', lt_cI_s, if_neg (rb18 h1)]
    simp only [ctP]
    have head : ∀ d, L185_5 (d + 2) 711 o m = if 2 ≤ k ∧ sg tx tk p = 124 then (lt_cV (lt_ev (d + 2) 189 [.inr (.inr (some 711)), .inl (124 : Int32)] m) (fun m3 => (some (none, m3)))) else (L185_30 (d + 2) 711 (o) m) := fun d => by
      rw [E185_5 _ _ _ sy, if_neg (fun q => q h.2.2.2), hd.1]
      by_cases c2 : 2 ≤ k
      · rw [if_neg (by rw [q_2, sp_ltn (by omega) (by omega)]; omega), m186 (d + 1) h, lt_cI_s]
        simp only [sees p m h, c2, true_and]
      · rw [if_pos (by rw [q_2, sp_ltn (by omega) (by omega)]; omega), if_neg (fun q => c2 q.1)]
    by_cases cs : 2 ≤ k ∧ sg tx tk p = 124
    · obtain ⟨e1, f1, h1, d1⟩ := bar k c p m h hd cs.2
      rw [if_neg (by omega), if_pos cs]
      exact ⟨_, fun d => by rw [head, if_pos cs, e1 d, lt_cV_s], f1, h1, d1⟩
    · obtain ⟨M, e1, f1, c1⟩ := num o
      rw [if_neg cs]
      exact ⟨M, fun d => by rw [head, if_neg cs, e1 d], f1, c1⟩
/-- a road -/
def rd1 (n : Nat) (H : Nat → Nat → Nat) (tx : Nat → Nat) (tk p : Nat) : Nat ⊕ (Nat × Nat × Nat × Nat) := match nuN tx tk (dgs n) 0 n p with
  | .inl e => .inl e
  | .inr (a, p1) => if sg tx tk p1 = 45 then (match nuN tx tk (dgs n) 0 n (p1 + 1) with
    | .inl e => .inl e
    | .inr (b, p2) => if a = b ∨ 0 < H a b then .inl (p2 - 1) else if sg tx tk p2 = 58 then (match nuN tx tk 2 1 100 (p2 + 1) with
      | .inl e => .inl e
      | .inr (h, p3) => .inr (a, b, h, p3)) else .inl p2) else .inl p1
theorem rdP_s {f q : Nat} {H : Nat → Nat → Nat} : rdP n tx tk (f + 1) q H p = match rd1 n H tx tk p with
  | .inl e => .inl e
  | .inr (a, b, h, p3) => if q + 1 < 40 ∧ sg tx tk p3 = 44 then rdP n tx tk f (q + 1) (h2N H a b h) (p3 + 1) else .inr (q + 1, h2N H a b h, p3) := by
  simp only [rdP]
  unfold rd1
  cases nuN tx tk (dgs n) 0 n p with
  | inl e => rfl
  | inr r =>
    obtain ⟨a, p1⟩ := r
    simp only
    by_cases c45 : sg tx tk p1 = 45
    · rw [if_pos c45, if_pos c45]
      cases nuN tx tk (dgs n) 0 n (p1 + 1) with
      | inl e => rfl
      | inr r =>
        obtain ⟨b, p2⟩ := r
        simp only
        by_cases cab : a = b ∨ 0 < H a b
        · rw [if_pos cab, if_pos cab]
        · rw [if_neg cab, if_neg cab]
          by_cases c58 : sg tx tk p2 = 58
          · rw [if_pos c58, if_pos c58]
            cases nuN tx tk 2 1 100 (p2 + 1) with
            | inl e => rfl
            | inr r => rfl
          · rw [if_neg c58, if_neg c58]
    · rw [if_neg c45, if_neg c45]
/-- roads, as the reference keeps them -/
def hM (H : Nat → Nat → Nat) (m : lt_m) : Prop := ∀ i, i < 144 → m.1 721 i = nI (H (i / 12) (i % 12))
def r1E (H : Nat → Nat → Nat) (tx : Nat → Nat) (tk : Nat) (m M : lt_m) (x : Nat ⊕ (Nat × Nat × Nat × Nat)) : Prop := match x with
  | .inl e => rbd tx tk e M
  | .inr (a, b, h, p3) => rrd tx tk p3 M ∧ M.1 711 22 = m.1 711 22 + 1 ∧ hM (h2N H a b h) M
theorem m190 (hn : 2 ≤ n ∧ n ≤ 12) {H : Nat → Nat → Nat} (ho : hOK n H) {m : lt_m} (h : rrd tx tk p m) (h19 : m.1 711 19 = nI n) (hH : hM H m) : ∃ M, (∀ d, lt_ev (d + 4) 190 [.inr (.inr (some 711))] m = some (none, M)) ∧ hfr 22 721 m M ∧ r1E H tx tk m M (rd1 n H tx tk p) := by
  have hp := h.2.1
  have htk := h.1.1
  have z61 : ∀ {e M}, rbd tx tk e M → ∀ d x y, L190_61 (d + 3) 711 x y M = some (none, M) := fun {e M} hb d x y => by
    rw [E190_61 _ _ _ _ sy, m189b _ hb (d + 1), lt_cV_s, m188b _ _ _ hb (d + 1), lt_cI_s, if_neg (rb18 hb)]
  unfold rd1
  rcases m191 hn h with ⟨a, p1, M1, hnu, e1, h1, f1⟩ | ⟨e, u, M1, hnu, e1, h1, f1⟩
  · rw [hnu]
    simp only
    obtain ⟨-, a2, -, -, -, a6⟩ := nuN_r hp (dgs_le n).2 hnu
    have g1 : M1.1 711 19 = nI n := by rw [f1.1 711 19 (by omega)]; exact h19
    have hd1 : ∀ d, lt_ev (d + 4) 190 [.inr (.inr (some 711))] m = (lt_cV (lt_ev (d + 3) 189 [.inr (.inr (some 711)), .inl (nI 45)] M1) (fun m2 => (lt_cI (lt_ev (d + 3) 191 [.inr (.inr (some 711)), .inl (m2.1 711 19)] m2) (fun v2 m3 => (if ¬ (m3.1 711 18) = (-1 : Int32) then (L190_61 (d + 3) 711 (nI a) v2 m3) else (if (nI a) = v2 then (lt_cV (lt_ev (d + 3) 187 [.inr (.inr (some 711)), .inl ((m3.1 711 17) - (1 : Int32))] m3) (fun m4 => (L190_61 (d + 3) 711 (nI a) v2 m4))) else (lt_gd (0 ≤ (((12 : Int32) * (nI a)) + v2) ∧ ((((12 : Int32) * (nI a)) + v2)).toNatClampNeg < 144) (if (m3.1 (711 + 10) ((((12 : Int32) * (nI a)) + v2)).toNatClampNeg) ≤ 0 then (L190_61 (d + 3) 711 (nI a) v2 m3) else (lt_cV (lt_ev (d + 3) 187 [.inr (.inr (some 711)), .inl ((m3.1 711 17) - (1 : Int32))] m3) (fun m5 => (L190_61 (d + 3) 711 (nI a) v2 m5))))))))))) := fun d => by
      refine (E190 (d + 3) 711 sy m).trans ?_
      rw [h19, e1 d, lt_cI_s]
      rfl
    by_cases c45 : sg tx tk p1 = 45
    · rw [if_pos c45]
      obtain ⟨e2, h2⟩ := m189t (c := 45) (by omega) h1 c45
      have f2 : rfr M1 (lm_i M1 711 17 (nI (p1 + 1))) := rfr_i (by omega)
      generalize lm_i M1 711 17 (nI (p1 + 1)) = M2 at e2 h2 f2
      have g2 : M2.1 711 19 = nI n := by rw [f2.1 711 19 (by omega)]; exact g1
      rcases m191 hn h2 with ⟨b, p2, M3, hnu2, e3, h3, f3⟩ | ⟨e, u, M3, hnu2, e3, h3, f3⟩
      · rw [hnu2]
        simp only
        obtain ⟨-, b2, -, b4, -, b6⟩ := nuN_r h2.2.1 (dgs_le n).2 hnu2
        have f13 : rfr m M3 := rfr_tr f1 (rfr_tr f2 f3)
        have hval : M3.1 721 (12 * a + b) = nI (H a b) := by
          have := hH (12 * a + b) (by omega)
          rw [show (12 * a + b) / 12 = a by omega, show (12 * a + b) % 12 = b by omega] at this
          rw [f13.1 721 _ (by omega), this]
        have hHab := ho.1 a b
        have hd3 : ∀ d, lt_ev (d + 4) 190 [.inr (.inr (some 711))] m = if a = b ∨ 0 < H a b then (lt_cV (lt_ev (d + 3) 187 [.inr (.inr (some 711)), .inl (nI (p2 - 1))] M3) (fun m5 => (L190_61 (d + 3) 711 (nI a) (nI b) m5))) else (L190_61 (d + 3) 711 (nI a) (nI b) M3) := fun d => by
          have e2' := e2 (d + 1)
          rw [hd1, e2', lt_cV_s, g2, e3 d, lt_cI_s, if_neg (fun q => q h3.2.2.2), h3.2.2.1, q_1, pk_sub (by omega), q_12, pk_mul, nI_add, lt_gd_t (sp_gd (by omega) (by omega)), nI_clamp (by omega), hval]
          by_cases ca : a = b
          · rw [if_pos (by rw [ca]), if_pos (Or.inl ca)]
          · rw [if_neg (by rw [sp_eqn (by omega) (by omega)]; exact ca)]
            by_cases cH : 0 < H a b
            · rw [if_neg (by rw [sp_le0 (by omega)]; omega), if_pos (Or.inr cH)]
            · rw [if_pos (by rw [sp_le0 (by omega)]; omega), if_neg (by omega)]
        by_cases cab : a = b ∨ 0 < H a b
        · rw [if_pos cab]
          obtain ⟨e4, h4, f4⟩ := m187g (q := p2 - 1) (by omega) h3
          refine ⟨_, fun d => ?_, hfr_r (rfr_tr f13 f4), h4⟩
          rw [hd3, if_pos cab, e4 (d + 2), lt_cV_s, z61 h4]
        · rw [if_neg cab]
          by_cases c58 : sg tx tk p2 = 58
          · rw [if_pos c58]
            obtain ⟨e4, h4⟩ := m189t (c := 58) (by omega) h3 c58
            have f4 : rfr M3 (lm_i M3 711 17 (nI (p2 + 1))) := rfr_i (by omega)
            generalize lm_i M3 711 17 (nI (p2 + 1)) = M4 at e4 h4 f4
            rcases m188 (lo := 1) (hi1 := 100) (dg := 2) (by omega) (by omega) (by omega) h4 with ⟨v, p3, M5, hnu3, e5, h5, f5⟩ | ⟨e, u, M5, hnu3, e5, h5, f5⟩
            · rw [hnu3]
              simp only
              have f15 : rfr m M5 := rfr_tr f13 (rfr_tr f4 f5)
              obtain ⟨M6, hM6⟩ : ∃ M6, M6 = lm_i (lm_i (lm_i M5 721 (12 * a + b) (nI v)) 721 (12 * b + a) (nI v)) 711 22 (m.1 711 22 + 1) := ⟨_, rfl⟩
              refine ⟨M6, fun d => ?_, hfr_tr (hfr_r f15) (by rw [hM6]; exact hfr_tr (hfr_i (by omega)) (hfr_tr (hfr_i (by omega)) (hfr_i (by omega)))), rrd_fr (by rw [hM6, lm_i_ne (by decide), lm_i_ne (by decide), lm_i_ne (by decide)]) (fun k hk => by rw [hM6, lm_i_ns (by omega), lm_i_ne (by decide), lm_i_ne (by decide)]) h5, by rw [hM6, lm_i_eq], fun i hi => ?_⟩
              · have e4' := e4 (d + 1)
                have e5' : lt_ev (d + 3) 188 [.inr (.inr (some 711)), .inl (1 : Int32), .inl (99 : Int32), .inl (2 : Int32)] M4 = some (some (.inl (nI v)), M5) := e5 (d + 1)
                have es : (lm_i (lm_i M5 (711 + 10) (12 * a + b) (nI v)) (711 + 10) (12 * b + a) (nI v)).1 711 22 = m.1 711 22 := by rw [lm_i_ne (by decide), lm_i_ne (by decide)]; exact f15.1 711 22 (by omega)
                rw [hd3, if_neg cab, E190_61 _ _ _ _ sy, show (58 : Int32) = nI 58 from rfl, e4', lt_cV_s, e5', lt_cI_s, if_pos h5.2.2.2, q_12, pk_mul, pk_mul, nI_add, nI_add, lt_gd_t (sp_gd (by omega) (by omega)), lt_gd_t (sp_gd (by omega) (by omega)), nI_clamp (by omega), nI_clamp (by omega), es, hM6]
              · have h0 := hH i hi
                rw [← f15.1 721 i (by omega)] at h0
                show M6.1 721 i = nI (if (i / 12 = a ∧ i % 12 = b) ∨ (i / 12 = b ∧ i % 12 = a) then v else H (i / 12) (i % 12))
                rw [hM6, lm_i_ne (by decide)]
                by_cases c1 : i = 12 * b + a
                · rw [if_pos (by omega), c1, lm_i_eq]
                · rw [lm_i_ns (by omega)]
                  by_cases c2 : i = 12 * a + b
                  · rw [if_pos (by omega), c2, lm_i_eq]
                  · rw [lm_i_ns (by omega), if_neg (by omega), h0]
            · rw [hnu3]
              simp only
              refine ⟨M5, fun d => ?_, hfr_r (rfr_tr f13 (rfr_tr f4 f5)), h5⟩
              have e4' := e4 (d + 1)
              have e5' : lt_ev (d + 3) 188 [.inr (.inr (some 711)), .inl (1 : Int32), .inl (99 : Int32), .inl (2 : Int32)] M4 = some (some (.inl u), M5) := e5 (d + 1)
              rw [hd3, if_neg cab, E190_61 _ _ _ _ sy, show (58 : Int32) = nI 58 from rfl, e4', lt_cV_s, e5', lt_cI_s, if_neg (rb18 h5)]
          · rw [if_neg c58]
            obtain ⟨e4, h4⟩ := m189f (c := 58) (by omega) h3 c58
            refine ⟨_, fun d => ?_, hfr_r (rfr_tr f13 (rfr_i (by omega))), h4⟩
            have e4' := e4 (d + 1)
            rw [hd3, if_neg cab, E190_61 _ _ _ _ sy, show (58 : Int32) = nI 58 from rfl, e4', lt_cV_s, m188b _ _ _ h4 (d + 1), lt_cI_s, if_neg (rb18 h4)]
      · rw [hnu2]
        simp only
        refine ⟨M3, fun d => ?_, hfr_r (rfr_tr f1 (rfr_tr f2 f3)), h3⟩
        have e2' := e2 (d + 1)
        rw [hd1, e2', lt_cV_s, g2, e3 d, lt_cI_s, if_pos (rb18 h3), z61 h3]
    · rw [if_neg c45]
      obtain ⟨e2, h2⟩ := m189f (c := 45) (by omega) h1 c45
      refine ⟨_, fun d => ?_, hfr_r (rfr_tr f1 (rfr_i (by omega))), h2⟩
      have e2' := e2 (d + 1)
      rw [hd1, e2', lt_cV_s, m191b _ h2 d, lt_cI_s, if_pos (rb18 h2), z61 h2]
  · rw [hnu]
    simp only
    refine ⟨M1, fun d => ?_, hfr_r f1, h1⟩
    refine (E190 (d + 3) 711 sy m).trans ?_
    rw [h19, e1 d, lt_cI_s, m189b _ h1 (d + 1), lt_cV_s, m191b _ h1 d, lt_cI_s, if_pos (rb18 h1), z61 h1]
end MRD

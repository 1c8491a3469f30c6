/-! ===== way ===== -/
def dsD : DT := fun N => dsN N.2.2.1 N.1
/-- the first of r numbers from i on with p; else z -/
def frN (p : Nat → Bool) (z : Nat) : Nat → Nat → Nat
  | 0, _ => z
  | r + 1, i => if p i = true then i else frN p z r (i + 1)
theorem frN_ex {p : Nat → Bool} {z c : Nat} : ∀ r i, i ≤ c → c < i + r → p c = true → p (frN p z r i) = true ∧ frN p z r i ≤ c := by
  intro r
  induction r with
  | zero => intro i h1 h2; omega
  | succ r ih =>
    intro i h1 h2 h3
    simp only [frN]
    by_cases e : p i = true
    · rw [if_pos e]; exact ⟨e, h1⟩
    · rw [if_neg e]
      have : i ≠ c := by rintro rfl; exact e h3
      exact ih (i + 1) (by omega) (by omega) h3
def onw (H : Nat → Nat → Nat) (n b a : Nat) : Nat → Bool := fun o => decide (0 < H a o ∧ H a o + dsN H n o b = dsN H n a b)
def nxN (H : Nat → Nat → Nat) (n b a : Nat) : Nat := frN (onw H n b a) b n 0
theorem nx_ok {H : Nat → Nat → Nat} {n a b : Nat} (ha : a < n) (hb : b < n) (hne : a ≠ b) (h : dsN H n a b < 1000000) : nxN H n b a < n ∧ 0 < H a (nxN H n b a) ∧ H a (nxN H n b a) + dsN H n (nxN H n b a) b = dsN H n a b := by
  obtain ⟨c, hc, h1, h2⟩ := ds_N ha hb hne h
  obtain ⟨h3, h4⟩ := frN_ex (p := onw H n b a) (z := b) (c := c) n 0 (Nat.zero_le _) (by omega) (decide_eq_true ⟨h1, h2⟩)
  have h5 := of_decide_eq_true h3
  exact ⟨by unfold nxN; omega, h5⟩
/-- the offices that follow -/
def paN' (H : Nat → Nat → Nat) (n b : Nat) : Nat → Nat → List Int32
  | 0, _ => []
  | k + 1, a => if a = b then [] else nI (nxN H n b a) :: paN' H n b k (nxN H n b a)
section WY
variable {wl : DT} {N : NT} {w : Nat → Nat} {T : Nat} {m : lt_m} {vs us : List Int32}
theorem RS.wy (h : RS dsD wl N w T m) : AR N m.2.2.1 (dsN N.2.2.1 N.1) m := by
  obtain ⟨⟨A, B, n1, n2, n3, n4, n5, n6, n7, -⟩, -⟩ := h
  intro a b ha hb
  rw [n1]
  exact n7.1 a b ha hb
theorem k69 {A : Nat} (hA : ts_sh A = (0, 5)) (hN : wfN N) (hn : nR N A m) (hr : AR N A (dsN N.2.2.1 N.1) m) {a b : Nat} (ha : a < N.1) (hb : b < N.1) : ∀ d, lt_ev (d + 3) 69 [.inr (.inr (some A)), .inl (nI a), .inl (nI b)] m = some (some (.inl (nI (nxN N.2.2.1 N.1 b a))), m) := by
  intro d
  have hn2 := hN.2.1
  refine (E69 (d + 2) A _ _ hA m).trans ?_
  have key : ∀ r i o4, i + r = N.1 → L69_2 (d + 2) A (nI a) (nI b) (nI i) o4 m = some (some (.inl (nI (frN (onw N.2.2.1 N.1 b a) b r i))), m) := by
    intro r
    induction r with
    | zero =>
      intro i o4 hi
      have hi : i = N.1 := hi
      subst hi
      rw [E69_2 _ _ _ _ _ _ hA, hn.1, if_pos (by rw [sp_len (by omega) (by omega)]; exact Nat.le_refl _)]
      rfl
    | succ r ih =>
      intro i o4 hi
      have hi2 : i < N.1 := by omega
      have b1 := hN.2.2.2.1 a i ha hi2
      have b2 : dsN N.2.2.1 N.1 i b ≤ 1000000 := fw_le hN.2.2.2.1 hi2 hb _
      have b3 : dsN N.2.2.1 N.1 a b ≤ 1000000 := fw_le hN.2.2.2.1 ha hb _
      rw [E69_2 _ _ _ _ _ _ hA, hn.1, if_neg (by rw [sp_len (by omega) (by omega)]; omega), p13 d A _ _ hA m, lt_cI_s, c13 hn hN ha hi2]
      simp only [frN]
      by_cases c : N.2.2.1 a i = 0
      · rw [if_pos (by rw [sp_le0 (by omega)]; omega), nI_1, ih (i + 1) _ (by omega), if_neg (fun q => by
          have := (of_decide_eq_true q : 0 < N.2.2.1 a i ∧ _).1
          omega)]
      · rw [if_neg (by rw [sp_le0 (by omega)]; omega), p18 d A _ _ hA m, lt_cI_s, c18 hn hN hr hi2 hb, p18 d A _ _ hA m, lt_cI_s, c18 hn hN hr ha hb, nI_add]
        by_cases c2 : N.2.2.1 a i + dsN N.2.2.1 N.1 i b = dsN N.2.2.1 N.1 a b
        · rw [if_neg (by rw [c2]; exact fun q => q rfl), if_pos (show onw N.2.2.1 N.1 b a i = true from decide_eq_true ⟨by omega, c2⟩)]
        · rw [if_pos (by rw [sp_eqn (by omega) (by omega)]; exact c2), nI_1, ih (i + 1) _ (by omega), if_neg (show ¬ onw N.2.2.1 N.1 b a i = true from fun q => c2 (of_decide_eq_true q : 0 < N.2.2.1 a i ∧ _).2)]
  exact key N.1 0 none (by omega)
theorem pa_len {H : Nat → Nat → Nat} {n b : Nat} (hb : b < n) : ∀ k a, a < n → dsN H n a b < 1000000 → (paN' H n b k a).length ≤ rkN H n b a := by
  intro k
  induction k with
  | zero => intro a _ _; exact Nat.zero_le _
  | succ k ih =>
    intro a ha h
    simp only [paN']
    by_cases e : a = b
    · rw [if_pos e]; exact Nat.zero_le _
    · rw [if_neg e]
      obtain ⟨h1, h2, h3⟩ := nx_ok ha hb e h
      have := ih _ h1 (by omega)
      have := rk_lt (H := H) (a := a) (b := b) h1 (by omega)
      rw [List.length_cons]
      omega
theorem k67l {b : Nat} (x1 : Int32) : ∀ k a st vs m, RS dsD wl N w T m → b < N.1 → a < N.1 → dsN N.2.2.1 N.1 a b < 1000000 → rkN N.2.2.1 N.1 b a ≤ k → rkN N.2.2.1 N.1 b a + st ≤ N.1 → vs.length = st → rwC vs m → ∃ M, (∀ d, L67_15 (d + 3) m.2.2.1 (0 + 4) x1 (nI b) (nI a) (nI st) m = some (none, M)) ∧ same m M ∧ rwC (vs ++ paN' N.2.2.1 N.1 b k a) M := by
  intro k
  induction k with
  | zero =>
    intro a st vs m hs hb ha hd hr hst hv hc
    have hn2 := hs.wfN.2.1
    have e : a = b := by
      by_cases e : a = b
      · exact e
      · have := rk_0 (H := N.2.2.1) ha hb e; omega
    refine ⟨m, fun d => ?_, same_rf m, by rw [show paN' N.2.2.1 N.1 b 0 a = [] from rfl, List.append_nil]; exact hc⟩
    have s4 : ts_sh (0 + 4) = (0, 8) := sf_of sx 1 (by decide) (by decide)
    rw [E67_15 _ _ _ _ _ _ _ hs.sA s4, hs.nR.1]
    split
    · rfl
    · rw [if_pos (by rw [e])]
  | succ k ih =>
    intro a st vs m hs hb ha hd hr hst hv hc
    have hn2 := hs.wfN.2.1
    have s4 : ts_sh (0 + 4) = (0, 8) := sf_of sx 1 (by decide) (by decide)
    simp only [paN']
    by_cases e : a = b
    · rw [if_pos e, List.append_nil]
      refine ⟨m, fun d => ?_, same_rf m, hc⟩
      rw [E67_15 _ _ _ _ _ _ _ hs.sA s4, hs.nR.1]
      split
      · rfl
      · rw [if_pos (by rw [e])]
    · rw [if_neg e]
      obtain ⟨h1, h2, h3⟩ := nx_ok ha hb e hd
      have h4 := rk_lt (H := N.2.2.1) (a := a) (b := b) h1 (by omega)
      have hs2 : RS dsD wl N w T (radd m vs.length (nI (nxN N.2.2.1 N.1 b a))) := RS_fr same_radd hs
      obtain ⟨M, e1, f1, c1⟩ := ih (nxN N.2.2.1 N.1 b a) (st + 1) (vs ++ [nI (nxN N.2.2.1 N.1 b a)]) _ hs2 hb h1 (by omega) (by omega) (by omega) (by rw [List.length_append]; simp; omega) (rwC_add hc)
      refine ⟨M, fun d => ?_, same_tr same_radd f1, by rw [List.append_assoc] at c1; exact c1⟩
      have hk68 := k68 (v := nI (nxN N.2.2.1 N.1 b a)) (d + 1) hc (by omega)
      rw [E67_15 _ _ _ _ _ _ _ hs.sA s4, hs.nR.1, if_neg (by rw [sp_len (by omega) (by omega)]; omega), if_neg (by rw [sp_eqn (by omega) (by omega)]; exact e), k69 hs.sA hs.wfN hs.nR hs.wy ha hb d, lt_cI_s, hk68, lt_cV_s, nI_1]
      exact e1 d
theorem m200l {b : Nat} (x1 : Int32) : ∀ k a o4 vs m, RS dsD wl N w T m → TR N.1 (rfN N.2.2.1 N.1 b) m → b < N.1 → a < N.1 → dsN N.2.2.1 N.1 a b < 1000000 → rkN N.2.2.1 N.1 b a ≤ k → vs.length + rkN N.2.2.1 N.1 b a ≤ 12 → rwM vs m → rwC us m → ∃ M o5, (∀ d, L200_55 (d + 2) 711 x1 (nI b) (nI a) o4 m = L200_55 (d + 2) 711 x1 (nI b) (nI b) o5 M) ∧ same m M ∧ TR N.1 (rfN N.2.2.1 N.1 b) M ∧ rwM (vs ++ paN' N.2.2.1 N.1 b k a) M ∧ rwC us M := by
  intro k
  induction k with
  | zero =>
    intro a o4 vs m hs ht hb ha hd hr hlen hv hc
    have e : a = b := by
      by_cases e : a = b
      · exact e
      · have := rk_0 (H := N.2.2.1) ha hb e; omega
    subst e
    exact ⟨m, o4, fun d => rfl, same_rf m, ht, by rw [show paN' N.2.2.1 N.1 a 0 a = [] from rfl, List.append_nil]; exact hv, hc⟩
  | succ k ih =>
    intro a o4 vs m hs ht hb ha hd hr hlen hv hc
    have hN := hs.wfN
    have hn2 := hN.2.1
    simp only [paN']
    by_cases e : a = b
    · subst e
      rw [if_pos rfl, List.append_nil]
      exact ⟨m, o4, fun d => rfl, same_rf m, ht, hv, hc⟩
    · rw [if_neg e]
      obtain ⟨h1, h2, h3⟩ := nx_ok ha hb e hd
      have h4 := rk_lt (H := N.2.2.1) (a := a) (b := b) h1 (by omega)
      obtain ⟨nx, hnx⟩ : ∃ nx, nx = nxN N.2.2.1 N.1 b a := ⟨_, rfl⟩
      obtain ⟨M0, hM0⟩ : ∃ M0, M0 = rtel m vs.length (nI nx).toInt64 := ⟨_, rfl⟩
      have hs2 : RS dsD wl N w T M0 := by rw [hM0]; exact RS_fr same_rtel hs
      obtain ⟨M, o5, e1, f1, t1, v1, c1⟩ := ih nx (some (.inl (nI nx))) (vs ++ [nI nx]) M0 hs2 (by rw [hM0]; exact ht) hb (by omega) (by rw [hnx]; omega) (by rw [hnx]; omega) (by rw [List.length_append, hnx]; simp; omega) (by rw [hM0]; exact rwM_tel hv) (by rw [hM0]; exact rwC_tel hc)
      refine ⟨M, o5, fun d => ?_, same_tr (by rw [hM0]; exact same_rtel) f1, t1, by rw [List.append_assoc] at v1; rw [← hnx]; exact v1, c1⟩
      have bda : dsN N.2.2.1 N.1 a b ≤ 1089 := ds_bd' hN.2.2.2.1 hb hn2 ha hd
      have key : ∀ r i, i + r = N.1 → frN (onw N.2.2.1 N.1 b a) b r i = nx → nx < N.1 → i ≤ nx → L200_63 (d + 2) 711 x1 (nI b) (nI a) (nI i) m = L200_55 (d + 2) 711 x1 (nI b) (nI nx) (some (.inl (nI nx))) M0 := by
        intro r
        induction r with
        | zero => intro i hi _ _ _; omega
        | succ r ih2 =>
          intro i hi hf hlt hle
          have hi2 : i < N.1 := by omega
          have b1 := hN.2.2.2.1 a i ha hi2
          simp only [frN] at hf
          rw [E200_63 _ _ _ _ _ _ sy, m194 (d + 1) sy hs.ml hN ha hi2, lt_cI_s]
          by_cases c : N.2.2.1 a i = 0
          · have hp : ¬ onw N.2.2.1 N.1 b a i = true := fun q => by
              have := (of_decide_eq_true q : 0 < N.2.2.1 a i ∧ _).1
              omega
            rw [if_neg hp] at hf
            have hne : i ≠ nx := by
              rintro rfl
              rw [← hnx] at h2
              omega
            rw [if_pos (by rw [sp_eq0 (by omega)]; exact c), nI_1]
            exact ih2 (i + 1) (by omega) hf hlt (by omega)
          · have hti : m.1 (711 + 13) i = nI (rfN N.2.2.1 N.1 b i) := ht i hi2
            have hta : m.1 (711 + 13) a = nI (dsN N.2.2.1 N.1 a b) := by
              have := ht a ha
              unfold rfN at this
              rw [if_pos hd] at this
              exact this
            have brf : rfN N.2.2.1 N.1 b i ≤ 1000000000 := by
              unfold rfN
              split <;> omega
            rw [if_neg (by rw [sp_eq0 (by omega)]; exact c), m194 (d + 1) sy hs.ml hN ha hi2, lt_cI_s, lt_gd_t (sp_gd (by omega) (by omega)), lt_gd_t (sp_gd (by omega) (by omega)), nI_clamp (by omega), nI_clamp (by omega), hti, hta, nI_add]
            by_cases c2 : onw N.2.2.1 N.1 b a i = true
            · have h5 := (of_decide_eq_true c2 : 0 < N.2.2.1 a i ∧ _).2
              rw [if_pos c2] at hf
              have h6 : rfN N.2.2.1 N.1 b i = dsN N.2.2.1 N.1 i b := by
                unfold rfN
                rw [if_pos (by omega)]
              rw [if_pos (by rw [h6, h5]), m202 (d + 1) hv.1 (by omega), lt_cV_s, hf, ← hM0]
            · rw [if_neg c2] at hf
              have hne : ¬ N.2.2.1 a i + rfN N.2.2.1 N.1 b i = dsN N.2.2.1 N.1 a b := fun q => c2 (decide_eq_true ⟨by omega, by
                unfold rfN at q
                by_cases c3 : dsN N.2.2.1 N.1 i b < 1000000
                · rw [if_pos c3] at q; exact q
                · rw [if_neg c3] at q; omega⟩)
              have hne2 : i ≠ nx := by
                rintro rfl
                exact c2 (decide_eq_true ⟨by omega, by rw [← hnx] at h3; exact h3⟩)
              rw [if_neg (by rw [sp_eqn (by omega) (by omega)]; exact hne), nI_1]
              exact ih2 (i + 1) (by omega) hf hlt (by omega)
      rw [E200_55 _ _ _ _ _ _ sy, if_neg (by rw [sp_eqn (by omega) (by omega)]; exact e)]
      have := key N.1 0 (by omega) hnx.symm (by omega) (Nat.zero_le _)
      rw [nI_0] at this
      exact this.trans (e1 d)
theorem same_t {m M : lt_m} (h : tfr m M) : same m M := ⟨by rw [h.2], by rw [h.2], fun b k hb => by rw [h.1 b (by rintro rfl; exact absurd hb (by unfold scr; simp))]⟩
/-- way -/
theorem op_way (d : Nat) (hr : RR dsD wl T m) (x y : Int32) : OP dsD wl d T T 66 200 [.inl x, .inl y] m := by
  have hr0 := hr
  obtain ⟨N, w, vs, hs, hl, hc, hm⟩ := hr
  have hN := hs.wfN
  have hn2 := hN.2.1
  have s4 : ts_sh (0 + 4) = (0, 8) := sf_of sx 1 (by decide) (by decide)
  have hcls : lt_ev (d + 30) 66 [.inr (.inr (some 0)), .inl x, .inl y] m = _ := E66 (d + 29) 0 _ _ sx m
  rw [lt_gd_t hs.sA, p14 (d + 28) _ _ hs.sA m, lt_cI_s] at hcls
  have hmod : ∀ M : lt_m, ml N w 711 (lm_i M 711 15 0) → lt_ev (d + 30) 200 [.inr (.inr (some 711)), .inl x, .inl y] M = _ := fun M h => by
    refine (E200 (d + 29) 711 _ _ sy M).trans ?_
    rw [m193 (d + 27) sy h hN, lt_cI_s]
  rcases c14 hs.nR hN x with ⟨a, ha, rfl, ea⟩ | ⟨hx, ea⟩
  · rw [ea, if_neg (by decide), lt_gd_t hs.sA, p14 (d + 28) _ _ hs.sA m, lt_cI_s] at hcls
    have hmod2 : ∀ M : lt_m, ml N w 711 (lm_i M 711 15 0) → lt_ev (d + 30) 200 [.inr (.inr (some 711)), .inl (nI a), .inl y] M = _ := fun M h => by
      refine (hmod M h).trans ?_
      rw [sp_i1 ha (by omega), if_neg (by decide), m193 (d + 27) sy h hN, lt_cI_s]
    rcases c14 hs.nR hN y with ⟨b, hb, rfl, eb⟩ | ⟨hy, eb⟩
    · have bd : dsN N.2.2.1 N.1 a b ≤ 1000000 := fw_le hN.2.2.2.1 ha hb _
      rw [eb, if_pos (by decide), lt_gd_t hs.sA, p18 (d + 27) _ _ _ hs.sA m, lt_cI_s, c18 hs.nR hN hs.wy ha hb, show (1000000 : Int32) = nI 1000000 from rfl] at hcls
      have hmod3 : ∀ M : lt_m, RS dsD wl N w T (lm_i M 711 15 0) → ∃ M2, same (lm_i M 711 15 0) M2 ∧ TR N.1 (rfN N.2.2.1 N.1 b) M2 ∧ M2.1 4 = M.1 4 ∧ M2.1 5 = M.1 5 ∧ M2.1 711 14 = M.1 711 14 ∧ M2.2 = M.2 ∧ lt_ev (d + 30) 200 [.inr (.inr (some 711)), .inl (nI a), .inl (nI b)] M = if nI (rfN N.2.2.1 N.1 b a) < nI 1000000000 then (lt_cV (lt_ev (d + 29) 202 [.inr (.inr (some 711)), .inr (.inl ((nI a).toInt64))] (lm_i M2 711 14 (0 : Int32))) (fun m4 => (L200_55 (d + 29) 711 (nI a) (nI b) (nI a) none m4))) else (some (some (.inl (-2 : Int32)), M2)) := fun M h => by
        obtain ⟨M2, e2, t2, f2⟩ := m201 (w := w) hN hb h.ml
        refine ⟨M2, same_t f2, t2, by rw [f2.1 4 (by decide), lm_i_ne (by decide)], by rw [f2.1 5 (by decide), lm_i_ne (by decide)], by rw [f2.1 711 (by decide), lm_i_ns (by omega)], by rw [f2.2]; rfl, ?_⟩
        refine (hmod2 M h.ml).trans ?_
        rw [sp_i1 hb (by omega), if_pos (by decide), e2 (d + 27), lt_cV_s, lt_gd_t (sp_gd (by omega) (by omega)), nI_clamp (by omega), show M2.1 (711 + 13) a = nI (rfN N.2.2.1 N.1 b a) from t2 a ha]
        rfl
      by_cases c : dsN N.2.2.1 N.1 a b < 1000000
      · have hrf : rfN N.2.2.1 N.1 b a = dsN N.2.2.1 N.1 a b := by unfold rfN; rw [if_pos c]
        have hrk := rk_n (H := N.2.2.1) (b := b) ha
        rw [if_pos (by rw [sp_ltn (by omega) (by omega)]; exact c), lt_gd_t hs.sA] at hcls
        have hs1 : RS dsD wl N w T (radd (rclr m) 0 (nI a)) := RS_fr (same_tr same_rclr same_radd) hs
        obtain ⟨M1, e1, f1, c1⟩ := k67l (b := b) (nI a) N.1 a 1 [nI a] _ hs1 hb ha c (by omega) (by omega) rfl (rwC_add (vs := []) (rwC_clr m))
        have fm : same m M1 := same_tr (same_tr same_rclr same_radd) f1
        have hs2 : RS dsD wl N w T M1 := RS_fr fm hs
        obtain ⟨M2, f2, t2, g4, g5, g6, g7, e2⟩ := hmod3 M1 hs2.t0
        have hs3 : RS dsD wl N w T M2 := RS_fr f2 hs2.t0
        have hs4 : RS dsD wl N w T (rtel (rzer M2) 0 (nI a).toInt64) := RS_fr (same_tr same_rzer same_rtel) hs3
        have c2 : rwC ([nI a] ++ paN' N.2.2.1 N.1 b N.1 a) M2 := ⟨by rw [g4]; exact c1.1, fun j v hj => by rw [g5]; exact c1.2 j v hj⟩
        obtain ⟨M3, o5, e3, f3, t3, v3, c3⟩ := m200l (us := [nI a] ++ paN' N.2.2.1 N.1 b N.1 a) (b := b) (nI a) N.1 a none [nI a] _ hs4 t2 hb ha c (by omega) (by simp; omega) (rwM_tel (vs := []) (rwM_zer M2)) (rwC_tel (rwC_zer c2))
        have hlen := pa_len (H := N.2.2.1) hb N.1 a ha c
        refine ⟨.inl (nI (dsN N.2.2.1 N.1 a b)), M1, M3, hcls.trans ?_, e2.trans ?_, ⟨N, w, [nI a] ++ paN' N.2.2.1 N.1 b N.1 a, RS_fr f3 hs4, by simp; omega, c3, v3⟩⟩
        · have e67 : lt_ev (d + 29) 67 [.inr (.inr (some m.2.2.1)), .inl (nI a), .inl (nI b), .inr (.inr (some (0 + 4)))] m = some (none, M1) := by
            refine (E67 (d + 28) _ _ _ _ hs.sA s4 m).trans ?_
            rw [E56 (d + 27) (0 + 4) s4 m, lt_cV_s]
            have := k68 (m := rclr m) (vs := []) (v := nI a) (d + 26) (rwC_clr m) (by decide)
            rw [show lm_i m (0 + 4) 1 0 = rclr m from rfl, this, lt_cV_s]
            exact e1 (d + 25)
          rw [e67, lt_cV_s]
        · rw [hrf, if_pos (by rw [sp_ltn (by omega) (by omega)]; omega)]
          have h202 := m202 (m := rzer M2) (d + 28) (k := 0) (x := (nI a).toInt64) rfl (by decide)
          rw [show lm_i M2 711 14 (0 : Int32) = rzer M2 from rfl, h202, lt_cV_s]
          refine (e3 (d + 27)).trans ?_
          rw [E200_55 _ _ _ _ _ _ sy, if_pos rfl, lt_gd_t (sp_gd (by omega) (by omega)), nI_clamp (by omega), show M3.1 (711 + 13) a = nI (rfN N.2.2.1 N.1 b a) from t3 a ha, hrf]
      · have hrf : rfN N.2.2.1 N.1 b a = 1000000000 := by unfold rfN; rw [if_neg c]
        rw [if_neg (by rw [sp_ltn (by omega) (by omega)]; exact c)] at hcls
        obtain ⟨M2, f2, t2, g4, g5, g6, g7, e2⟩ := hmod3 m hs.t0
        refine ⟨.inl (-2), m, M2, hcls, e2.trans ?_, ⟨N, w, vs, RS_fr f2 hs.t0, hl, ⟨by rw [g4]; exact hc.1, fun j v hj => by rw [g5]; exact hc.2 j v hj⟩, ⟨by rw [g6]; exact hm.1, fun j v hj => by rw [g7]; exact hm.2 j v hj⟩⟩⟩
        rw [hrf, if_neg (by rw [sp_ltn (by omega) (by omega)]; omega)]
    · refine OP_q (.inl (-1)) hr0 (hcls.trans ?_) ((hmod2 m hs.t0.ml).trans ?_)
      · rw [eb, if_neg (by decide)]
      · rw [sp_i0 (by omega) hy, if_neg (by decide)]
  · refine OP_q (.inl (-1)) hr0 (hcls.trans ?_) ((hmod m hs.t0.ml).trans ?_)
    · rw [ea, if_pos rfl]
    · rw [sp_i0 (by omega) hx, if_pos rfl]
end WY

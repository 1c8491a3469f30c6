/-! ===== the reference reads a NET: roads, duties, all ===== -/
section MRD2
variable {n : Nat} {tx : Nat → Nat} {tk p e : Nat} {c : Nat → Nat}
def roM (tx : Nat → Nat) (tk : Nat) (M : lt_m) (x : Nat ⊕ (Nat × (Nat → Nat → Nat) × Nat)) : Prop := match x with
  | .inl e => rbd tx tk e M
  | .inr (q, H, p) => rrd tx tk p M ∧ M.1 711 22 = nI q ∧ hM H M
theorem rd1_ok {H : Nat → Nat → Nat} {a b h p3 : Nat} (hp : p ≤ tk) (ho : hOK n H) (hr : rd1 n H tx tk p = .inr (a, b, h, p3)) : hOK n (h2N H a b h) ∧ p3 ≤ tk := by
  unfold rd1 at hr
  cases h1 : nuN tx tk (dgs n) 0 n p with
  | inl e => rw [h1] at hr; cases hr
  | inr r =>
    obtain ⟨a', p1⟩ := r
    rw [h1] at hr
    simp only at hr
    obtain ⟨-, a2, -, -, -, a6⟩ := nuN_r hp (dgs_le n).2 h1
    by_cases c45 : sg tx tk p1 = 45
    · rw [if_pos c45] at hr
      have l1 := sg_lt c45 (by omega)
      cases h2 : nuN tx tk (dgs n) 0 n (p1 + 1) with
      | inl e => rw [h2] at hr; cases hr
      | inr r =>
        obtain ⟨b', p2⟩ := r
        rw [h2] at hr
        simp only at hr
        obtain ⟨-, b2, -, -, -, b6⟩ := nuN_r (by omega) (dgs_le n).2 h2
        by_cases cab : a' = b' ∨ 0 < H a' b'
        · rw [if_pos cab] at hr; cases hr
        · rw [if_neg cab] at hr
          by_cases c58 : sg tx tk p2 = 58
          · rw [if_pos c58] at hr
            have l2 := sg_lt c58 (by omega)
            cases h3 : nuN tx tk 2 1 100 (p2 + 1) with
            | inl e => rw [h3] at hr; cases hr
            | inr r =>
              obtain ⟨hh, p4⟩ := r
              rw [h3] at hr
              simp only at hr
              obtain ⟨d1, d2, -, -, -, d6⟩ := nuN_r (by omega) (by decide) h3
              injection hr with hr
              injection hr with q1 hr
              injection hr with q2 hr
              injection hr with q3 q4
              subst q1; subst q2; subst q3; subst q4
              exact ⟨h2_ok ho a2 b2 (by omega) (by omega), d6⟩
          · rw [if_neg c58] at hr; cases hr
    · rw [if_neg c45] at hr; cases hr
theorem m184r (hn : 2 ≤ n ∧ n ≤ 12) : ∀ f q H p m, q + f = 40 → 0 < f → hOK n H → rrd tx tk p m → m.1 711 19 = nI n → m.1 711 22 = nI q → hM H m → ∃ M, (∀ d, L184_70 (d + 4) 711 1 m = L184_135 (d + 4) 711 0 M) ∧ hfr 22 721 m M ∧ roM tx tk M (rdP n tx tk f q H p) := by
  intro f
  induction f with
  | zero => intro q H p m _ h0; omega
  | succ f ih =>
    intro q H p m hq _ ho h h19 h22 hH
    obtain ⟨M1, e1, f1, r1⟩ := m190 hn ho h h19 hH
    have head : ∀ d, L184_70 (d + 4) 711 1 m = (if ¬ (M1.1 711 18) = (-1 : Int32) then (L184_117 (d + 4) 711 1 (0 : Int32) M1) else (lt_cI (lt_ev (d + 4) 186 [.inr (.inr (some 711))] M1) (fun v1 m2 => (if ¬ v1 = (44 : Int32) then (L184_117 (d + 4) 711 1 (0 : Int32) m2) else (if (40 : Int32) ≤ (m2.1 711 22) then (L184_117 (d + 4) 711 1 (0 : Int32) m2) else (L184_117 (d + 4) 711 1 (1 : Int32) m2)))))) := fun d => by
      rw [E184_70 _ _ _ sy, if_neg (by decide), if_neg (fun q => q h.2.2.2), e1 d, lt_cV_s]
    have zero : ∀ d M, L184_117 (d + 4) 711 1 0 M = L184_135 (d + 4) 711 0 M := fun d M => by
      rw [E184_117 _ _ _ _ sy, if_pos rfl, E184_70 _ _ _ sy, if_pos rfl]
    rw [rdP_s]
    cases hr : rd1 n H tx tk p with
    | inl e =>
      rw [hr] at r1
      have r1 : rbd tx tk e M1 := r1
      exact ⟨M1, fun d => by rw [head, if_pos (rb18 r1), zero], f1, r1⟩
    | inr r =>
      obtain ⟨a, b, hh, p3⟩ := r
      rw [hr] at r1
      obtain ⟨r1, r22, rH⟩ : rrd tx tk p3 M1 ∧ M1.1 711 22 = m.1 711 22 + 1 ∧ hM (h2N H a b hh) M1 := r1
      obtain ⟨ho1, hp3⟩ := rd1_ok h.2.1 ho hr
      have g22 : M1.1 711 22 = nI (q + 1) := by rw [r22, h22, nI_1]
      have g19 : M1.1 711 19 = nI n := by rw [f1.1 711 19 (by omega) (by omega)]; exact h19
      have hd2 : ∀ d, L184_70 (d + 4) 711 1 m = if q + 1 < 40 ∧ sg tx tk p3 = 44 then L184_117 (d + 4) 711 1 1 M1 else L184_117 (d + 4) 711 1 0 M1 := fun d => by
        have es := rsg (c := 44) (by omega) r1
        have es : ((if p3 < tk then nI (tx p3) else (-1 : Int32)) = (44 : Int32)) = (sg tx tk p3 = 44) := es
        rw [head, if_neg (fun q => q r1.2.2.2), m186 (d + 3) r1, lt_cI_s, g22]
        by_cases c44 : sg tx tk p3 = 44
        · rw [if_neg (by rw [es]; exact fun q => q c44)]
          by_cases cq : q + 1 < 40
          · rw [if_neg (by rw [q_40, sp_len (by omega) (by omega)]; omega), if_pos ⟨cq, c44⟩]
          · rw [if_pos (by rw [q_40, sp_len (by omega) (by omega)]; omega), if_neg (fun q => cq q.1)]
        · rw [if_pos (by rw [es]; exact c44), if_neg (fun q => c44 q.2)]
      simp only
      by_cases cg : q + 1 < 40 ∧ sg tx tk p3 = 44
      · rw [if_pos cg]
        obtain ⟨M, e2, f2, r2⟩ := ih (q + 1) _ (p3 + 1) (lm_i M1 711 17 (nI (p3 + 1))) (by omega) (by omega) ho1 (rrd_p r1 (sg_lt cg.2 (by omega))) (by rw [lm_i_ns (by omega)]; exact g19) (by rw [lm_i_ns (by omega)]; exact g22) (fun i hi => by rw [lm_i_ne (by decide)]; exact rH i hi)
        refine ⟨M, fun d => ?_, hfr_tr f1 (hfr_tr (hfr_i (by omega)) f2), r2⟩
        rw [hd2, if_pos cg, E184_117 _ _ _ _ sy, if_neg (by decide), r1.2.2.1, nI_1, e2 d]
      · rw [if_neg cg]
        exact ⟨M1, fun d => by rw [hd2, if_neg cg, zero], f1, r1, g22, rH⟩
def duM (tx : Nat → Nat) (tk : Nat) (M : lt_m) (x : Nat ⊕ (Nat × (Nat → Nat) × Nat)) : Prop := match x with
  | .inl e => rbd tx tk e M
  | .inr (g, dd, p) => rrd tx tk p M ∧ M.1 711 24 = nI g ∧ ∀ j, j < g → M.1 722 j = nI (dd j)
theorem m264e (d : Nat) (x : Int32) (o : Option ts_V) {m : lt_m} (h : rbd tx tk e m) : L184_264 d 711 x o m = some (none, m) := by
  rw [E184_264 _ _ _ _ sy, if_pos (rb18 h)]
theorem m184d : ∀ f g dd p m o, g + f = 6 → 0 < f → rrd tx tk p m → m.1 711 24 = nI g → (∀ j, j < g → m.1 722 j = nI (dd j)) → ∃ M, (∀ d, ∃ o', L184_172 (d + 2) 711 1 o m = L184_264 (d + 2) 711 0 o' M) ∧ hfr 24 722 m M ∧ duM tx tk M (dtP tx tk f g dd p) := by
  intro f
  induction f with
  | zero => intro g dd p m o _ h0; omega
  | succ f ih =>
    intro g dd p m o hg _ h h24 hD
    have hp := h.2.1
    simp only [dtP]
    rcases m188 (lo := 1) (hi1 := 1000) (dg := 3) (by omega) (by omega) (by omega) h with ⟨v, p1, M1, hnu, e1, h1, f1⟩ | ⟨e, u, M1, hnu, e1, h1, f1⟩
    · rw [hnu]
      simp only
      obtain ⟨d1, d2, -, d4, -, d6⟩ := nuN_r hp (by decide) hnu
      obtain ⟨M2, hM2⟩ : ∃ M2, M2 = lm_i (lm_i M1 722 g (nI v)) 711 24 (nI (g + 1)) := ⟨_, rfl⟩
      have h2 : rrd tx tk p1 M2 := rrd_fr (by rw [hM2, lm_i_ne (by decide), lm_i_ne (by decide)]) (fun k hk => by rw [hM2, lm_i_ns (by omega), lm_i_ne (by decide)]) h1
      have f2 : hfr 24 722 m M2 := hfr_tr (hfr_r f1) (by rw [hM2]; exact hfr_tr (hfr_i (by omega)) (hfr_i (by omega)))
      have g24 : M2.1 711 24 = nI (g + 1) := by rw [hM2, lm_i_eq]
      have gD : ∀ j, j < g + 1 → M2.1 722 j = nI (wset dd g v j) := fun j hj => by
        rw [hM2, lm_i_ne (by decide)]
        by_cases e : j = g
        · subst e; rw [lm_i_eq, wset_eq]
        · rw [lm_i_ns (by omega), wset_ne e, f1.1 722 j (by omega)]; exact hD j (by omega)
      have head : ∀ d, L184_172 (d + 2) 711 1 o m = if g + 1 < 6 ∧ sg tx tk p1 = 44 then L184_246 (d + 2) 711 1 (nI v) 1 M2 else L184_246 (d + 2) 711 1 (nI v) 0 M2 := fun d => by
        have e1' : lt_ev (d + 2) 188 [.inr (.inr (some 711)), .inl (1 : Int32), .inl (999 : Int32), .inl (3 : Int32)] m = some (some (.inl (nI v)), M1) := e1 d
        have g1 : M1.1 711 24 = nI g := by rw [f1.1 711 24 (by omega)]; exact h24
        have es0 : (lm_i M1 (711 + 11) g (nI v)).1 711 24 = nI g := by rw [lm_i_ne (by decide)]; exact g1
        have es : ((if p1 < tk then nI (tx p1) else (-1 : Int32)) = (44 : Int32)) = (sg tx tk p1 = 44) := rsg (c := 44) (by omega) h2
        rw [E184_172 _ _ _ _ sy, if_neg (by decide), if_neg (fun q => q h.2.2.2), e1', lt_cI_s, if_pos h1.2.2.2, g1, lt_gd_t (sp_gd (by omega) (by omega)), nI_clamp (by omega), es0, nI_1]
        show lt_cI (lt_ev (d + 2) 186 [.inr (.inr (some 711))] (lm_i (lm_i M1 722 g (nI v)) 711 24 (nI (g + 1)))) _ = _
        rw [← hM2, m186 (d + 1) h2, lt_cI_s, g24]
        by_cases c44 : sg tx tk p1 = 44
        · rw [if_neg (by rw [es]; exact fun q => q c44)]
          by_cases cq : g + 1 < 6
          · rw [if_neg (by rw [q_6, sp_len (by omega) (by omega)]; omega), if_pos ⟨cq, c44⟩]
          · rw [if_pos (by rw [q_6, sp_len (by omega) (by omega)]; omega), if_neg (fun q => cq q.1)]
        · rw [if_pos (by rw [es]; exact c44), if_neg (fun q => c44 q.2)]
      by_cases cg : g + 1 < 6 ∧ sg tx tk p1 = 44
      · rw [if_pos cg]
        obtain ⟨M, e3, f3, c3⟩ := ih (g + 1) (wset dd g v) (p1 + 1) (lm_i M2 711 17 (nI (p1 + 1))) (some (.inl (nI v))) (by omega) (by omega) (rrd_p h2 (sg_lt cg.2 (by omega))) (by rw [lm_i_ns (by omega)]; exact g24) (fun j hj => by rw [lm_i_ne (by decide)]; exact gD j hj)
        refine ⟨M, fun d => ?_, hfr_tr f2 (hfr_tr (hfr_i (by omega)) f3), c3⟩
        obtain ⟨o', e3'⟩ := e3 d
        exact ⟨o', by rw [head, if_pos cg, E184_246 _ _ _ _ _ sy, if_neg (by decide), h2.2.2.1, nI_1, e3']⟩
      · rw [if_neg cg]
        exact ⟨M2, fun d => ⟨_, by rw [head, if_neg cg, E184_246 _ _ _ _ _ sy, if_pos rfl, E184_172 _ _ _ _ sy, if_pos rfl]⟩, f2, h2, g24, gD⟩
    · rw [hnu]
      simp only
      refine ⟨M1, fun d => ⟨none, ?_⟩, hfr_r f1, h1⟩
      have e1' : lt_ev (d + 2) 188 [.inr (.inr (some 711)), .inl (1 : Int32), .inl (999 : Int32), .inl (3 : Int32)] m = some (some (.inl u), M1) := e1 d
      rw [E184_172 _ _ _ _ sy, if_neg (by decide), if_neg (fun q => q h.2.2.2), e1', lt_cI_s, if_neg (rb18 h1), m264e _ _ _ h1]
/-- the reference has read N -/
def ndM (N : NT) (q : Nat) (M : lt_m) : Prop := M.1 711 18 = -1 ∧ M.1 711 19 = nI N.1 ∧ (∀ j, j < N.1 → M.1 720 j = nI (N.2.2.2.1 j)) ∧ M.1 711 22 = nI q ∧ (∀ i, i < 144 → M.1 721 i = nI (N.2.2.1 (i / 12) (i % 12))) ∧ M.1 711 24 = nI N.2.1 ∧ ∀ j, j < N.2.1 → M.1 722 j = nI (N.2.2.2.2 j)
def nfr (m M : lt_m) : Prop := (∀ b k, ¬ (b = 711 ∧ 16 ≤ k) → ¬ (720 ≤ b ∧ b ≤ 722) → M.1 b k = m.1 b k) ∧ M.2 = m.2
theorem nfr_tr {a b c : lt_m} (h1 : nfr a b) (h2 : nfr b c) : nfr a c := ⟨fun x k g1 g2 => (h2.1 x k g1 g2).trans (h1.1 x k g1 g2), h2.2.trans h1.2⟩
theorem nfr_h {k0 b0 : Nat} {m M : lt_m} (hk : 16 ≤ k0) (hb : 720 ≤ b0 ∧ b0 ≤ 722) (h : hfr k0 b0 m M) : nfr m M := ⟨fun b k g1 g2 => h.1 b k (by omega) (by omega), h.2⟩
theorem nfr_i {m : lt_m} {a k : Nat} {v : Int32} (h : (a = 711 ∧ 16 ≤ k) ∨ (720 ≤ a ∧ a ≤ 722)) : nfr m (lm_i m a k v) := ⟨fun b j g1 g2 => lm_i_ns (by rintro ⟨rfl, rfl⟩; rcases h with h | h; exact g1 h; exact g2 h), rfl⟩
/-- readsNet -/
theorem m184 {m : lt_m} (h : rrd tx tk 0 m) : ∃ M, (∀ d, lt_ev (d + 5) 184 [.inr (.inr (some 711))] m = some (none, M)) ∧ nfr m M ∧ match ntP tx tk with
  | .inl e => e ≤ 200 ∧ M.1 711 18 = nI e
  | .inr (N, q) => ndM N q M := by
  have htk := h.1.1
  -- clearing
  obtain ⟨M0, hM0⟩ : ∃ M0, M0 = lm_i (lm_i (pR 721 0 (fun _ => 0) 144 m) 711 22 0) 711 24 0 := ⟨_, rfl⟩
  have h0 : rrd tx tk 0 M0 := rrd_fr (by rw [hM0, lm_i_ne (by decide), lm_i_ne (by decide), pR_ne (by decide)]) (fun k hk => by rw [hM0, lm_i_ns (by omega), lm_i_ns (by omega), pR_ne (by decide)]) h
  have z0 : hM (fun _ _ => 0) M0 := fun i hi => by rw [hM0, lm_i_ne (by decide), lm_i_ne (by decide), pR_if, if_pos (by omega)]
  have f0 : nfr m M0 := by
    refine ⟨fun b k g1 g2 => ?_, by rw [hM0]; rfl⟩
    rw [hM0, lm_i_ns (by omega), lm_i_ns (by omega), pR_ne (by omega)]
  have head : ∀ d, lt_ev (d + 5) 184 [.inr (.inr (some 711))] m = (lt_cV (lt_ev (d + 4) 185 [.inr (.inr (some 711))] M0) (fun m1 => (if ¬ (m1.1 711 18) = (-1 : Int32) then (L184_70 (d + 4) 711 (0 : Int32) m1) else (if (m1.1 711 16) ≤ (m1.1 711 17) then (L184_70 (d + 4) 711 (0 : Int32) m1) else (lt_cI (lt_ev (d + 4) 186 [.inr (.inr (some 711))] m1) (fun v1 m2 => (if v1 = (124 : Int32) then (L184_70 (d + 4) 711 (0 : Int32) m2) else (L184_70 (d + 4) 711 (1 : Int32) m2)))))))) := fun d => by
    refine (E184 (d + 4) 711 sy m).trans ?_
    have key := lp_it (F := fun i (_ : Unit) => L184_2 (d + 4) 711 (nI i) (pR 721 0 (fun _ => 0) i m)) (K := L184_2 (d + 4) 711 (nI 144) (pR 721 0 (fun _ => 0) 144 m)) 144 ?_ ?_ ()
    · have key : L184_2 (d + 4) 711 (nI 0) (pR 721 0 (fun _ => 0) 0 m) = _ := key
      rw [pR_0] at key
      refine Eq.trans key ?_
      rw [E184_2 _ _ _ sy, if_pos (by decide)]
      show lt_cV (lt_ev (d + 4) 185 [.inr (.inr (some 711))] (lm_i (lm_i (pR 721 0 (fun _ => 0) 144 m) 711 22 0) 711 24 0)) _ = _
      rw [← hM0]
    · intro i _ hi
      refine ⟨(), ?_⟩
      have := pR_s (b0 := 721) (off := 0) (r := fun _ => 0) (i := i) (m := m)
      rw [Nat.zero_add] at this
      have this : lm_i (pR 721 0 (fun _ => 0) i m) (711 + 10) i 0 = pR 721 0 (fun _ => 0) (i + 1) m := this
      rw [E184_2 _ _ _ sy, show (144 : Int32) = nI 144 from rfl, if_neg (by rw [sp_len (by omega) (by omega)]; omega), lt_gd_t (sp_gd hi (by omega)), nI_clamp (by omega), this, nI_1]
    · intro _; rfl
  -- countries
  obtain ⟨M1, e1, f1, c1⟩ := m185l 12 0 (fun _ => 0) 0 (lm_i M0 711 19 0) none rfl (rrd_fr (lm_i_ne (by decide)) (fun k hk => lm_i_ns (by omega)) h0) ⟨lm_i_eq, fun j hj => absurd hj (Nat.not_lt_zero _)⟩
  have e185 : ∀ d, lt_ev (d + 4) 185 [.inr (.inr (some 711))] M0 = some (none, M1) := fun d => (E185 (d + 3) 711 sy M0).trans (e1 (d + 1))
  have f01 : nfr m M1 := nfr_tr f0 (nfr_tr (nfr_i (by omega)) (nfr_h (by omega) (by omega) f1))
  have fm : hfr 19 720 M0 M1 := hfr_tr (hfr_i (by omega)) f1
  -- one that has failed passes the rest
  have pass : ∀ e M, rbd tx tk e M → ∀ d, L184_135 (d + 4) 711 0 M = some (none, M) := fun e M hb d => by
    rw [E184_135 _ _ _ sy, if_pos (rb18 hb), E184_157 _ _ _ _ sy, if_pos rfl, E184_172 _ _ _ _ sy, if_pos rfl, m264e _ _ _ hb]
  have p70 : ∀ M d, L184_70 (d + 4) 711 0 M = L184_135 (d + 4) 711 0 M := fun M d => by rw [E184_70 _ _ _ sy, if_pos rfl]
  unfold ntP
  cases h1 : ctP tx tk 12 0 (fun _ => 0) 0 with
  | inl e =>
    rw [h1] at c1
    have c1 : rbd tx tk e M1 := c1
    simp only
    exact ⟨M1, fun d => by rw [head, e185, lt_cV_s, if_pos (rb18 c1), p70, pass e M1 c1], f01, c1.2⟩
  | inr r =>
    obtain ⟨n, c, p⟩ := r
    rw [h1] at c1
    simp only
    obtain ⟨c1, y1⟩ : rrd tx tk p M1 ∧ d0M n c M1 := c1
    obtain ⟨n1, n2, n3, n4, n5⟩ := ctP_ok 12 0 _ 0 n c p rfl rfl (Nat.zero_le _) (fun j hj => absurd hj (Nat.not_lt_zero _)) h1
    have ho : hOK n (fun _ _ => 0) := ⟨fun _ _ => Nat.zero_le _, fun _ _ => rfl, fun _ => rfl, fun _ _ _ => rfl⟩
    have z1 : hM (fun _ _ => 0) M1 := fun i hi => by rw [fm.1 721 i (by omega) (by omega)]; exact z0 i hi
    have g22 : M1.1 711 22 = nI 0 := by rw [fm.1 711 22 (by omega) (by omega), hM0, lm_i_ns (by omega), lm_i_eq]; rfl
    have g24 : M1.1 711 24 = nI 0 := by rw [fm.1 711 24 (by omega) (by omega), hM0, lm_i_eq]; rfl
    -- roads
    have roads : ∃ M2, (∀ d, lt_ev (d + 5) 184 [.inr (.inr (some 711))] m = L184_135 (d + 4) 711 0 M2) ∧ hfr 22 721 M1 M2 ∧ roM tx tk M2 (rdA n tx tk p) := by
      have hd : ∀ d, lt_ev (d + 5) 184 [.inr (.inr (some 711))] m = if p < tk ∧ ¬ sg tx tk p = 124 then L184_70 (d + 4) 711 1 M1 else L184_70 (d + 4) 711 0 M1 := fun d => by
        have es : ((if p < tk then nI (tx p) else (-1 : Int32)) = (124 : Int32)) = (sg tx tk p = 124) := rsg (c := 124) (by omega) c1
        rw [head, e185, lt_cV_s, if_neg (fun q => q c1.2.2.2), c1.1.2.1, c1.2.2.1]
        by_cases cp : p < tk
        · rw [if_neg (by rw [sp_len (by omega) (by omega)]; omega), m186 (d + 3) c1, lt_cI_s]
          by_cases cs : sg tx tk p = 124
          · rw [if_pos (by rw [es]; exact cs), if_neg (fun q => q.2 cs)]
          · rw [if_neg (by rw [es]; exact cs), if_pos ⟨cp, cs⟩]
        · rw [if_pos (by rw [sp_len (by omega) (by omega)]; omega), if_neg (fun q => cp q.1)]
      unfold rdA
      by_cases cc : p < tk ∧ ¬ sg tx tk p = 124
      · rw [if_pos cc]
        obtain ⟨M2, e2, f2, r2⟩ := m184r ⟨n1, n2⟩ 40 0 (fun _ _ => 0) p M1 rfl (by omega) ho c1 y1.1 g22 z1
        exact ⟨M2, fun d => by rw [hd, if_pos cc, e2 d], f2, r2⟩
      · rw [if_neg cc]
        exact ⟨M1, fun d => by rw [hd, if_neg cc, p70], hfr_rf M1, c1, g22, z1⟩
    obtain ⟨M2, e2, f2, r2⟩ := roads
    have f02 : nfr m M2 := nfr_tr f01 (nfr_h (by omega) (by omega) f2)
    cases h2 : rdA n tx tk p with
    | inl e =>
      rw [h2] at r2
      have r2 : rbd tx tk e M2 := r2
      simp only
      exact ⟨M2, fun d => by rw [e2, pass e M2 r2], f02, r2.2⟩
    | inr r =>
      obtain ⟨q, H, p2⟩ := r
      rw [h2] at r2
      simp only
      obtain ⟨r2, y2, z2⟩ : rrd tx tk p2 M2 ∧ M2.1 711 22 = nI q ∧ hM H M2 := r2
      have h24 : M2.1 711 24 = nI 0 := by rw [f2.1 711 24 (by omega) (by omega)]; exact g24
      have duties : ∃ M3, (∀ d, ∃ o', L184_135 (d + 4) 711 0 M2 = L184_264 (d + 4) 711 0 o' M3) ∧ hfr 24 722 M2 M3 ∧ duM tx tk M3 (dtA tx tk p2) := by
        have hd : ∀ d, L184_135 (d + 4) 711 0 M2 = if sg tx tk p2 = 124 then L184_172 (d + 4) 711 1 none (lm_i M2 711 17 (nI (p2 + 1))) else L184_264 (d + 4) 711 0 none M2 := fun d => by
          have es : ((if p2 < tk then nI (tx p2) else (-1 : Int32)) = (124 : Int32)) = (sg tx tk p2 = 124) := rsg (c := 124) (by omega) r2
          rw [E184_135 _ _ _ sy, if_neg (fun q => q r2.2.2.2), m186 (d + 3) r2, lt_cI_s]
          by_cases cs : sg tx tk p2 = 124
          · rw [if_neg (by rw [es]; exact fun q => q cs), if_pos cs, E184_157 _ _ _ _ sy, if_neg (by decide), r2.2.2.1, nI_1]
          · rw [if_pos (by rw [es]; exact cs), if_neg cs, E184_157 _ _ _ _ sy, if_pos rfl, E184_172 _ _ _ _ sy, if_pos rfl]
        unfold dtA
        by_cases cs : sg tx tk p2 = 124
        · rw [if_pos cs]
          obtain ⟨M3, e3, f3, r3⟩ := m184d 6 0 (fun _ => 0) (p2 + 1) (lm_i M2 711 17 (nI (p2 + 1))) none rfl (by omega) (rrd_p r2 (sg_lt cs (by omega))) (by rw [lm_i_ns (by omega)]; exact h24) (fun j hj => absurd hj (Nat.not_lt_zero _))
          refine ⟨M3, fun d => ?_, hfr_tr (hfr_i (by omega)) f3, r3⟩
          obtain ⟨o', e3'⟩ := e3 (d + 2)
          exact ⟨o', by rw [hd, if_pos cs, e3']⟩
        · rw [if_neg cs]
          exact ⟨M2, fun d => ⟨none, by rw [hd, if_neg cs]⟩, hfr_rf M2, r2, h24, fun j hj => absurd hj (Nat.not_lt_zero _)⟩
      obtain ⟨M3, e3, f3, r3⟩ := duties
      have f03 : nfr m M3 := nfr_tr f02 (nfr_h (by omega) (by omega) f3)
      cases h3 : dtA tx tk p2 with
      | inl e =>
        rw [h3] at r3
        have r3 : rbd tx tk e M3 := r3
        simp only
        refine ⟨M3, fun d => ?_, f03, r3.2⟩
        obtain ⟨o', e3'⟩ := e3 d
        rw [e2, e3', m264e _ _ _ r3]
      | inr r =>
        obtain ⟨g, dd, p3⟩ := r
        rw [h3] at r3
        simp only
        obtain ⟨r3, y3, z3⟩ : rrd tx tk p3 M3 ∧ M3.1 711 24 = nI g ∧ ∀ j, j < g → M3.1 722 j = nI (dd j) := r3
        have hp3 := r3.2.1
        by_cases cp : p3 < tk
        · rw [if_pos cp]
          obtain ⟨e4, h4, f4⟩ := m187g (q := p3) (by omega) r3
          refine ⟨_, fun d => ?_, nfr_tr f03 (nfr_i (a := 711) (k := 18) (v := nI p3) (by omega)), h4.2⟩
          obtain ⟨o', e3'⟩ := e3 d
          rw [e2, e3', E184_264 _ _ _ _ sy, if_neg (fun q => q r3.2.2.2), r3.1.2.1, r3.2.2.1, if_neg (by rw [sp_len (by omega) (by omega)]; omega), e4 (d + 3), lt_cV_s]
        · rw [if_neg cp]
          refine ⟨M3, fun d => ?_, f03, r3.2.2.2, ?_, fun j hj => ?_, ?_, fun i hi => ?_, y3, z3⟩
          · obtain ⟨o', e3'⟩ := e3 d
            rw [e2, e3', E184_264 _ _ _ _ sy, if_neg (fun q => q r3.2.2.2), r3.1.2.1, r3.2.2.1, if_pos (by rw [sp_len (by omega) (by omega)]; omega)]
          · rw [f3.1 711 19 (by omega) (by omega), f2.1 711 19 (by omega) (by omega)]; exact y1.1
          · rw [f3.1 720 j (by omega) (by omega), f2.1 720 j (by omega) (by omega)]; exact y1.2 j hj
          · rw [f3.1 711 22 (by omega) (by omega)]; exact y2
          · rw [f3.1 721 i (by omega) (by omega)]; exact z2 i hi
end MRD2

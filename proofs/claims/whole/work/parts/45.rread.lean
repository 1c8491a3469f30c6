/-! ===== the reference reads a text ===== -/
/-- the reference's reader at p; one that has failed at e -/
def rtx (tx : Nat → Nat) (tk : Nat) (m : lt_m) : Prop := tk ≤ 200 ∧ m.1 711 16 = nI tk ∧ ∀ j, j < tk → tx j < 256 ∧ m.1 718 j &&& 255 = nI (tx j)
def rrd (tx : Nat → Nat) (tk p : Nat) (m : lt_m) : Prop := rtx tx tk m ∧ p ≤ tk ∧ m.1 711 17 = nI p ∧ m.1 711 18 = -1
def rbd (tx : Nat → Nat) (tk e : Nat) (m : lt_m) : Prop := rtx tx tk m ∧ e ≤ 200 ∧ m.1 711 18 = nI e
/-- all but the reader's place and fault -/
def rfr (m M : lt_m) : Prop := (∀ b k, ¬ (b = 711 ∧ (k = 17 ∨ k = 18)) → M.1 b k = m.1 b k) ∧ M.2 = m.2
theorem rfr_rf (m : lt_m) : rfr m m := ⟨fun _ _ _ => rfl, rfl⟩
theorem rfr_tr {a b c : lt_m} (h1 : rfr a b) (h2 : rfr b c) : rfr a c := ⟨fun x k h => (h2.1 x k h).trans (h1.1 x k h), h2.2.trans h1.2⟩
theorem rfr_i {m : lt_m} {k : Nat} {v : Int32} (h : k = 17 ∨ k = 18) : rfr m (lm_i m 711 k v) := ⟨fun b j hb => lm_i_ns (by omega), rfl⟩
theorem rfr_b {m M : lt_m} (h : rfr m M) {b : Nat} (hb : b ≠ 711) : M.1 b = m.1 b := funext fun k => h.1 b k (by omega)
section RR2
variable {tx : Nat → Nat} {tk p e : Nat} {m M : lt_m}
theorem rtx_fr (h : M.1 718 = m.1 718) (h2 : M.1 711 16 = m.1 711 16) (hr : rtx tx tk m) : rtx tx tk M := ⟨hr.1, by rw [h2]; exact hr.2.1, fun j hj => by rw [h]; exact hr.2.2 j hj⟩
theorem rtx_r (h : rfr m M) (hr : rtx tx tk m) : rtx tx tk M := rtx_fr (rfr_b h (by decide)) (h.1 _ _ (by omega)) hr
theorem rrd_fr (h : M.1 718 = m.1 718) (h2 : ∀ k, k = 16 ∨ k = 17 ∨ k = 18 → M.1 711 k = m.1 711 k) (hr : rrd tx tk p m) : rrd tx tk p M := ⟨rtx_fr h (h2 16 (by omega)) hr.1, hr.2.1, by rw [h2 17 (by omega)]; exact hr.2.2.1, by rw [h2 18 (by omega)]; exact hr.2.2.2⟩
theorem rbd_fr (h : M.1 718 = m.1 718) (h2 : ∀ k, k = 16 ∨ k = 17 ∨ k = 18 → M.1 711 k = m.1 711 k) (hr : rbd tx tk p m) : rbd tx tk p M := ⟨rtx_fr h (h2 16 (by omega)) hr.1, hr.2.1, by rw [h2 18 (by omega)]; exact hr.2.2⟩
theorem rrd_p {p' : Nat} (h : rrd tx tk p m) (hp : p' ≤ tk) : rrd tx tk p' (lm_i m 711 17 (nI p')) := ⟨rtx_r (rfr_i (by omega)) h.1, hp, lm_i_eq, by rw [lm_i_ns (by omega)]; exact h.2.2.2⟩
/-- sees -/
theorem m186 (d : Nat) (h : rrd tx tk p m) : lt_ev (d + 1) 186 [.inr (.inr (some 711))] m = some (some (.inl (if p < tk then nI (tx p) else -1)), m) := by
  have h2 := h.1.1
  have hp := h.2.1
  refine (E186 d 711 sy m).trans ?_
  rw [h.1.2.1, h.2.2.1]
  simp (disch := omega) only [sp_len, nI_clamp]
  by_cases c : p < tk
  · rw [if_neg (by omega), lt_gd_t ⟨nI_pos' (by omega), by omega⟩, if_pos c]
    rw [show m.1 (711 + 7) p &&& 255 = nI (tx p) from (h.1.2.2 p c).2]
  · rw [if_pos (by omega), if_neg c]
theorem rsg {c : Nat} (hc : c < 256) (h : rrd tx tk p m) : ((if p < tk then nI (tx p) else (-1 : Int32)) = nI c) = (sg tx tk p = c) := by
  unfold sg
  by_cases cp : p < tk
  · have b := (h.1.2.2 p cp).1
    rw [if_pos cp, if_pos cp, sp_eqn (by omega) (by omega)]
  · rw [if_neg cp, if_neg cp, sp_m1' (by omega)]
    exact (eq_false (by omega)).symm
/-- fault -/
theorem m187g {q : Nat} (hq : q ≤ 200) (h : rrd tx tk p m) : (∀ d, lt_ev (d + 1) 187 [.inr (.inr (some 711)), .inl (nI q)] m = some (none, lm_i m 711 18 (nI q))) ∧ rbd tx tk q (lm_i m 711 18 (nI q)) ∧ rfr m (lm_i m 711 18 (nI q)) := by
  refine ⟨fun d => ?_, ⟨rtx_r (rfr_i (by omega)) h.1, hq, lm_i_eq⟩, rfr_i (by omega)⟩
  refine (E187 d 711 _ sy m).trans ?_
  rw [if_neg (fun q => q h.2.2.2)]
theorem m187b (x : Int32) (h : rbd tx tk e m) : ∀ d, lt_ev (d + 1) 187 [.inr (.inr (some 711)), .inl x] m = some (none, m) := fun d => by
  have he := h.2.1
  refine (E187 d 711 _ sy m).trans ?_
  rw [if_pos (by rw [h.2.2, sp_m1 (by omega)]; exact not_false)]
theorem rb18 (h : rbd tx tk e m) : ¬ m.1 711 18 = -1 := by
  have he := h.2.1
  rw [h.2.2, sp_m1 (by omega)]
  exact not_false
/-- expect -/
theorem m189t {c : Nat} (hc : c < 256) (h : rrd tx tk p m) (hs : sg tx tk p = c) : (∀ d, lt_ev (d + 2) 189 [.inr (.inr (some 711)), .inl (nI c)] m = some (none, lm_i m 711 17 (nI (p + 1)))) ∧ rrd tx tk (p + 1) (lm_i m 711 17 (nI (p + 1))) := by
  refine ⟨fun d => ?_, rrd_p h (sg_lt hs (by omega))⟩
  refine (E189 (d + 1) 711 _ sy m).trans ?_
  rw [if_pos h.2.2.2, m186 d h, lt_cI_s, if_neg (by rw [rsg hc h]; exact fun q => q hs), h.2.2.1, nI_1]
theorem m189f {c : Nat} (hc : c < 256) (h : rrd tx tk p m) (hs : ¬ sg tx tk p = c) : (∀ d, lt_ev (d + 2) 189 [.inr (.inr (some 711)), .inl (nI c)] m = some (none, lm_i m 711 18 (nI p))) ∧ rbd tx tk p (lm_i m 711 18 (nI p)) := by
  have h2 := h.1.1
  have hp := h.2.1
  obtain ⟨e4, h4, -⟩ := m187g (q := p) (by omega) h
  refine ⟨fun d => ?_, h4⟩
  refine (E189 (d + 1) 711 _ sy m).trans ?_
  rw [if_pos h.2.2.2, m186 d h, lt_cI_s, if_pos (by rw [rsg hc h]; exact hs), h.2.2.1, e4 d, lt_cV_s]
theorem m189b (x : Int32) (h : rbd tx tk e m) : ∀ d, lt_ev (d + 2) 189 [.inr (.inr (some 711)), .inl x] m = some (none, m) := fun d => by
  refine (E189 (d + 1) 711 _ sy m).trans ?_
  rw [if_neg (rb18 h)]
/-- number -/
theorem m188l (x1 x2 : Int32) {dg : Nat} (hd : dg ≤ 3) : ∀ n i v p m, i + n = dg → (i = 0 ∧ v = 0 ∨ i = 1 ∧ v < 10 ∨ i = 2 ∧ v < 100 ∨ 3 ≤ i ∧ v < 1000) → rrd tx tk p m → ∃ M, (∀ d, L188_16 (d + 1) 711 x1 x2 (nI dg) (nI v) (nI i) m = L188_80 (d + 1) 711 x1 x2 (nI dg) (nI (rdN tx tk n i v p).2.1) (nI (rdN tx tk n i v p).1) M) ∧ rrd tx tk (rdN tx tk n i v p).2.2 M ∧ rfr m M := by
  intro n
  induction n with
  | zero =>
    intro i v p m hi hv h
    refine ⟨m, fun d => ?_, h, rfr_rf m⟩
    rw [E188_16, if_pos (by rw [sp_len (by omega) (by omega)]; omega)]
    rfl
  | succ n ih =>
    intro i v p m hi hv h
    have hp := h.2.1
    have htk := h.1.1
    have hvb : v < 1000 := by omega
    have head : ∀ d, L188_16 (d + 1) 711 x1 x2 (nI dg) (nI v) (nI i) m = if nI i = 0 then (L188_32 (d + 1) 711 x1 x2 (nI dg) (nI v) (nI i) m) else (if nI v ≤ 0 then (L188_80 (d + 1) 711 x1 x2 (nI dg) (nI v) (nI i) m) else (L188_32 (d + 1) 711 x1 x2 (nI dg) (nI v) (nI i) m)) := fun d => by
      rw [E188_16, if_neg (by rw [sp_len (by omega) (by omega)]; omega)]
    have b48 : (48 : Int64).toInt = 48 := by decide
    have b57 : (57 : Int64).toInt = 57 := by decide
    simp only [rdN]
    by_cases c2 : i = 0 ∨ 0 < v
    · have go : ∀ d, L188_16 (d + 1) 711 x1 x2 (nI dg) (nI v) (nI i) m = L188_32 (d + 1) 711 x1 x2 (nI dg) (nI v) (nI i) m := fun d => by
        rw [head]
        by_cases c0 : i = 0
        · rw [if_pos (by rw [sp_eq0 (by omega)]; exact c0)]
        · rw [if_neg (by rw [sp_eq0 (by omega)]; exact c0), if_neg (by rw [sp_le0 (by omega)]; omega)]
      by_cases c1 : 48 ≤ sg tx tk p ∧ sg tx tk p ≤ 57
      · have hlt : p < tk := by
          rcases Nat.lt_or_ge p tk with q | q
          · exact q
          · have : sg tx tk p = 999 := if_neg (by omega)
            omega
        have es : sg tx tk p = tx p := if_pos hlt
        rw [if_pos ⟨c1, c2⟩]
        obtain ⟨M, e1, h1, f1⟩ := ih (i + 1) (10 * v + (sg tx tk p - 48)) (p + 1) _ (by omega) (by omega) (rrd_p h hlt)
        refine ⟨M, fun d => ?_, h1, rfr_tr (rfr_i (by omega)) f1⟩
        have hin : (48 : Int) ≤ (nI (tx p)).toInt ∧ (nI (tx p)).toInt ≤ 57 := by rw [nI_toInt (by omega)]; omega
        rw [go, E188_32 _ _ _ _ _ _ _ sy, m186 d h, lt_cI_s, if_pos hlt, k181 d, lt_cI_s, sp_tt, b48, b57, if_pos hin, if_neg (by decide), m186 d h, lt_cI_s, if_pos hlt, h.2.2.1, nI_1, nI_1, q_10, pk_mul, nI_add, show (48 : Int32) = nI 48 from rfl, pk_sub (by omega), show 10 * v + tx p - 48 = 10 * v + (sg tx tk p - 48) by omega, e1 d]
      · rw [if_neg (fun q => c1 q.1)]
        refine ⟨m, fun d => ?_, h, rfr_rf m⟩
        have hout : ¬ ((48 : Int) ≤ (if p < tk then nI (tx p) else -1 : Int32).toInt ∧ (if p < tk then nI (tx p) else -1 : Int32).toInt ≤ 57) := by
          unfold sg at c1
          by_cases cp : p < tk
          · have b := (h.1.2.2 p cp).1
            rw [if_pos cp] at c1 ⊢
            rw [nI_toInt (by omega)]
            omega
          · rw [if_neg cp, show (-1 : Int32).toInt = -1 by decide]
            omega
        rw [go, E188_32 _ _ _ _ _ _ _ sy, m186 d h, lt_cI_s, k181 d, lt_cI_s, sp_tt, b48, b57, if_neg hout, if_pos rfl]
    · rw [if_neg (fun q => c2 q.2)]
      refine ⟨m, fun d => ?_, h, rfr_rf m⟩
      rw [head, if_neg (by rw [sp_eq0 (by omega)]; omega), if_pos (by rw [sp_le0 (by omega)]; omega)]
theorem m188 {lo hi1 dg : Nat} (hlo : lo ≤ 1000) (hh : hi1 ≤ 1000) (hd : dg ≤ 3) (h : rrd tx tk p m) : (∃ v p' M, nuN tx tk dg lo hi1 p = .inr (v, p') ∧ (∀ d, lt_ev (d + 2) 188 [.inr (.inr (some 711)), .inl (nI lo), .inl (nI hi1 - 1), .inl (nI dg)] m = some (some (.inl (nI v)), M)) ∧ rrd tx tk p' M ∧ rfr m M) ∨ (∃ e u M, nuN tx tk dg lo hi1 p = .inl e ∧ (∀ d, lt_ev (d + 2) 188 [.inr (.inr (some 711)), .inl (nI lo), .inl (nI hi1 - 1), .inl (nI dg)] m = some (some (.inl u), M)) ∧ rbd tx tk e M ∧ rfr m M) := by
  have hp := h.2.1
  have htk := h.1.1
  obtain ⟨a1, hvb, a4, a5⟩ := rdN_c (tx := tx) (tk := tk) (dg := dg) hp hd
  obtain ⟨M, e1, h1, f1⟩ := m188l (tx := tx) (tk := tk) (nI lo) (nI hi1 - 1) (dg := dg) hd dg 0 0 p m (by omega) (Or.inl ⟨rfl, rfl⟩) h
  have head : ∀ d, lt_ev (d + 2) 188 [.inr (.inr (some 711)), .inl (nI lo), .inl (nI hi1 - 1), .inl (nI dg)] m = L188_80 (d + 1) 711 (nI lo) (nI hi1 - 1) (nI dg) (nI (rdN tx tk dg 0 0 p).2.1) (nI (rdN tx tk dg 0 0 p).1) M := fun d => by
    refine (E188 (d + 1) 711 _ _ _ sy m).trans ?_
    rw [if_pos h.2.2.2]
    exact e1 d
  unfold nuN nuR
  by_cases c0 : (rdN tx tk dg 0 0 p).1 = 0
  · rw [if_pos c0]
    have ep : (rdN tx tk dg 0 0 p).2.2 = p := by omega
    rw [ep] at h1
    obtain ⟨e4, h4, f4⟩ := m187g (q := p) (by omega) h1
    refine Or.inr ⟨p, nI (rdN tx tk dg 0 0 p).2.1, _, rfl, fun d => ?_, h4, rfr_tr f1 f4⟩
    rw [head, E188_80 _ _ _ _ _ _ _ sy, c0, if_neg (fun q => q rfl), h1.2.2.1, e4 d, lt_cV_s]
  · rw [if_neg c0]
    have hin : ∀ d, lt_ev (d + 1) 181 [.inr (.inl (nI (rdN tx tk dg 0 0 p).2.1).toInt64), .inr (.inl (nI lo).toInt64), .inr (.inl (nI hi1 - 1).toInt64)] M = some (some (.inl (if lo ≤ (rdN tx tk dg 0 0 p).2.1 ∧ (rdN tx tk dg 0 0 p).2.1 < hi1 then 1 else 0)), M) := fun d => by
      rw [k181 d, sp_tt, sp_tt, sp_tt, nI_toInt (by omega), nI_toInt (by omega), q_1, pk_sub_toInt (by omega) (by omega)]
      congr 4
      by_cases c : lo ≤ (rdN tx tk dg 0 0 p).2.1 ∧ (rdN tx tk dg 0 0 p).2.1 < hi1
      · rw [if_pos c, if_pos (by omega)]
      · rw [if_neg c, if_neg (by omega)]
    by_cases c : lo ≤ (rdN tx tk dg 0 0 p).2.1 ∧ (rdN tx tk dg 0 0 p).2.1 < hi1
    · rw [if_pos c] at hin
      rw [if_pos c]
      refine Or.inl ⟨_, _, M, rfl, fun d => ?_, h1, f1⟩
      rw [head, E188_80 _ _ _ _ _ _ _ sy, if_pos (by rw [sp_eq0 (by omega)]; exact c0), hin d, lt_cI_s, if_pos (by decide)]
    · rw [if_neg c] at hin
      rw [if_neg c]
      obtain ⟨e4, h4, f4⟩ := m187g (q := (rdN tx tk dg 0 0 p).2.2 - 1) (by omega) h1
      refine Or.inr ⟨_, nI (rdN tx tk dg 0 0 p).2.1, _, rfl, fun d => ?_, h4, rfr_tr f1 f4⟩
      rw [head, E188_80 _ _ _ _ _ _ _ sy, if_pos (by rw [sp_eq0 (by omega)]; exact c0), hin d, lt_cI_s, if_neg (by decide), h1.2.2.1, q_1, pk_sub (by omega), e4 d, lt_cV_s]
theorem m188b (x1 x2 x3 : Int32) (h : rbd tx tk e m) : ∀ d, lt_ev (d + 2) 188 [.inr (.inr (some 711)), .inl x1, .inl x2, .inl x3] m = some (some (.inl x1), m) := fun d => by
  refine (E188 (d + 1) 711 _ _ _ sy m).trans ?_
  rw [if_neg (rb18 h)]
/-- officeNumber -/
theorem m191 {n : Nat} (hn : 2 ≤ n ∧ n ≤ 12) (h : rrd tx tk p m) : (∃ v p' M, nuN tx tk (dgs n) 0 n p = .inr (v, p') ∧ (∀ d, lt_ev (d + 3) 191 [.inr (.inr (some 711)), .inl (nI n)] m = some (some (.inl (nI v)), M)) ∧ rrd tx tk p' M ∧ rfr m M) ∨ (∃ e u M, nuN tx tk (dgs n) 0 n p = .inl e ∧ (∀ d, lt_ev (d + 3) 191 [.inr (.inr (some 711)), .inl (nI n)] m = some (some (.inl u), M)) ∧ rbd tx tk e M ∧ rfr m M) := by
  have hd : dgs n = if n ≤ 10 then 1 else 2 := by
    unfold dgs
    split
    · rfl
    · rw [if_pos (by omega)]
  have head : ∀ d m, lt_ev (d + 3) 191 [.inr (.inr (some 711)), .inl (nI n)] m = lt_cI (lt_ev (d + 2) 188 [.inr (.inr (some 711)), .inl (nI 0), .inl (nI n - 1), .inl (nI (dgs n))] m) (fun v m2 => some (some (.inl v), m2)) := fun d m => by
    refine (E191 (d + 2) 711 _ sy m).trans ?_
    rw [hd]
    by_cases c : n ≤ 10
    · rw [if_pos (by rw [q_10, sp_len (by omega) (by omega)]; exact c), if_pos c]; rfl
    · rw [if_neg (by rw [q_10, sp_len (by omega) (by omega)]; exact c), if_neg c]; rfl
  rcases m188 (lo := 0) (hi1 := n) (dg := dgs n) (by omega) (by omega) (dgs_le n).2 h with ⟨v, p', M, a, b, c, f⟩ | ⟨e, u, M, a, b, c, f⟩
  · exact Or.inl ⟨v, p', M, a, fun d => by rw [head, b d, lt_cI_s], c, f⟩
  · exact Or.inr ⟨e, u, M, a, fun d => by rw [head, b d, lt_cI_s], c, f⟩
theorem m191b (x : Int32) (h : rbd tx tk e m) : ∀ d, lt_ev (d + 3) 191 [.inr (.inr (some 711)), .inl x] m = some (some (.inl 0), m) := fun d => by
  refine (E191 (d + 2) 711 _ sy m).trans ?_
  rw [m188b _ _ _ h d, m188b _ _ _ h d, lt_cI_s]
  split <;> rfl
end RR2

theorem lm_i_self {m : lt_m} {a k : Nat} : lm_i m a k (m.1 a k) = m := by
  refine Prod.ext (funext fun b => funext fun j => ?_) rfl
  show (if b = a ∧ j = k then m.1 a k else m.1 b j) = m.1 b j
  split
  · next q => rw [q.1, q.2]
  · rfl
theorem sp_le1 {v h : Nat} (hv : v < 2 ^ 30) (hh : h < 2 ^ 30) : (nI v ≤ nI h - 1) = (v < h) := by
  apply propext
  rw [Int32.le_iff_toInt_le, nI_toInt (by omega), q_1, pk_sub_toInt hh (by omega)]
  omega
/-- the class's reader at p; the class's reader that has failed at e -/
def ctx (tx : Nat → Nat) (tk : Nat) (m : lt_m) : Prop := tk ≤ 200 ∧ m.1 2 1 = nI tk ∧ ∀ j, j < tk → tx j < 256 ∧ m.1 3 j = nI (tx j)
def crd (tx : Nat → Nat) (tk p : Nat) (m : lt_m) : Prop := ctx tx tk m ∧ p ≤ tk ∧ m.1 1 1 = nI p ∧ m.1 1 2 = -1
def cbd (tx : Nat → Nat) (tk e : Nat) (m : lt_m) : Prop := ctx tx tk m ∧ e ≤ 200 ∧ (∃ p, p ≤ tk ∧ m.1 1 1 = nI p) ∧ m.1 1 2 = nI e
theorem s_1 : ts_sh 1 = (0, 6) := sf_of sx 0 (by decide) (by decide)
theorem s_2 : ts_sh (1 + 1) = (0, 10) := sf_of s_1 0 (by decide) (by decide)
section RD
variable {tx : Nat → Nat} {tk p e : Nat} {m M : lt_m}
theorem ctx_fr (hf : ∀ b, b = 2 ∨ b = 3 → M.1 b = m.1 b) (h : ctx tx tk m) : ctx tx tk M := ⟨h.1, by rw [hf 2 (by omega)]; exact h.2.1, fun j hj => by rw [hf 3 (by omega)]; exact h.2.2 j hj⟩
theorem crd_fr (hf : ∀ b, b = 1 ∨ b = 2 ∨ b = 3 → M.1 b = m.1 b) (h : crd tx tk p m) : crd tx tk p M := ⟨ctx_fr (fun b hb => hf b (by omega)) h.1, h.2.1, by rw [hf 1 (by omega)]; exact h.2.2.1, by rw [hf 1 (by omega)]; exact h.2.2.2⟩
theorem cbd_fr (hf : ∀ b, b = 1 ∨ b = 2 ∨ b = 3 → M.1 b = m.1 b) (h : cbd tx tk e m) : cbd tx tk e M := ⟨ctx_fr (fun b hb => hf b (by omega)) h.1, h.2.1, by rw [hf 1 (by omega)]; exact h.2.2.1, by rw [hf 1 (by omega)]; exact h.2.2.2⟩
theorem ctx_36 (h : ctx tx tk m) (hp : p ≤ tk) : v36 m (1 + 1) (nI p) = if p < tk then nI (tx p) else -1 := by
  have h2 := h.1
  unfold v36
  rw [show m.1 (1 + 1) 1 = nI tk from h.2.1, if_neg (nI_pos (by omega))]
  simp (disch := omega) only [q_200, sp_len, nI_clamp]
  by_cases c : p < tk
  · rw [if_neg (by omega), if_neg (by omega), if_pos c]
    exact (h.2.2 p c).2
  · rw [if_pos (by omega), if_neg c]
theorem sg_256 (h : ctx tx tk m) {c : Nat} (hp : p < tk) (e : tx p = c) : c < 256 := by
  have := (h.2.2 p hp).1
  omega
theorem c35 (h : ctx tx tk m) (hp : p ≤ tk) (h1 : m.1 1 1 = nI p) : v35 m 1 = if 48 ≤ sg tx tk p ∧ sg tx tk p ≤ 57 then nI (sg tx tk p - 48) else -1 := by
  unfold v35
  rw [h1, ctx_36 h hp]
  unfold sg
  by_cases c : p < tk
  · rw [if_pos c, if_pos c]
    have b := (h.2.2 p c).1
    simp (disch := omega) only [show (48 : Int32) = nI 48 from rfl, show (57 : Int32) = nI 57 from rfl, sp_ltn]
    by_cases c1 : tx p < 48
    · rw [if_pos c1, if_neg (by omega)]
    · rw [if_neg c1]
      by_cases c2 : 57 < tx p
      · rw [if_pos c2, if_neg (by omega)]
      · rw [if_neg c2, if_pos (by omega), pk_sub (by omega)]
  · rw [if_neg c, if_neg c, if_pos (by decide), if_neg (by omega)]
theorem c40 {h : Nat} (hh : h ≤ 1000) : v40 m (nI h - 1) = nI (dgs h) := by
  unfold v40 dgs
  have e1 : ((10 : Int32) ≤ nI h - 1) = (10 < h) := by rw [q_10]; exact sp_le1 (by omega) (by omega)
  have e2 : ((100 : Int32) ≤ nI h - 1) = (100 < h) := by rw [show (100 : Int32) = nI 100 from rfl]; exact sp_le1 (by omega) (by omega)
  simp only [e1, e2]
  by_cases c : h ≤ 10
  · rw [if_neg (by omega), if_pos c]; rfl
  · rw [if_pos (by omega), if_neg c]
    by_cases c2 : h ≤ 100
    · rw [if_neg (by omega), if_pos c2]; rfl
    · rw [if_pos (by omega), if_neg c2]; rfl
theorem c38g (h : m.1 1 2 = -1) : v38 m 1 = 0 := by unfold v38; rw [if_pos h]
theorem c38b (h : m.1 1 2 = nI e) (he : e ≤ 200) : v38 m 1 = 1 := by unfold v38; rw [h, if_neg (by rw [sp_m1 (by omega)]; exact not_false)]
/-- refuseHere, refuseLast -/
theorem k39g (h : crd tx tk p m) : (∀ d, lt_ev (d + 1) 39 [.inr (.inr (some 1))] m = some (none, lm_i m 1 2 (nI p))) ∧ cbd tx tk p (lm_i m 1 2 (nI p)) := by
  have h2 := h.1.1
  refine ⟨fun d => ?_, ctx_fr (fun b hb => lm_i_ne (by omega)) h.1, by have := h.2.1; omega, ⟨p, h.2.1, by rw [lm_i_ns (by omega)]; exact h.2.2.1⟩, lm_i_eq⟩
  refine (E39 d 1 s_1 m).trans ?_
  rw [if_neg (fun q => q h.2.2.2), h.2.2.1]
theorem k39b (h : cbd tx tk e m) : ∀ d, lt_ev (d + 1) 39 [.inr (.inr (some 1))] m = some (none, m) := fun d => by
  have he := h.2.1
  refine (E39 d 1 s_1 m).trans ?_
  rw [if_pos (by rw [h.2.2.2, sp_m1 (by omega)]; exact not_false), lm_i_self]
theorem k41g (h : crd tx tk p m) (h0 : 0 < p) : (∀ d, lt_ev (d + 1) 41 [.inr (.inr (some 1))] m = some (none, lm_i m 1 2 (nI (p - 1)))) ∧ cbd tx tk (p - 1) (lm_i m 1 2 (nI (p - 1))) := by
  have h2 := h.1.1
  refine ⟨fun d => ?_, ctx_fr (fun b hb => lm_i_ne (by omega)) h.1, by have := h.2.1; omega, ⟨p, h.2.1, by rw [lm_i_ns (by omega)]; exact h.2.2.1⟩, lm_i_eq⟩
  refine (E41 d 1 s_1 m).trans ?_
  rw [if_neg (fun q => q h.2.2.2), h.2.2.1, q_1, pk_sub (by omega)]
theorem k41b (h : cbd tx tk e m) : ∀ d, lt_ev (d + 1) 41 [.inr (.inr (some 1))] m = some (none, m) := fun d => by
  have he := h.2.1
  refine (E41 d 1 s_1 m).trans ?_
  rw [if_pos (by rw [h.2.2.2, sp_m1 (by omega)]; exact not_false), lm_i_self]
theorem crd_p {p' : Nat} (h : crd tx tk p m) (hp : p' ≤ tk) : crd tx tk p' (lm_i m 1 1 (nI p')) := ⟨ctx_fr (fun b hb => lm_i_ne (by omega)) h.1, hp, lm_i_eq, by rw [lm_i_ns (by omega)]; exact h.2.2.2⟩
end RD

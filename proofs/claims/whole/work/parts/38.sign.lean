/-! ===== sign ===== -/
theorem by8 (y : Int32) : (vp_nar .byte (y.toInt8.toInt32)) &&& (255 : Int32) = y &&& (255 : Int32) := by
  have e : vp_nar .byte (y.toInt8.toInt32) = (y.toInt8.toInt32).toInt8.toInt32 := rfl
  rw [e]
  apply Int32.toBitVec_inj.mp
  apply BitVec.eq_of_getLsbD_eq
  intro i hi
  have h255 : (255 : Int32).toBitVec = BitVec.ofNat 32 255 := rfl
  rw [Int32.toBitVec_and, Int32.toBitVec_and, BitVec.getLsbD_and, BitVec.getLsbD_and, h255]
  by_cases c : i < 8
  · congr 1
    simp [c, Int8.toBitVec_toInt32, Int32.toBitVec_toInt8, BitVec.getLsbD_signExtend, hi]
    simp [BitVec.getElem_signExtend, c, hi]
  · have hz : (BitVec.ofNat 32 255).getLsbD i = false := by
      rw [BitVec.getLsbD_ofNat, Nat.testBit_lt_two_pow (Nat.lt_of_lt_of_le (by decide : 255 < 2 ^ 8) (Nat.pow_le_pow_right (by decide) (by omega)))]
      simp
    rw [hz, Bool.and_false, Bool.and_false]
def cn24 (k : Nat) : Int32 := if k < 4 then nI (24 - 8 * k) else -8
def cn3 (k : Nat) : Int32 := if k < 4 then nI (3 - k) else -1
theorem cn24_s {k : Nat} (h : k < 4) : cn24 k + (-8 : Int32) = cn24 (k + 1) := by
  have : ∀ k, k < 4 → cn24 k + (-8 : Int32) = cn24 (k + 1) := by decide +kernel
  exact this k h
theorem cn3_s {k : Nat} (h : k < 4) : cn3 k + (-1 : Int32) = cn3 (k + 1) := by
  have : ∀ k, k < 4 → cn3 k + (-1 : Int32) = cn3 (k + 1) := by decide +kernel
  exact this k h
theorem cn_m {k : Nat} (h : k < 4) : (8 : Int32) * cn3 k = cn24 k := by
  have : ∀ k, k < 4 → (8 : Int32) * cn3 k = cn24 k := by decide +kernel
  exact this k h
theorem cn_p {k : Nat} (h : k < 4) : ¬ cn24 k < 0 ∧ ¬ cn3 k < 0 := by
  have : ∀ k, k < 4 → ¬ cn24 k < 0 ∧ ¬ cn3 k < 0 := by decide +kernel
  exact this k h
def sgB (x : Int32) (k : Nat) : Nat := ((x >>> (cn24 k &&& 31)) &&& (255 : Int32)).toNatClampNeg
theorem sgB_e (x : Int32) (k : Nat) : sgB x k < 256 ∧ (x >>> (cn24 k &&& 31)) &&& (255 : Int32) = nI (sgB x k) := by
  obtain ⟨j, hj, e⟩ := pk_andE (x >>> (cn24 k &&& 31)) (m := (255 : Int32)) 8 (by decide)
  have h8 : (2 : Nat) ^ 8 = 256 := by decide
  have e2 : sgB x k = j := by unfold sgB; rw [e, nI_clamp (by omega)]
  rw [e2]
  exact ⟨by omega, e⟩
def sgC (x : Int32) (t : Nat) (m : lt_m) : Nat → lt_m
  | 0 => m
  | k + 1 => lm_i (lm_i (sgC x t m k) 3 (t + k) (nI (sgB x k))) 2 1 (nI (t + k + 1))
def sgM (x : Int32) (t : Nat) (m : lt_m) : Nat → lt_m
  | 0 => m
  | k + 1 => lm_i (lm_i (sgM x t m k) 711 12 (nI (t + k + 1))) 718 (t + k) (vp_nar .byte ((x >>> (cn24 k &&& 31)).toInt8.toInt32))
def sgT (x : Int32) (t : Nat) (tx : Nat → Nat) : Nat → Nat := fun j => if j < t then tx j else sgB x (j - t)
section TX
variable {dist wl : DT} {T : Nat} {S : ST} {m m' : lt_m} {vs : List Int32}
theorem sgC_p {x : Int32} {t : Nat} {tx : Nat → Nat} (h2 : m.1 2 1 = nI t) (h3 : ∀ j, j < t → m.1 3 j = nI (tx j)) : ∀ k, (sgC x t m k).1 2 1 = nI (t + k) ∧ (∀ j, j < t + k → (sgC x t m k).1 3 j = nI (sgT x t tx j)) ∧ (sgC x t m k).2 = m.2 ∧ ∀ b, b ≠ 2 → b ≠ 3 → (sgC x t m k).1 b = m.1 b := by
  intro k
  induction k with
  | zero => exact ⟨h2, fun j hj => by show m.1 3 j = _; unfold sgT; rw [if_pos (by omega)]; exact h3 j (by omega), rfl, fun _ _ _ => rfl⟩
  | succ k ih =>
    obtain ⟨i1, i2, i3, i4⟩ := ih
    refine ⟨lm_i_eq, fun j hj => ?_, i3, fun b b1 b2 => ?_⟩
    · show (lm_i (lm_i (sgC x t m k) 3 (t + k) (nI (sgB x k))) 2 1 (nI (t + k + 1))).1 3 j = _
      rw [lm_i_ne (by decide)]
      by_cases c : j = t + k
      · subst c
        rw [lm_i_eq]
        unfold sgT
        rw [if_neg (by omega), Nat.add_sub_cancel_left]
      · rw [lm_i_ns (by omega)]; exact i2 j (by omega)
    · show (lm_i (lm_i (sgC x t m k) 3 (t + k) (nI (sgB x k))) 2 1 (nI (t + k + 1))).1 b = _
      rw [lm_i_ne b1, lm_i_ne b2]; exact i4 b b1 b2
theorem sgM_p {x : Int32} {t : Nat} {tx : Nat → Nat} (h2 : m.1 711 12 = nI t) (h3 : ∀ j, j < t → m.1 718 j &&& 255 = nI (tx j)) : ∀ k, (sgM x t m k).1 711 12 = nI (t + k) ∧ (∀ j, j < t + k → (sgM x t m k).1 718 j &&& 255 = nI (sgT x t tx j)) ∧ (sgM x t m k).2 = m.2 ∧ ∀ b s, b ≠ 718 → ¬ (b = 711 ∧ s = 12) → (sgM x t m k).1 b s = m.1 b s := by
  intro k
  induction k with
  | zero => exact ⟨h2, fun j hj => by show m.1 718 j &&& 255 = _; unfold sgT; rw [if_pos (by omega)]; exact h3 j (by omega), rfl, fun _ _ _ _ => rfl⟩
  | succ k ih =>
    obtain ⟨i1, i2, i3, i4⟩ := ih
    refine ⟨?_, fun j hj => ?_, i3, fun b s b1 b2 => ?_⟩
    · show (lm_i (lm_i (sgM x t m k) 711 12 (nI (t + k + 1))) 718 (t + k) _).1 711 12 = _
      rw [lm_i_ne (by decide)]; exact lm_i_eq
    · show (lm_i (lm_i (sgM x t m k) 711 12 (nI (t + k + 1))) 718 (t + k) _).1 718 j &&& 255 = _
      by_cases c : j = t + k
      · subst c
        rw [lm_i_eq, by8, (sgB_e x k).2]
        unfold sgT
        rw [if_neg (by omega), Nat.add_sub_cancel_left]
      · rw [lm_i_ns (by omega), lm_i_ne (by decide)]; exact i2 j (by omega)
    · show (lm_i (lm_i (sgM x t m k) 711 12 (nI (t + k + 1))) 718 (t + k) _).1 b s = _
      rw [lm_i_ne b1, lm_i_ns b2]; exact i4 b s b1 b2
theorem op_sign (d : Nat) (hr : RR dist wl T m) (x : Int32) : OP dist wl d T T 26 179 [.inl x] m := by
  have hr0 := hr
  obtain ⟨N, w, vs, hs, hl, hc, hm⟩ := hr
  obtain ⟨S, rfl, rfl, hC, hM⟩ := RS_split hs
  obtain ⟨t1, t2, t4⟩ := hC.2.1
  obtain ⟨t3, t5⟩ := hM.2.1
  have hv : v27 m (0 + 1 + 1) = nI S.tk := t2
  have hcls : lt_ev (d + 30) 26 [.inr (.inr (some 0)), .inl x] m = _ := E26 (d + 29) 0 _ sx m
  rw [p27 (d + 28) (0 + 1 + 1) s2 m, lt_cI_s, hv, q_4, nI_add, q_200] at hcls
  have hmod : ∀ M : lt_m, M.1 711 12 = nI S.tk → lt_ev (d + 30) 179 [.inr (.inr (some 711)), .inl x] M = _ := fun M h => by
    refine (E179 (d + 29) 711 _ sy M).trans ?_
    rw [lm_i_ns (by omega), h, q_4, nI_add, q_200]
  by_cases c : S.tk + 4 ≤ 200
  · have hle : nI (S.tk + 4) ≤ nI 200 := nI_le c (by decide)
    rw [if_pos hle] at hcls
    obtain ⟨p1, p2, p3, p4⟩ := sgC_p (x := x) (tx := S.tx) t2 (fun j hj => (t4 j hj).2) 4
    obtain ⟨MC, hMC⟩ : ∃ MC, MC = sgC x S.tk m 4 := ⟨_, rfl⟩
    rw [← hMC] at p1 p2 p3 p4
    have hMs : MS S (lm_i MC 711 15 0) := MS_t0 (MS_fr (m := m) (fun b k hb _ => by rw [p4 b (by omega) (by omega)]) hM)
    obtain ⟨r1, r2, r3, r4⟩ := sgM_p (x := x) (tx := S.tx) (m := lm_i MC 711 15 0) (t := S.tk) hMs.2.1.1 hMs.2.1.2 4
    have hT : ∀ j, j < S.tk + 4 → sgT x S.tk S.tx j < 256 := fun j hj => by
      unfold sgT
      split
      · next q => exact (t4 j q).1
      · exact (sgB_e x _).1
    have C1 : CS dist wl T (ST.mk S.N S.w (sgT x S.tk S.tx) (S.tk + 4) S.z S.D S.l S.pw S.kb S.kw) MC := CS_tx (fun b b1 b2 b3 => p4 b b1 b2) p3 c p1 (fun j hj => ⟨hT j hj, p2 j hj⟩) hC
    have C2 : MS (ST.mk S.N S.w (sgT x S.tk S.tx) (S.tk + 4) S.z S.D S.l S.pw S.kb S.kw) (sgM x S.tk (lm_i MC 711 15 0) 4) := MS_tx (fun b k _ b2 b3 _ => r4 b k b2 b3) r1 r2 hMs
    refine OP_w (m1 := MC) (m2 := sgM x S.tk (lm_i MC 711 15 0) 4) (vs := vs) (.inl (nI (S.tk + 4))) (hcls.trans ?_) C1 ⟨p4 4 (by decide) (by decide), p4 5 (by decide) (by decide), by rw [p4 711 (by decide) (by decide)], by rw [p3]⟩ ((hmod MC (by rw [p4 711 (by decide) (by decide)]; exact t3)).trans ?_) C2 (fun b hb => funext fun k => by rw [r4 b k (by omega) (by omega), lm_i_ne (by omega)]) (by rw [r4 711 14 (by decide) (by omega), lm_i_ns (by omega)]) (by rw [r3]; rfl) hl hc hm
    · rw [show (24 : Int32) = cn24 0 by decide]
      refine lp_it (F := fun k (_ : Unit) => L26_25 (d + 29) 0 x (cn24 k) (sgC x S.tk m k)) 4 ?_ ?_ ()
      · intro k _ hk
        refine ⟨(), ?_⟩
        obtain ⟨g1, -, -, -⟩ := sgC_p (x := x) (tx := S.tx) t2 (fun j hj => (t4 j hj).2) k
        have e23 : lt_ev (d + 29) 23 [.inr (.inr (some (0 + 1 + 1))), .inl (nI (sgB x k))] (sgC x S.tk m k) = some (none, sgC x S.tk m (k + 1)) := by
          refine (E23 (d + 28) (0 + 1 + 1) _ s2 _).trans ?_
          rw [show (sgC x S.tk m k).1 (0 + 1 + 1) 1 = nI (S.tk + k) from g1, if_neg (by rw [q_200, sp_len (by omega) (by omega)]; omega), k17 (d + 27) (a := 0 + 1 + 1 + 1) (n := 200) (sf_of s2 0 (by decide) (by decide)) (by omega) (by decide), lt_cV_s, show (lm_i (sgC x S.tk m k) (0 + 1 + 1 + 1) (S.tk + k) (nI (sgB x k))).1 (0 + 1 + 1) 1 = nI (S.tk + k) by rw [lm_i_ne (by decide)]; exact g1, nI_1]
          rfl
        rw [E26_25 _ _ _ _ sx, if_neg (cn_p hk).1, (sgB_e x k).2, e23, lt_cV_s, cn24_s hk]
      · intro _
        rw [E26_25 _ _ _ _ sx, if_pos (by decide), ← hMC, p27 (d + 28) (0 + 1 + 1) s2 MC, lt_cI_s]
        unfold v27
        rw [show MC.1 (0 + 1 + 1) 1 = nI (S.tk + 4) from p1]
    · rw [if_pos hle, show (3 : Int32) = cn3 0 by decide]
      refine lp_it (F := fun k (_ : Unit) => L179_21 (d + 29) 711 x (cn3 k) (sgM x S.tk (lm_i MC 711 15 0) k)) 4 ?_ ?_ ()
      · intro k _ hk
        refine ⟨(), ?_⟩
        obtain ⟨g1, -, -, -⟩ := sgM_p (x := x) (tx := S.tx) (m := lm_i MC 711 15 0) (t := S.tk) hMs.2.1.1 hMs.2.1.2 k
        rw [E179_21 _ _ _ _ sy, if_neg (cn_p hk).2, g1, lt_gd_t (sp_gd (by omega) (by omega)), nI_clamp (by omega), nI_1, cn_m hk, cn3_s hk]
        rfl
      · intro _
        rw [E179_21 _ _ _ _ sy, if_pos (by decide), r1]
  · have hle : ¬ nI (S.tk + 4) ≤ nI 200 := fun q => c ((nI_leI (by omega) (by decide)).mp q)
    refine OP_q (.inl (-1)) hr0 (hcls.trans ?_) ((hmod m t3).trans ?_)
    · rw [if_neg hle]
    · rw [if_neg hle]
end TX

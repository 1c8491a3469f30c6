/-! ===== the ledger's constructor ===== -/
section LEDC
variable {d : Nat} {Y : ts_Y} {pc : Nat} {ls : List (Option ts_V)} {st r : List ts_V} {M M' : ts_M}
theorem cs_istore {k : Fin 4} {x : Int32} (hd : decode Y.2.1 pc = .ok (.istore_n k, 1)) (hk : (k : Nat) < Y.2.2.1) : ts_run (ts_ev d) Y (pc, ls, .inl x :: r, M) = ts_run (ts_ev d) Y (pc + 1, ts_lset ls k (.inl x), r, M) := by
  refine cs_go hd rfl (fun q => by cases q) ?_
  unfold ts_step
  dsimp only
  rw [if_pos hk]
theorem cs_iinc {k : Nat} {n : Int} {x : Int32} (hd : decode Y.2.1 pc = .ok (.iinc k n, 3)) (hg : ts_lget ls k = some (.inl x)) (hk : k < Y.2.2.1) : ts_run (ts_ev d) Y (pc, ls, st, M) = ts_run (ts_ev d) Y (pc + 3, ts_lset ls k (.inl (x + Int32.ofInt n)), st, M) := by
  refine cs_go hd rfl (fun q => by cases q) ?_
  unfold ts_step
  dsimp only
  rw [hg]
  dsimp only
  rw [if_pos hk]
theorem cs_getR {x c k a o : Nat} (hd : decode Y.2.1 pc = .ok (.getfield x, 3)) (hf : ts_fld Y.2.2.2.2 x = some (c, k)) (hsh : ts_sh a = (0, c)) (ha : a < M.2.2.2) (ht : ts_isr (ts_ty c k) = true) (ho : M.2.2.1 a k = some o) : ts_run (ts_ev d) Y (pc, ls, .inr (.inr (some a)) :: r, M) = ts_run (ts_ev d) Y (pc + 3, ls, .inr (.inr (some o)) :: r, M) := by
  refine cs_go hd rfl (fun q => by cases q) ?_
  unfold ts_step
  dsimp only
  rw [hf]
  dsimp only
  rw [if_pos ⟨hsh, ha⟩]
  unfold ts_gv
  rw [if_pos ht, ho]
theorem cs_alen {a n k : Nat} (hd : decode Y.2.1 pc = .ok (.arraylength, 1)) (hsh : ts_sh a = (k, n)) (hk : 1 ≤ k ∧ k ≤ 5) (ha : a < M.2.2.2) : ts_run (ts_ev d) Y (pc, ls, .inr (.inr (some a)) :: r, M) = ts_run (ts_ev d) Y (pc + 1, ls, .inl (nI n) :: r, M) := by
  refine cs_go hd rfl (fun q => by cases q) ?_
  unfold ts_step
  dsimp only
  rw [hsh]
  exact if_pos ⟨hk.1, hk.2, ha⟩
theorem cs_ge {off : Int} {t : Nat} {x y : Int32} (hd : decode Y.2.1 pc = .ok (.if_icmp .ge off, 3)) (ht : ts_jmp pc off = some t) : ts_run (ts_ev d) Y (pc, ls, .inl y :: .inl x :: r, M) = if y ≤ x then ts_run (ts_ev d) Y (t, ls, r, M) else ts_run (ts_ev d) Y (pc + 3, ls, r, M) := by
  split
  · next h =>
    refine cs_go hd rfl (fun q => by cases q) ?_
    unfold ts_step
    dsimp only
    unfold ts_br
    rw [ht]
    exact if_pos h
  · next h =>
    refine cs_go hd rfl (fun q => by cases q) ?_
    unfold ts_step
    dsimp only
    unfold ts_br
    rw [ht]
    exact if_neg h
theorem cs_goto {off : Int} {t : Nat} (hd : decode Y.2.1 pc = .ok (.goto off, 3)) (ht : ts_jmp pc off = some t) : ts_run (ts_ev d) Y (pc, ls, st, M) = ts_run (ts_ev d) Y (t, ls, st, M) := by
  refine cs_go hd rfl (fun q => by cases q) ?_
  unfold ts_step
  dsimp only
  unfold ts_to
  rw [ht]
theorem cs_aast {v a i n : Nat} (hd : decode Y.2.1 pc = .ok (.aastore, 1)) (hn : Y.1.name = "<init>") (hsh : (ts_sh a = (4, n) ∧ ts_sh v = (0, 4)) ∨ (ts_sh a = (5, n) ∧ ts_sh v = (0, 2))) (hv : v < M.2.2.2) (ha : a < M.2.2.2) (hi : i < n) (hn2 : n ≤ 1000) : ts_run (ts_ev d) Y (pc, ls, .inr (.inr (some v)) :: .inl (nI i) :: .inr (.inr (some a)) :: r, M) = ts_run (ts_ev d) Y (pc + 1, ls, r, ts_wrR M a i (some v)) := by
  refine cs_go hd rfl (fun q => hn) ?_
  unfold ts_step
  dsimp only
  have e : (nI i).toNatClampNeg = i := nI_clamp (by omega)
  rcases hsh with ⟨h1, h2⟩ | ⟨h1, h2⟩
  · rw [e, h1, h2]
    exact if_pos ⟨Or.inl ⟨rfl, rfl⟩, hv, ha, nI_pos' (by omega), hi⟩
  · rw [e, h1, h2]
    exact if_pos ⟨Or.inr ⟨rfl, rfl⟩, hv, ha, nI_pos' (by omega), hi⟩
end LEDC
abbrev YC7 : ts_Y := (yX2_init, cX2_init, 2, none, 2)
theorem hYC7 : ts_mL[7]? = some YC7 := rfl
theorem dc7_0 : decode YC7.2.1 0 = .ok (.aload_n 0, 1) := by decide +kernel
theorem dc7_1 : decode YC7.2.1 1 = .ok (.invokespecial 3, 3) := by decide +kernel
theorem dc7_4 : decode YC7.2.1 4 = .ok (.aload_n 0, 1) := by decide +kernel
theorem dc7_5 : decode YC7.2.1 5 = .ok (.bipush 6, 2) := by decide +kernel
theorem dc7_7 : decode YC7.2.1 7 = .ok (.newarray .int, 2) := by decide +kernel
theorem dc7_9 : decode YC7.2.1 9 = .ok (.putfield 9, 3) := by decide +kernel
theorem dc7_12 : decode YC7.2.1 12 = .ok (.aload_n 0, 1) := by decide +kernel
theorem dc7_13 : decode YC7.2.1 13 = .ok (.bipush 6, 2) := by decide +kernel
theorem dc7_15 : decode YC7.2.1 15 = .ok (.newarray .int, 2) := by decide +kernel
theorem dc7_17 : decode YC7.2.1 17 = .ok (.putfield 15, 3) := by decide +kernel
theorem dc7_20 : decode YC7.2.1 20 = .ok (.aload_n 0, 1) := by decide +kernel
theorem dc7_21 : decode YC7.2.1 21 = .ok (.bipush 20, 2) := by decide +kernel
theorem dc7_23 : decode YC7.2.1 23 = .ok (.anewarray 18, 3) := by decide +kernel
theorem dc7_26 : decode YC7.2.1 26 = .ok (.putfield 20, 3) := by decide +kernel
theorem dc7_29 : decode YC7.2.1 29 = .ok (.aload_n 0, 1) := by decide +kernel
theorem dc7_30 : decode YC7.2.1 30 = .ok (.new 24, 3) := by decide +kernel
theorem dc7_33 : decode YC7.2.1 33 = .ok (.dup, 1) := by decide +kernel
theorem dc7_34 : decode YC7.2.1 34 = .ok (.invokespecial 26, 3) := by decide +kernel
theorem dc7_37 : decode YC7.2.1 37 = .ok (.putfield 27, 3) := by decide +kernel
theorem dc7_40 : decode YC7.2.1 40 = .ok (.iconst 0, 1) := by decide +kernel
theorem dc7_41 : decode YC7.2.1 41 = .ok (.istore_n 1, 1) := by decide +kernel
theorem dc7_42 : decode YC7.2.1 42 = .ok (.iload_n 1, 1) := by decide +kernel
theorem dc7_43 : decode YC7.2.1 43 = .ok (.aload_n 0, 1) := by decide +kernel
theorem dc7_44 : decode YC7.2.1 44 = .ok (.getfield 20, 3) := by decide +kernel
theorem dc7_47 : decode YC7.2.1 47 = .ok (.arraylength, 1) := by decide +kernel
theorem dc7_48 : decode YC7.2.1 48 = .ok (.if_icmp .ge 23, 3) := by decide +kernel
theorem dc7_51 : decode YC7.2.1 51 = .ok (.aload_n 0, 1) := by decide +kernel
theorem dc7_52 : decode YC7.2.1 52 = .ok (.getfield 20, 3) := by decide +kernel
theorem dc7_55 : decode YC7.2.1 55 = .ok (.iload_n 1, 1) := by decide +kernel
theorem dc7_56 : decode YC7.2.1 56 = .ok (.new 18, 3) := by decide +kernel
theorem dc7_59 : decode YC7.2.1 59 = .ok (.dup, 1) := by decide +kernel
theorem dc7_60 : decode YC7.2.1 60 = .ok (.iload_n 1, 1) := by decide +kernel
theorem dc7_61 : decode YC7.2.1 61 = .ok (.invokespecial 31, 3) := by decide +kernel
theorem dc7_64 : decode YC7.2.1 64 = .ok (.aastore, 1) := by decide +kernel
theorem dc7_65 : decode YC7.2.1 65 = .ok (.iinc 1 1, 3) := by decide +kernel
theorem dc7_68 : decode YC7.2.1 68 = .ok (.goto (-26), 3) := by decide +kernel
theorem dc7_71 : decode YC7.2.1 71 = .ok (.return_, 1) := by decide +kernel
/-- the numbers of a ledger that is new, at L -/
def leI (L b j : Nat) : Int32 := if L + 8 ≤ b ∧ (b - L - 8) % 3 = 0 then (if j = 0 then nI ((b - L - 8) / 3) else if j = 7 then -1 else 0) else 0
def leL (L i : Nat) : List (Option ts_V) := [some (.inr (.inr (some L))), some (.inl (nI i))]
def leV (L i : Nat) (M M' : ts_M) : Prop := M'.2.2.2 = L + 8 + 3 * i ∧ (∀ b, b < L → ∀ j, M'.1 b j = M.1 b j ∧ M'.2.2.1 b j = M.2.2.1 b j) ∧ (∀ b, L ≤ b → b < L + 8 + 3 * i → ∀ j, M'.1 b j = leI L b j) ∧ ∀ b, L ≤ b → b < L + 8 + 3 * i → ∀ j, j < ts_rk b → (b = L + 3 → j < i) → M'.2.2.1 b j = ts_G b j
theorem c7_loop {L : Nat} {M : ts_M} (hL : ts_sh L = (0, 2)) (hN : L + 68 ≤ 711) : ∀ r i M1, i + r = 20 → leV L i M M1 → ∃ M2, (∀ d, ts_run (ts_ev (d + 1)) YC7 (42, leL L i, [], M1) = some (none, M2)) ∧ leV L 20 M M2 := by
  have s3 : ts_sh (L + 3) = (4, 20) := sf_of hL 2 (by decide) (by decide)
  have hG : ∀ i M1, leV L i M M1 → M1.2.2.1 L 2 = some (L + 3) := fun i M1 h => by
    rw [h.2.2.2 L (by omega) (by omega) 2 (by rw [rkk_0 hL]; decide) (by omega), tG_0 hL, if_neg (by decide)]
    rfl
  have head : ∀ d i M1, i ≤ 20 → leV L i M M1 → ts_run (ts_ev (d + 1)) YC7 (42, leL L i, [], M1) = if nI 20 ≤ nI i then ts_run (ts_ev (d + 1)) YC7 (71, leL L i, [], M1) else ts_run (ts_ev (d + 1)) YC7 (51, leL L i, [], M1) := fun d i M1 hi h => by
    have hc := h.1
    refine (cs_iload dc7_42 rfl).trans ?_
    refine (cs_aload dc7_43 rfl).trans ?_
    refine (cs_getR (c := 2) (k := 2) dc7_44 (by decide +kernel) hL (by omega) rfl (hG i M1 h)).trans ?_
    refine (cs_alen dc7_47 s3 (by decide) (by omega)).trans ?_
    exact cs_ge dc7_48 rfl
  intro r
  induction r with
  | zero =>
    intro i M1 hi h
    have hi : i = 20 := hi
    subst hi
    exact ⟨M1, fun d => by rw [head d 20 M1 (by omega) h, if_pos (by decide)]; exact cs_ret dc7_71 rfl, h⟩
  | succ r ih =>
    intro i M1 hi h
    have hc := h.1
    obtain ⟨q, hq⟩ : ∃ q, q = L + 8 + 3 * i := ⟨_, rfl⟩
    have sq : ts_sh q = (0, 4) := by
      rw [hq, show L + 8 + 3 * i = L + 3 + 5 + 3 * i by omega]
      exact sh_mv hL (by omega)
    have sq1 : ts_sh (q + 1) = (1, 8) := sf_of sq 12 (by decide) (by decide)
    have sq2 : ts_sh (q + 2) = (1, 8) := sf_of sq 13 (by decide) (by decide)
    obtain ⟨m1, m2, m3, m4⟩ := cX_mv (x := nI i) (M := M1) (n := q) (by rw [hc, hq]) sq
    obtain ⟨M2, hM2⟩ : ∃ M2, M2 = kM9 q (nI i) (ts_new M1) := ⟨_, rfl⟩
    rw [← hM2] at m1 m2 m3 m4
    have h2 : leV L (i + 1) M (ts_wrR M2 (L + 3) i (some q)) := by
      refine ⟨by rw [wR_n, m1]; omega, fun b hb j => ⟨?_, ?_⟩, fun b b1 b2 j => ?_, fun b b1 b2 j hj hx => ?_⟩
      · rw [wR_i, (m2 b (by omega) j).1]; exact (h.2.1 b hb j).1
      · rw [wR_r1 (by omega), (m2 b (by omega) j).2]; exact (h.2.1 b hb j).2
      · rw [wR_i]
        rcases Nat.lt_or_ge b q with c | c
        · rw [(m2 b c j).1]; exact h.2.2.1 b b1 (by omega) j
        · rw [m3 b c (by omega) j]
          unfold mvI leI
          by_cases e : b = q
          · rw [if_pos (show L + 8 ≤ b ∧ (b - L - 8) % 3 = 0 by omega), show (b - L - 8) / 3 = i by omega]
            by_cases j0 : j = 0
            · rw [if_pos ⟨e, j0⟩, if_pos j0]
            · rw [if_neg (by omega), if_neg j0]
              by_cases j7 : j = 7
              · rw [if_pos ⟨e, j7⟩, if_pos j7]
              · rw [if_neg (by omega), if_neg j7]
          · rw [if_neg (by omega), if_neg (by omega), if_neg (by omega)]
      · rcases Nat.lt_or_ge b q with c | c
        · by_cases e : b = L + 3 ∧ j = i
          · rw [wR_r0 e.1 e.2, e.1, tG_4 s3, e.2, hq]
          · rw [wR_r1 e, (m2 b c j).2]
            exact h.2.2.2 b b1 (by omega) j hj (fun q => by have := hx q; omega)
        · rw [wR_r1 (by omega)]
          exact m4 b c (by omega) j hj
    obtain ⟨M3, e3, h3⟩ := ih (i + 1) _ (by omega) h2
    refine ⟨M3, fun d => ?_, h3⟩
    rw [head d i M1 (by omega) h, if_neg (by rw [sp_len (by omega) (by omega)]; omega)]
    refine (cs_aload dc7_51 rfl).trans ?_
    refine (cs_getR (c := 2) (k := 2) dc7_52 (by decide +kernel) hL (by omega) rfl (hG i M1 h)).trans ?_
    refine (cs_iload dc7_55 rfl).trans ?_
    refine (cs_new (M := M1) (c := 4) dc7_56 rfl (by decide +kernel) (by rw [hc, ← hq]; exact sq) (by rw [hc]; show _ < 711; omega)).trans ?_
    rw [show M1.2.2.2 = q by rw [hc, hq]]
    refine (cs_dup dc7_59).trans ?_
    refine (cs_iload dc7_60 rfl).trans ?_
    have hcn : (ts_new M1).2.2.2 = q + 1 := by rw [nw_n, hc, hq]
    have k9 : ts_ev (d + 1) 9 [.inr (.inr (some q)), .inl (nI i)] (ts_new M1) = some (none, M2) := by
      rw [hM2]
      exact kC9 d sq (by rw [hcn]; omega) (by rw [hcn]; exact sq1) (by rw [hcn]; exact sq2) (by rw [hcn]; omega)
    refine (cs_init (y := 9) (n := 1) (z := 0) dc7_61 rfl (by decide +kernel) (by decide +kernel) (by decide +kernel) rfl rfl (Nat.le_of_ble_eq_true rfl) (Nat.le_of_ble_eq_true rfl) k9).trans ?_
    refine (cs_aast (n := 20) dc7_64 rfl (Or.inl ⟨s3, sq⟩) (by rw [m1]; omega) (by rw [m1]; omega) (by omega) (by decide)).trans ?_
    refine (cs_iinc (x := nI i) dc7_65 rfl (by decide)).trans ?_
    refine (cs_goto (t := 42) dc7_68 rfl).trans ?_
    rw [show Int32.ofInt 1 = (1 : Int32) from by decide +kernel, nI_1]
    exact e3 d

/-! ===== one field of a movement changes ===== -/
section SET
variable {N : NT} {w : Nat → Nat} {i q v T : Nat} {m : lt_m}
theorem mvR_st (h : mvR N w i q m) : mvR N (wset w (19 + 26 * i) v) i q (lm_i m q 7 (nI v)) := by
  have e_of : w_of (wset w (19 + 26 * i) v) i = w_of w i := if_neg (by omega)
  have e_kd : w_kd (wset w (19 + 26 * i) v) i = w_kd w i := if_neg (by omega)
  have e_un : w_un (wset w (19 + 26 * i) v) i = w_un w i := if_neg (by omega)
  have e_st : w_st (wset w (19 + 26 * i) v) i = v := if_pos rfl
  have e_sh : w_sh (wset w (19 + 26 * i) v) i = w_sh w i := if_neg (by omega)
  have e_tm : w_tm (wset w (19 + 26 * i) v) i = w_tm w i := if_neg (by omega)
  have e_sp : w_sp (wset w (19 + 26 * i) v) i = w_sp w i := if_neg (by omega)
  have e_br : w_br (wset w (19 + 26 * i) v) i = w_br w i := if_neg (by omega)
  have e_db : w_db (wset w (19 + 26 * i) v) i = w_db w i := if_neg (by omega)
  have e_lg : w_lg (wset w (19 + 26 * i) v) i = w_lg w i := if_neg (by omega)
  have e_rt : ∀ k, w_rt (wset w (19 + 26 * i) v) i k = w_rt w i k := fun k => if_neg (by omega)
  have e_at : ∀ k, w_at (wset w (19 + 26 * i) v) i k = w_at w i k := fun k => if_neg (by omega)
  unfold mvR at h ⊢
  rw [e_of, e_kd, e_un, e_st, e_sh, e_tm, e_sp, e_br, e_db, e_lg]
  obtain ⟨a1, a2, a3, a4, a5, a6, a7, a8, a9, a10, a11, a12, a13⟩ := h
  exact ⟨by rw [lm_i_ns (by omega)]; exact a1, by rw [lm_i_ns (by omega)]; exact a2, by rw [lm_i_ns (by omega)]; exact a3, by rw [lm_i_ns (by omega)]; exact a4, by rw [lm_i_ns (by omega)]; exact a5, by rw [lm_i_ns (by omega)]; exact a6, lm_i_eq, by rw [lm_i_ns (by omega)]; exact a8, by rw [lm_i_ns (by omega)]; exact a9, by rw [lm_i_ns (by omega)]; exact a10, by rw [lm_i_ns (by omega)]; exact a11, fun k hk => by rw [lm_i_ne (by omega), e_rt]; exact a12 k hk, fun k hk => by rw [lm_i_ne (by omega), e_at]; exact a13 k hk⟩
theorem mvR_tm (h : mvR N w i q m) : mvR N (wset w (21 + 26 * i) v) i q (lm_i m q 6 (nI v)) := by
  have e_of : w_of (wset w (21 + 26 * i) v) i = w_of w i := if_neg (by omega)
  have e_kd : w_kd (wset w (21 + 26 * i) v) i = w_kd w i := if_neg (by omega)
  have e_un : w_un (wset w (21 + 26 * i) v) i = w_un w i := if_neg (by omega)
  have e_st : w_st (wset w (21 + 26 * i) v) i = w_st w i := if_neg (by omega)
  have e_sh : w_sh (wset w (21 + 26 * i) v) i = w_sh w i := if_neg (by omega)
  have e_tm : w_tm (wset w (21 + 26 * i) v) i = v := if_pos rfl
  have e_sp : w_sp (wset w (21 + 26 * i) v) i = w_sp w i := if_neg (by omega)
  have e_br : w_br (wset w (21 + 26 * i) v) i = w_br w i := if_neg (by omega)
  have e_db : w_db (wset w (21 + 26 * i) v) i = w_db w i := if_neg (by omega)
  have e_lg : w_lg (wset w (21 + 26 * i) v) i = w_lg w i := if_neg (by omega)
  have e_rt : ∀ k, w_rt (wset w (21 + 26 * i) v) i k = w_rt w i k := fun k => if_neg (by omega)
  have e_at : ∀ k, w_at (wset w (21 + 26 * i) v) i k = w_at w i k := fun k => if_neg (by omega)
  unfold mvR at h ⊢
  rw [e_of, e_kd, e_un, e_st, e_sh, e_tm, e_sp, e_br, e_db, e_lg]
  obtain ⟨a1, a2, a3, a4, a5, a6, a7, a8, a9, a10, a11, a12, a13⟩ := h
  exact ⟨by rw [lm_i_ns (by omega)]; exact a1, by rw [lm_i_ns (by omega)]; exact a2, by rw [lm_i_ns (by omega)]; exact a3, by rw [lm_i_ns (by omega)]; exact a4, by rw [lm_i_ns (by omega)]; exact a5, lm_i_eq, by rw [lm_i_ns (by omega)]; exact a7, by rw [lm_i_ns (by omega)]; exact a8, by rw [lm_i_ns (by omega)]; exact a9, by rw [lm_i_ns (by omega)]; exact a10, by rw [lm_i_ns (by omega)]; exact a11, fun k hk => by rw [lm_i_ne (by omega), e_rt]; exact a12 k hk, fun k hk => by rw [lm_i_ne (by omega), e_at]; exact a13 k hk⟩
theorem mvR_br (h : mvR N w i q m) : mvR N (wset w (23 + 26 * i) v) i q (lm_i m q 11 (nI v)) := by
  have e_of : w_of (wset w (23 + 26 * i) v) i = w_of w i := if_neg (by omega)
  have e_kd : w_kd (wset w (23 + 26 * i) v) i = w_kd w i := if_neg (by omega)
  have e_un : w_un (wset w (23 + 26 * i) v) i = w_un w i := if_neg (by omega)
  have e_st : w_st (wset w (23 + 26 * i) v) i = w_st w i := if_neg (by omega)
  have e_sh : w_sh (wset w (23 + 26 * i) v) i = w_sh w i := if_neg (by omega)
  have e_tm : w_tm (wset w (23 + 26 * i) v) i = w_tm w i := if_neg (by omega)
  have e_sp : w_sp (wset w (23 + 26 * i) v) i = w_sp w i := if_neg (by omega)
  have e_br : w_br (wset w (23 + 26 * i) v) i = v := if_pos rfl
  have e_db : w_db (wset w (23 + 26 * i) v) i = w_db w i := if_neg (by omega)
  have e_lg : w_lg (wset w (23 + 26 * i) v) i = w_lg w i := if_neg (by omega)
  have e_rt : ∀ k, w_rt (wset w (23 + 26 * i) v) i k = w_rt w i k := fun k => if_neg (by omega)
  have e_at : ∀ k, w_at (wset w (23 + 26 * i) v) i k = w_at w i k := fun k => if_neg (by omega)
  unfold mvR at h ⊢
  rw [e_of, e_kd, e_un, e_st, e_sh, e_tm, e_sp, e_br, e_db, e_lg]
  obtain ⟨a1, a2, a3, a4, a5, a6, a7, a8, a9, a10, a11, a12, a13⟩ := h
  exact ⟨by rw [lm_i_ns (by omega)]; exact a1, by rw [lm_i_ns (by omega)]; exact a2, by rw [lm_i_ns (by omega)]; exact a3, by rw [lm_i_ns (by omega)]; exact a4, by rw [lm_i_ns (by omega)]; exact a5, by rw [lm_i_ns (by omega)]; exact a6, by rw [lm_i_ns (by omega)]; exact a7, by rw [lm_i_ns (by omega)]; exact a8, by rw [lm_i_ns (by omega)]; exact a9, by rw [lm_i_ns (by omega)]; exact a10, lm_i_eq, fun k hk => by rw [lm_i_ne (by omega), e_rt]; exact a12 k hk, fun k hk => by rw [lm_i_ne (by omega), e_at]; exact a13 k hk⟩
theorem mvR_db (h : mvR N w i q m) : mvR N (wset w (24 + 26 * i) v) i q (lm_i m q 10 (nI v)) := by
  have e_of : w_of (wset w (24 + 26 * i) v) i = w_of w i := if_neg (by omega)
  have e_kd : w_kd (wset w (24 + 26 * i) v) i = w_kd w i := if_neg (by omega)
  have e_un : w_un (wset w (24 + 26 * i) v) i = w_un w i := if_neg (by omega)
  have e_st : w_st (wset w (24 + 26 * i) v) i = w_st w i := if_neg (by omega)
  have e_sh : w_sh (wset w (24 + 26 * i) v) i = w_sh w i := if_neg (by omega)
  have e_tm : w_tm (wset w (24 + 26 * i) v) i = w_tm w i := if_neg (by omega)
  have e_sp : w_sp (wset w (24 + 26 * i) v) i = w_sp w i := if_neg (by omega)
  have e_br : w_br (wset w (24 + 26 * i) v) i = w_br w i := if_neg (by omega)
  have e_db : w_db (wset w (24 + 26 * i) v) i = v := if_pos rfl
  have e_lg : w_lg (wset w (24 + 26 * i) v) i = w_lg w i := if_neg (by omega)
  have e_rt : ∀ k, w_rt (wset w (24 + 26 * i) v) i k = w_rt w i k := fun k => if_neg (by omega)
  have e_at : ∀ k, w_at (wset w (24 + 26 * i) v) i k = w_at w i k := fun k => if_neg (by omega)
  unfold mvR at h ⊢
  rw [e_of, e_kd, e_un, e_st, e_sh, e_tm, e_sp, e_br, e_db, e_lg]
  obtain ⟨a1, a2, a3, a4, a5, a6, a7, a8, a9, a10, a11, a12, a13⟩ := h
  exact ⟨by rw [lm_i_ns (by omega)]; exact a1, by rw [lm_i_ns (by omega)]; exact a2, by rw [lm_i_ns (by omega)]; exact a3, by rw [lm_i_ns (by omega)]; exact a4, by rw [lm_i_ns (by omega)]; exact a5, by rw [lm_i_ns (by omega)]; exact a6, by rw [lm_i_ns (by omega)]; exact a7, by rw [lm_i_ns (by omega)]; exact a8, by rw [lm_i_ns (by omega)]; exact a9, lm_i_eq, by rw [lm_i_ns (by omega)]; exact a11, fun k hk => by rw [lm_i_ne (by omega), e_rt]; exact a12 k hk, fun k hk => by rw [lm_i_ne (by omega), e_at]; exact a13 k hk⟩
theorem wfM_br (hv : v ≤ 1) (h : wfM N w i) : wfM N (wset w (23 + 26 * i) v) i := by
  have e_of : w_of (wset w (23 + 26 * i) v) i = w_of w i := if_neg (by omega)
  have e_kd : w_kd (wset w (23 + 26 * i) v) i = w_kd w i := if_neg (by omega)
  have e_un : w_un (wset w (23 + 26 * i) v) i = w_un w i := if_neg (by omega)
  have e_st : w_st (wset w (23 + 26 * i) v) i = w_st w i := if_neg (by omega)
  have e_sh : w_sh (wset w (23 + 26 * i) v) i = w_sh w i := if_neg (by omega)
  have e_tm : w_tm (wset w (23 + 26 * i) v) i = w_tm w i := if_neg (by omega)
  have e_sp : w_sp (wset w (23 + 26 * i) v) i = w_sp w i := if_neg (by omega)
  have e_br : w_br (wset w (23 + 26 * i) v) i = v := if_pos rfl
  have e_db : w_db (wset w (23 + 26 * i) v) i = w_db w i := if_neg (by omega)
  have e_lg : w_lg (wset w (23 + 26 * i) v) i = w_lg w i := if_neg (by omega)
  have e_rt : ∀ k, w_rt (wset w (23 + 26 * i) v) i k = w_rt w i k := fun k => if_neg (by omega)
  have e_at : ∀ k, w_at (wset w (23 + 26 * i) v) i k = w_at w i k := fun k => if_neg (by omega)
  have e_0 : wset w (23 + 26 * i) v 0 = w 0 := if_neg (by omega)
  have e_1 : wset w (23 + 26 * i) v 1 = w 1 := if_neg (by omega)
  have e_g : w_goes (wset w (23 + 26 * i) v) i = w_goes w i := by unfold w_goes; rw [e_st]
  unfold wfM at h ⊢
  rw [e_of, e_kd, e_un, e_st, e_sh, e_tm, e_sp, e_br, e_db, e_lg, e_0, e_1, e_g]
  obtain ⟨a0, a1, a2, a3, a4, a5, a6, a7, a8, a9, a10, a11, a12, a13, a14, a15, a16, a17, a18⟩ := h
  exact ⟨a0, a1, a2, a3, a4, a5, a6, a7, a8, a9, a10, hv, a12, fun k hk => by rw [e_rt]; exact a13 k hk, fun k hk => by rw [e_rt, e_rt]; exact a14 k hk, fun k hk => by rw [e_at]; exact a15 k hk, a16, a17, a18⟩
theorem wfM_st (hv : v = 1 ∨ v = 2 ∨ v = 4 ∨ v = 5) (hd : v ≤ 3 → w_db w i = 0) (h : wfM N w i) : wfM N (wset w (19 + 26 * i) v) i := by
  have e_of : w_of (wset w (19 + 26 * i) v) i = w_of w i := if_neg (by omega)
  have e_kd : w_kd (wset w (19 + 26 * i) v) i = w_kd w i := if_neg (by omega)
  have e_un : w_un (wset w (19 + 26 * i) v) i = w_un w i := if_neg (by omega)
  have e_st : w_st (wset w (19 + 26 * i) v) i = v := if_pos rfl
  have e_sh : w_sh (wset w (19 + 26 * i) v) i = w_sh w i := if_neg (by omega)
  have e_tm : w_tm (wset w (19 + 26 * i) v) i = w_tm w i := if_neg (by omega)
  have e_sp : w_sp (wset w (19 + 26 * i) v) i = w_sp w i := if_neg (by omega)
  have e_br : w_br (wset w (19 + 26 * i) v) i = w_br w i := if_neg (by omega)
  have e_db : w_db (wset w (19 + 26 * i) v) i = w_db w i := if_neg (by omega)
  have e_lg : w_lg (wset w (19 + 26 * i) v) i = w_lg w i := if_neg (by omega)
  have e_rt : ∀ k, w_rt (wset w (19 + 26 * i) v) i k = w_rt w i k := fun k => if_neg (by omega)
  have e_at : ∀ k, w_at (wset w (19 + 26 * i) v) i k = w_at w i k := fun k => if_neg (by omega)
  have e_0 : wset w (19 + 26 * i) v 0 = w 0 := if_neg (by omega)
  have e_1 : wset w (19 + 26 * i) v 1 = w 1 := if_neg (by omega)
  have e_g : w_goes (wset w (19 + 26 * i) v) i = false := by unfold w_goes; rw [e_st]; simp; omega
  unfold wfM at h ⊢
  rw [e_of, e_kd, e_un, e_st, e_sh, e_tm, e_sp, e_br, e_db, e_lg, e_0, e_1, e_g]
  obtain ⟨a0, a1, a2, a3, a4, a5, a6, a7, a8, a9, a10, a11, a12, a13, a14, a15, a16, a17, a18⟩ := h
  exact ⟨a0, a1, a2, a3, by omega, a5, a6, a7, a8, a9, a10, a11, ⟨a12.1, hd⟩, fun k hk => by rw [e_rt]; exact a13 k hk, fun k hk => by rw [e_rt, e_rt]; exact a14 k hk, fun k hk => by rw [e_at]; exact a15 k hk, fun q => absurd q (by decide), fun q => (by omega), fun q => (by omega)⟩
theorem wfM_sd {u : Nat} (hv : v = 1 ∨ v = 2 ∨ v = 4 ∨ v = 5) (hu : u ≤ 2000000) (hd : v ≤ 3 → u = 0) (h : wfM N w i) : wfM N (wset (wset w (24 + 26 * i) u) (19 + 26 * i) v) i := by
  have e_of : w_of (wset (wset w (24 + 26 * i) u) (19 + 26 * i) v) i = w_of w i := (if_neg (by omega)).trans (if_neg (by omega))
  have e_kd : w_kd (wset (wset w (24 + 26 * i) u) (19 + 26 * i) v) i = w_kd w i := (if_neg (by omega)).trans (if_neg (by omega))
  have e_un : w_un (wset (wset w (24 + 26 * i) u) (19 + 26 * i) v) i = w_un w i := (if_neg (by omega)).trans (if_neg (by omega))
  have e_st : w_st (wset (wset w (24 + 26 * i) u) (19 + 26 * i) v) i = v := if_pos rfl
  have e_sh : w_sh (wset (wset w (24 + 26 * i) u) (19 + 26 * i) v) i = w_sh w i := (if_neg (by omega)).trans (if_neg (by omega))
  have e_tm : w_tm (wset (wset w (24 + 26 * i) u) (19 + 26 * i) v) i = w_tm w i := (if_neg (by omega)).trans (if_neg (by omega))
  have e_sp : w_sp (wset (wset w (24 + 26 * i) u) (19 + 26 * i) v) i = w_sp w i := (if_neg (by omega)).trans (if_neg (by omega))
  have e_br : w_br (wset (wset w (24 + 26 * i) u) (19 + 26 * i) v) i = w_br w i := (if_neg (by omega)).trans (if_neg (by omega))
  have e_db : w_db (wset (wset w (24 + 26 * i) u) (19 + 26 * i) v) i = u := (if_neg (by omega)).trans (if_pos rfl)
  have e_lg : w_lg (wset (wset w (24 + 26 * i) u) (19 + 26 * i) v) i = w_lg w i := (if_neg (by omega)).trans (if_neg (by omega))
  have e_rt : ∀ k, w_rt (wset (wset w (24 + 26 * i) u) (19 + 26 * i) v) i k = w_rt w i k := fun k => (if_neg (by omega)).trans (if_neg (by omega))
  have e_at : ∀ k, w_at (wset (wset w (24 + 26 * i) u) (19 + 26 * i) v) i k = w_at w i k := fun k => (if_neg (by omega)).trans (if_neg (by omega))
  have e_0 : (wset (wset w (24 + 26 * i) u) (19 + 26 * i) v) 0 = w 0 := (if_neg (by omega)).trans (if_neg (by omega))
  have e_1 : (wset (wset w (24 + 26 * i) u) (19 + 26 * i) v) 1 = w 1 := (if_neg (by omega)).trans (if_neg (by omega))
  have e_g : w_goes (wset (wset w (24 + 26 * i) u) (19 + 26 * i) v) i = false := by unfold w_goes; rw [e_st]; simp; omega
  unfold wfM at h ⊢
  rw [e_of, e_kd, e_un, e_st, e_sh, e_tm, e_sp, e_br, e_db, e_lg, e_0, e_1, e_g]
  obtain ⟨a0, a1, a2, a3, a4, a5, a6, a7, a8, a9, a10, a11, a12, a13, a14, a15, a16, a17, a18⟩ := h
  exact ⟨a0, a1, a2, a3, by omega, a5, a6, a7, a8, a9, a10, a11, ⟨hu, hd⟩, fun k hk => by rw [e_rt]; exact a13 k hk, fun k hk => by rw [e_rt, e_rt]; exact a14 k hk, fun k hk => by rw [e_at]; exact a15 k hk, fun q => absurd q (by decide), fun q => (by omega), fun q => (by omega)⟩
end SET
section CHG
variable {dist wl : DT} {T : Nat} {S : ST} {m m' M M2 : lt_m} {vs : List Int32} {w' : Nat → Nat}
theorem bkR_cg {w w' : Nat → Nat} {L : Nat} (h3 : w' 3 = w 3) (hf : ∀ k, 536 ≤ k → w' k = w k) (hm : ∀ b, L + 4 ≤ b → b < L + 8 → m'.1 b = m.1 b) (h : bkR w L T m) : bkR w' L T m' := by
  obtain ⟨tot, b1, b2, b3, b4⟩ := h
  refine ⟨tot, b1, by rw [hm _ (by omega) (by omega)]; exact b2, by rw [h3]; exact b3, fun j hj => ?_⟩
  rw [h3] at hj
  rw [hm _ (by omega) (by omega), hm _ (by omega) (by omega), hm _ (by omega) (by omega), h3, hf _ (by omega), hf _ (by omega), hf _ (by omega)]
  exact b4 j hj
/-- a movement of the class's ledger changes, and it is noted -/
theorem CS_chg (hC : CS dist wl T S M) (hT : T < 2 ^ 30) {i : Nat} (hi : i < S.w 2) (hf : ∀ k, ¬ (16 + 26 * i ≤ k ∧ k < 42 + 26 * i) → w' k = S.w k) (ho : w_of w' i = w_of S.w i ∧ w_sh w' i = w_sh S.w i ∧ (w_open w' i = true → w_open S.w i = true)) (hwm : wfM S.N w' i) (hm : ∀ b, b ≠ 0 + 13 + 3 + 5 + 3 * i → b ≠ 0 + 13 + 3 + 5 + 3 * i + 2 → M2.1 b = M.1 b) (h0 : M2.1 (0 + 13 + 3 + 5 + 3 * i) 0 = M.1 (0 + 13 + 3 + 5 + 3 * i) 0) (h11 : M2.1 (0 + 13 + 3 + 5 + 3 * i) 11 = 0 ∨ M2.1 (0 + 13 + 3 + 5 + 3 * i) 11 = 1) (hr : M2.2 = M.2) (hv : mvR S.N w' i (0 + 13 + 3 + 5 + 3 * i) M2) (a : Nat) : ∃ M3, (∀ d, lt_ev (d + 3) 111 [.inr (.inr (some (0 + 13))), .inl (nI a), .inr (.inr (some (0 + 13 + 3 + 5 + 3 * i)))] M2 = some (none, M3)) ∧ CS dist wl (T + 1) (S.setw (wnote w' a i (S.w 0))) M3 ∧ M3.2 = M.2 ∧ (∀ b, b < 13 ∨ 81 ≤ b → M3.1 b = M.1 b) ∧ (∀ b, b < 17 ∨ 21 ≤ b → M3.1 b = M2.1 b) := by
  have hC' := hC
  obtain ⟨-, -, ⟨hcl, hbk, hwl⟩, -, hnm, -, -⟩ := hC'
  have h20 := hwl.2.2.1
  have hq := sh_mv sL (i := i) (by omega)
  have hwl' : wfL S.N w' := wfL_mv hi (fun k _ q => hf k q) ho hwm hwl
  have g0 : w' 0 = S.w 0 := hf 0 (by omega)
  have g2 : w' 2 = S.w 2 := hf 2 (by omega)
  have hbk2 : bkR w' (0 + 13) T M2 := bkR_cg (hf 3 (by omega)) (fun k hk => hf k (by omega)) (fun b b1 b2 => hm b (by omega) (by omega)) hbk
  obtain ⟨M3, e3, hbk3, r3, f3⟩ := k112 sL hT hwl'.2.2.2.1 hbk2 a i (w' 0)
  have f3' : ∀ b, b < 17 ∨ 21 ≤ b → M3.1 b = M2.1 b := fun b hb => f3 b (by omega)
  have f4 : ∀ b, b < 13 ∨ 81 ≤ b → M3.1 b = M.1 b := fun b hb => by rw [f3' b (by omega), hm b (by omega) (by omega)]
  have hnum : M2.1 (0 + 13 + 3 + 5 + 3 * i) 0 = nI i := by rw [h0]; exact hcl.2.2.2.2.2.2 i (by omega)
  have hhour : M2.1 (0 + 13) 4 = nI (w' 0) := by rw [hm (0 + 13) (by omega) (by omega), g0]; exact hcl.1
  refine ⟨M3, fun d => ?_, ?_, by rw [r3, hr], f4, f3'⟩
  · refine (E111 (d + 2) (0 + 13) _ _ sL hq M2).trans ?_
    rw [hnum, hhour, e3 d, lt_cV_s]
  · have hcl3 : cl S.N w' (0 + 13) M3 := by
      refine cl_mv hi (fun k _ _ q => hf k q) (fun b b1 b2 b3 b4 b5 b6 b7 b8 => ?_) ?_ ?_ hwl hcl
      · rw [f3' b (by omega), hm b b7 b8]
      · rw [f3' _ (by omega)]; exact h0
      · exact mvR_fr (f3' _ (by omega)) (f3' _ (by omega)) (f3' _ (by omega)) hv
    have hled : LED S.N (wnote w' a i (w' 0)) 13 (T + 1) M3 := ⟨cl_note hwl' hcl3, hbk3, wfL_note hwl'⟩
    have hn3 : nmR 13 M3 := by
      intro j hj
      rw [show 13 + 3 + 5 + 3 * j = 0 + 13 + 3 + 5 + 3 * j by omega, f3' _ (by omega)]
      by_cases e : j = i
      · subst e; exact ⟨hnum, h11⟩
      · rw [hm _ (by omega) (by omega), show 0 + 13 + 3 + 5 + 3 * j = 13 + 3 + 5 + 3 * j by omega]
        exact hnm j hj
    rw [g0] at hled
    exact CS_led (Nat.le_succ T) (fun b hb hn => f4 b (by omega)) (by rw [r3, hr]; exact ⟨rfl, rfl⟩) hled hn3 hC
end CHG

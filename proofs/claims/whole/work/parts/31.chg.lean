/-! ===== one field of a movement changes ===== -/
section SET
variable {N : NT} {w : Nat → Nat} {i q v T : Nat} {m : lt_m}
theorem mvR_st (h : mvR N w i q m) : mvR N (wset w (19 + 26 * i) v) i q (lm_i m q 7 (nI v)) := by
  have e_of : w_of (wset w (19 + 26 * i) v) i = w_of w i := if_neg (by omega)
  have e_kd : w_kd (wset w (19 + 26 * i) v) i = w_kd w i := if_neg (by omega)
  have e_un : w_un (wset w (19 + 26 * i) v) i = w_un w i := if_neg (by omega)
  have e_st : w_st (wset w (19 + 26 * i) v) i = v := if_pos rfl
  have e_sh : w_sh (wset w (19 + 26 * i) v) i = w_sh w i := if_neg (by omega)
  have e_tm : w_tm (wset w (19 + 26 * i) v) i = w_tm w i := if_neg (by omega)
  have e_sp : w_sp (wset w (19 + 26 * i) v) i = w_sp w i := if_neg (by omega)
  have e_br : w_br (wset w (19 + 26 * i) v) i = w_br w i := if_neg (by omega)
  have e_db : w_db (wset w (19 + 26 * i) v) i = w_db w i := if_neg (by omega)
  have e_lg : w_lg (wset w (19 + 26 * i) v) i = w_lg w i := if_neg (by omega)
  have e_rt : ∀ k, w_rt (wset w (19 + 26 * i) v) i k = w_rt w i k := fun k => if_neg (by omega)
  have e_at : ∀ k, w_at (wset w (19 + 26 * i) v) i k = w_at w i k := fun k => if_neg (by omega)
  unfold mvR at h ⊢
  rw [e_of, e_kd, e_un, e_st, e_sh, e_tm, e_sp, e_br, e_db, e_lg]
  obtain ⟨a1, a2, a3, a4, a5, a6, a7, a8, a9, a10, a11, a12, a13⟩ := h
  exact ⟨by rw [lm_i_ns (by omega)]; exact a1, by rw [lm_i_ns (by omega)]; exact a2, by rw [lm_i_ns (by omega)]; exact a3, by rw [lm_i_ns (by omega)]; exact a4, by rw [lm_i_ns (by omega)]; exact a5, by rw [lm_i_ns (by omega)]; exact a6, lm_i_eq, by rw [lm_i_ns (by omega)]; exact a8, by rw [lm_i_ns (by omega)]; exact a9, by rw [lm_i_ns (by omega)]; exact a10, by rw [lm_i_ns (by omega)]; exact a11, fun k hk => by rw [lm_i_ne (by omega), e_rt]; exact a12 k hk, fun k hk => by rw [lm_i_ne (by omega), e_at]; exact a13 k hk⟩
theorem mvR_tm (h : mvR N w i q m) : mvR N (wset w (21 + 26 * i) v) i q (lm_i m q 6 (nI v)) := by
  have e_of : w_of (wset w (21 + 26 * i) v) i = w_of w i := if_neg (by omega)
  have e_kd : w_kd (wset w (21 + 26 * i) v) i = w_kd w i := if_neg (by omega)
  have e_un : w_un (wset w (21 + 26 * i) v) i = w_un w i := if_neg (by omega)
  have e_st : w_st (wset w (21 + 26 * i) v) i = w_st w i := if_neg (by omega)
  have e_sh : w_sh (wset w (21 + 26 * i) v) i = w_sh w i := if_neg (by omega)
  have e_tm : w_tm (wset w (21 + 26 * i) v) i = v := if_pos rfl
  have e_sp : w_sp (wset w (21 + 26 * i) v) i = w_sp w i := if_neg (by omega)
  have e_br : w_br (wset w (21 + 26 * i) v) i = w_br w i := if_neg (by omega)
  have e_db : w_db (wset w (21 + 26 * i) v) i = w_db w i := if_neg (by omega)
  have e_lg : w_lg (wset w (21 + 26 * i) v) i = w_lg w i := if_neg (by omega)
  have e_rt : ∀ k, w_rt (wset w (21 + 26 * i) v) i k = w_rt w i k := fun k => if_neg (by omega)
  have e_at : ∀ k, w_at (wset w (21 + 26 * i) v) i k = w_at w i k := fun k => if_neg (by omega)
  unfold mvR at h ⊢
  rw [e_of, e_kd, e_un, e_st, e_sh, e_tm, e_sp, e_br, e_db, e_lg]
  obtain ⟨a1, a2, a3, a4, a5, a6, a7, a8, a9, a10, a11, a12, a13⟩ := h
  exact ⟨by rw [lm_i_ns (by omega)]; exact a1, by rw [lm_i_ns (by omega)]; exact a2, by rw [lm_i_ns (by omega)]; exact a3, by rw [lm_i_ns (by omega)]; exact a4, by rw [lm_i_ns (by omega)]; exact a5, lm_i_eq, by rw [lm_i_ns (by omega)]; exact a7, by rw [lm_i_ns (by omega)]; exact a8, by rw [lm_i_ns (by omega)]; exact a9, by rw [lm_i_ns (by omega)]; exact a10, by rw [lm_i_ns (by omega)]; exact a11, fun k hk => by rw [lm_i_ne (by omega), e_rt]; exact a12 k hk, fun k hk => by rw [lm_i_ne (by omega), e_at]; exact a13 k hk⟩
theorem mvR_br (h : mvR N w i q m) : mvR N (wset w (23 + 26 * i) v) i q (lm_i m q 11 (nI v)) := by
  have e_of : w_of (wset w (23 + 26 * i) v) i = w_of w i := if_neg (by omega)
  have e_kd : w_kd (wset w (23 + 26 * i) v) i = w_kd w i := if_neg (by omega)
  have e_un : w_un (wset w (23 + 26 * i) v) i = w_un w i := if_neg (by omega)
  have e_st : w_st (wset w (23 + 26 * i) v) i = w_st w i := if_neg (by omega)
  have e_sh : w_sh (wset w (23 + 26 * i) v) i = w_sh w i := if_neg (by omega)
  have e_tm : w_tm (wset w (23 + 26 * i) v) i = w_tm w i := if_neg (by omega)
  have e_sp : w_sp (wset w (23 + 26 * i) v) i = w_sp w i := if_neg (by omega)
  have e_br : w_br (wset w (23 + 26 * i) v) i = v := if_pos rfl
  have e_db : w_db (wset w (23 + 26 * i) v) i = w_db w i := if_neg (by omega)
  have e_lg : w_lg (wset w (23 + 26 * i) v) i = w_lg w i := if_neg (by omega)
  have e_rt : ∀ k, w_rt (wset w (23 + 26 * i) v) i k = w_rt w i k := fun k => if_neg (by omega)
  have e_at : ∀ k, w_at (wset w (23 + 26 * i) v) i k = w_at w i k := fun k => if_neg (by omega)
  unfold mvR at h ⊢
  rw [e_of, e_kd, e_un, e_st, e_sh, e_tm, e_sp, e_br, e_db, e_lg]
  obtain ⟨a1, a2, a3, a4, a5, a6, a7, a8, a9, a10, a11, a12, a13⟩ := h
  exact ⟨by rw [lm_i_ns (by omega)]; exact a1, by rw [lm_i_ns (by omega)]; exact a2, by rw [lm_i_ns (by omega)]; exact a3, by rw [lm_i_ns (by omega)]; exact a4, by rw [lm_i_ns (by omega)]; exact a5, by rw [lm_i_ns (by omega)]; exact a6, by rw [lm_i_ns (by omega)]; exact a7, by rw [lm_i_ns (by omega)]; exact a8, by rw [lm_i_ns (by omega)]; exact a9, by rw [lm_i_ns (by omega)]; exact a10, lm_i_eq, fun k hk => by rw [lm_i_ne (by omega), e_rt]; exact a12 k hk, fun k hk => by rw [lm_i_ne (by omega), e_at]; exact a13 k hk⟩
theorem mvR_db (h : mvR N w i q m) : mvR N (wset w (24 + 26 * i) v) i q (lm_i m q 10 (nI v)) := by
  have e_of : w_of (wset w (24 + 26 * i) v) i = w_of w i := if_neg (by omega)
  have e_kd : w_kd (wset w (24 + 26 * i) v) i = w_kd w i := if_neg (by omega)
  have e_un : w_un (wset w (24 + 26 * i) v) i = w_un w i := if_neg (by omega)
  have e_st : w_st (wset w (24 + 26 * i) v) i = w_st w i := if_neg (by omega)
  have e_sh : w_sh (wset w (24 + 26 * i) v) i = w_sh w i := if_neg (by omega)
  have e_tm : w_tm (wset w (24 + 26 * i) v) i = w_tm w i := if_neg (by omega)
  have e_sp : w_sp (wset w (24 + 26 * i) v) i = w_sp w i := if_neg (by omega)
  have e_br : w_br (wset w (24 + 26 * i) v) i = w_br w i := if_neg (by omega)
  have e_db : w_db (wset w (24 + 26 * i) v) i = v := if_pos rfl
  have e_lg : w_lg (wset w (24 + 26 * i) v) i = w_lg w i := if_neg (by omega)
  have e_rt : ∀ k, w_rt (wset w (24 + 26 * i) v) i k = w_rt w i k := fun k => if_neg (by omega)
  have e_at : ∀ k, w_at (wset w (24 + 26 * i) v) i k = w_at w i k := fun k => if_neg (by omega)
  unfold mvR at h ⊢
  rw [e_of, e_kd, e_un, e_st, e_sh, e_tm, e_sp, e_br, e_db, e_lg]
  obtain ⟨a1, a2, a3, a4, a5, a6, a7, a8, a9, a10, a11, a12, a13⟩ := h
  exact ⟨by rw [lm_i_ns (by omega)]; exact a1, by rw [lm_i_ns (by omega)]; exact a2, by rw [lm_i_ns (by omega)]; exact a3, by rw [lm_i_ns (by omega)]; exact a4, by rw [lm_i_ns (by omega)]; exact a5, by rw [lm_i_ns (by omega)]; exact a6, by rw [lm_i_ns (by omega)]; exact a7, by rw [lm_i_ns (by omega)]; exact a8, by rw [lm_i_ns (by omega)]; exact a9, lm_i_eq, by rw [lm_i_ns (by omega)]; exact a11, fun k hk => by rw [lm_i_ne (by omega), e_rt]; exact a12 k hk, fun k hk => by rw [lm_i_ne (by omega), e_at]; exact a13 k hk⟩
theorem wfM_br (hv : v ≤ 1) (h : wfM N w i) : wfM N (wset w (23 + 26 * i) v) i := by
  have e_of : w_of (wset w (23 + 26 * i) v) i = w_of w i := if_neg (by omega)
  have e_kd : w_kd (wset w (23 + 26 * i) v) i = w_kd w i := if_neg (by omega)
  have e_un : w_un (wset w (23 + 26 * i) v) i = w_un w i := if_neg (by omega)
  have e_st : w_st (wset w (23 + 26 * i) v) i = w_st w i := if_neg (by omega)
  have e_sh : w_sh (wset w (23 + 26 * i) v) i = w_sh w i := if_neg (by omega)
  have e_tm : w_tm (wset w (23 + 26 * i) v) i = w_tm w i := if_neg (by omega)
  have e_sp : w_sp (wset w (23 + 26 * i) v) i = w_sp w i := if_neg (by omega)
  have e_br : w_br (wset w (23 + 26 * i) v) i = v := if_pos rfl
  have e_db : w_db (wset w (23 + 26 * i) v) i = w_db w i := if_neg (by omega)
  have e_lg : w_lg (wset w (23 + 26 * i) v) i = w_lg w i := if_neg (by omega)
  have e_rt : ∀ k, w_rt (wset w (23 + 26 * i) v) i k = w_rt w i k := fun k => if_neg (by omega)
  have e_at : ∀ k, w_at (wset w (23 + 26 * i) v) i k = w_at w i k := fun k => if_neg (by omega)
  have e_0 : wset w (23 + 26 * i) v 0 = w 0 := if_neg (by omega)
  have e_1 : wset w (23 + 26 * i) v 1 = w 1 := if_neg (by omega)
  have e_g : w_goes (wset w (23 + 26 * i) v) i = w_goes w i := by unfold w_goes; rw [e_st]
  unfold wfM at h ⊢
  rw [e_of, e_kd, e_un, e_st, e_sh, e_tm, e_sp, e_br, e_db, e_lg, e_0, e_1, e_g]
  obtain ⟨a0, a1, a2, a3, a4, a5, a6, a7, a8, a9, a10, a11, a12, a13, a14, a15, a16, a17, a18⟩ := h
  exact ⟨a0, a1, a2, a3, a4, a5, a6, a7, a8, a9, a10, hv, a12, fun k hk => by rw [e_rt]; exact a13 k hk, fun k hk => by rw [e_rt, e_rt]; exact a14 k hk, fun k hk => by rw [e_at]; exact a15 k hk, a16, a17, a18⟩
theorem wfM_st (hv : v = 1 ∨ v = 2 ∨ v = 4 ∨ v = 5) (hd : v ≤ 3 → w_db w i = 0) (h : wfM N w i) : wfM N (wset w (19 + 26 * i) v) i := by
  have e_of : w_of (wset w (19 + 26 * i) v) i = w_of w i := if_neg (by omega)
  have e_kd : w_kd (wset w (19 + 26 * i) v) i = w_kd w i := if_neg (by omega)
  have e_un : w_un (wset w (19 + 26 * i) v) i = w_un w i := if_neg (by omega)
  have e_st : w_st (wset w (19 + 26 * i) v) i = v := if_pos rfl
  have e_sh : w_sh (wset w (19 + 26 * i) v) i = w_sh w i := if_neg (by omega)
  have e_tm : w_tm (wset w (19 + 26 * i) v) i = w_tm w i := if_neg (by omega)
  have e_sp : w_sp (wset w (19 + 26 * i) v) i = w_sp w i := if_neg (by omega)
  have e_br : w_br (wset w (19 + 26 * i) v) i = w_br w i := if_neg (by omega)
  have e_db : w_db (wset w (19 + 26 * i) v) i = w_db w i := if_neg (by omega)
  have e_lg : w_lg (wset w (19 + 26 * i) v) i = w_lg w i := if_neg (by omega)
  have e_rt : ∀ k, w_rt (wset w (19 + 26 * i) v) i k = w_rt w i k := fun k => if_neg (by omega)
  have e_at : ∀ k, w_at (wset w (19 + 26 * i) v) i k = w_at w i k := fun k => if_neg (by omega)
  have e_0 : wset w (19 + 26 * i) v 0 = w 0 := if_neg (by omega)
  have e_1 : wset w (19 + 26 * i) v 1 = w 1 := if_neg (by omega)
  have e_g : w_goes (wset w (19 + 26 * i) v) i = false := by unfold w_goes; rw [e_st]; simp; omega
  unfold wfM at h ⊢
  rw [e_of, e_kd, e_un, e_st, e_sh, e_tm, e_sp, e_br, e_db, e_lg, e_0, e_1, e_g]
  obtain ⟨a0, a1, a2, a3, a4, a5, a6, a7, a8, a9, a10, a11, a12, a13, a14, a15, a16, a17, a18⟩ := h
  exact ⟨a0, a1, a2, a3, by omega, a5, a6, a7, a8, a9, a10, a11, ⟨a12.1, hd⟩, fun k hk => by rw [e_rt]; exact a13 k hk, fun k hk => by rw [e_rt, e_rt]; exact a14 k hk, fun k hk => by rw [e_at]; exact a15 k hk, fun q => absurd q (by decide), fun q => (by omega), fun q => (by omega)⟩
theorem wfM_sd {u : Nat} (hv : v = 1 ∨ v = 2 ∨ v = 4 ∨ v = 5) (hu : u ≤ 2000000) (hd : v ≤ 3 → u = 0) (h : wfM N w i) : wfM N (wset (wset w (24 + 26 * i) u) (19 + 26 * i) v) i := by
  have e_of : w_of (wset (wset w (24 + 26 * i) u) (19 + 26 * i) v) i = w_of w i := (if_neg (by omega)).trans (if_neg (by omega))
  have e_kd : w_kd (wset (wset w (24 + 26 * i) u) (19 + 26 * i) v) i = w_kd w i := (if_neg (by omega)).trans (if_neg (by omega))
  have e_un : w_un (wset (wset w (24 + 26 * i) u) (19 + 26 * i) v) i = w_un w i := (if_neg (by omega)).trans (if_neg (by omega))
  have e_st : w_st (wset (wset w (24 + 26 * i) u) (19 + 26 * i) v) i = v := if_pos rfl
  have e_sh : w_sh (wset (wset w (24 + 26 * i) u) (19 + 26 * i) v) i = w_sh w i := (if_neg (by omega)).trans (if_neg (by omega))
  have e_tm : w_tm (wset (wset w (24 + 26 * i) u) (19 + 26 * i) v) i = w_tm w i := (if_neg (by omega)).trans (if_neg (by omega))
  have e_sp : w_sp (wset (wset w (24 + 26 * i) u) (19 + 26 * i) v) i = w_sp w i := (if_neg (by omega)).trans (if_neg (by omega))
  have e_br : w_br (wset (wset w (24 + 26 * i) u) (19 + 26 * i) v) i = w_br w i := (if_neg (by omega)).trans (if_neg (by omega))
  have e_db : w_db (wset (wset w (24 + 26 * i) u) (19 + 26 * i) v) i = u := (if_neg (by omega)).trans (if_pos rfl)
  have e_lg : w_lg (wset (wset w (24 + 26 * i) u) (19 + 26 * i) v) i = w_lg w i := (if_neg (by omega)).trans (if_neg (by omega))
  have e_rt : ∀ k, w_rt (wset (wset w (24 + 26 * i) u) (19 + 26 * i) v) i k = w_rt w i k := fun k => (if_neg (by omega)).trans (if_neg (by omega))
  have e_at : ∀ k, w_at (wset (wset w (24 + 26 * i) u) (19 + 26 * i) v) i k = w_at w i k := fun k => (if_neg (by omega)).trans (if_neg (by omega))
  have e_0 : (wset (wset w (24 + 26 * i) u) (19 + 26 * i) v) 0 = w 0 := (if_neg (by omega)).trans (if_neg (by omega))
  have e_1 : (wset (wset w (24 + 26 * i) u) (19 + 26 * i) v) 1 = w 1 := (if_neg (by omega)).trans (if_neg (by omega))
  have e_g : w_goes (wset (wset w (24 + 26 * i) u) (19 + 26 * i) v) i = false := by unfold w_goes; rw [e_st]; simp; omega
  unfold wfM at h ⊢
  rw [e_of, e_kd, e_un, e_st, e_sh, e_tm, e_sp, e_br, e_db, e_lg, e_0, e_1, e_g]
  obtain ⟨a0, a1, a2, a3, a4, a5, a6, a7, a8, a9, a10, a11, a12, a13, a14, a15, a16, a17, a18⟩ := h
  exact ⟨a0, a1, a2, a3, by omega, a5, a6, a7, a8, a9, a10, a11, ⟨hu, hd⟩, fun k hk => by rw [e_rt]; exact a13 k hk, fun k hk => by rw [e_rt, e_rt]; exact a14 k hk, fun k hk => by rw [e_at]; exact a15 k hk, fun q => absurd q (by decide), fun q => (by omega), fun q => (by omega)⟩
end SET
section CHG
variable {dist wl : DT} {T : Nat} {S : ST} {m m' M M2 : lt_m} {vs : List Int32} {w' : Nat → Nat}
theorem bkR_cg {w w' : Nat → Nat} {L : Nat} (h3 : w' 3 = w 3) (hf : ∀ k, 536 ≤ k → w' k = w k) (hm : ∀ b, L + 4 ≤ b → b < L + 8 → m'.1 b = m.1 b) (h : bkR w L T m) : bkR w' L T m' := by
  obtain ⟨tot, b1, b2, b3, b4⟩ := h
  refine ⟨tot, b1, by rw [hm _ (by omega) (by omega)]; exact b2, by rw [h3]; exact b3, fun j hj => ?_⟩
  rw [h3] at hj
  rw [hm _ (by omega) (by omega), hm _ (by omega) (by omega), hm _ (by omega) (by omega), h3, hf _ (by omega), hf _ (by omega), hf _ (by omega)]
  exact b4 j hj
/-- a movement of the class's ledger changes, and it is noted -/
theorem CS_chg (hC : CS dist wl T S M) (hT : T < 2 ^ 30) {i : Nat} (hi : i < S.w 2) (hf : ∀ k, ¬ (16 + 26 * i ≤ k ∧ k < 42 + 26 * i) → w' k = S.w k) (ho : w_of w' i = w_of S.w i ∧ w_sh w' i = w_sh S.w i ∧ (w_open w' i = true → w_open S.w i = true)) (hwm : wfM S.N w' i) (hm : ∀ b, b ≠ 0 + 13 + 3 + 5 + 3 * i → b ≠ 0 + 13 + 3 + 5 + 3 * i + 2 → M2.1 b = M.1 b) (h0 : M2.1 (0 + 13 + 3 + 5 + 3 * i) 0 = M.1 (0 + 13 + 3 + 5 + 3 * i) 0) (h11 : M2.1 (0 + 13 + 3 + 5 + 3 * i) 11 = 0 ∨ M2.1 (0 + 13 + 3 + 5 + 3 * i) 11 = 1) (hr : M2.2 = M.2) (hv : mvR S.N w' i (0 + 13 + 3 + 5 + 3 * i) M2) (a : Nat) : ∃ M3, (∀ d, lt_ev (d + 3) 111 [.inr (.inr (some (0 + 13))), .inl (nI a), .inr (.inr (some (0 + 13 + 3 + 5 + 3 * i)))] M2 = some (none, M3)) ∧ CS dist wl (T + 1) (S.setw (wnote w' a i (S.w 0))) M3 ∧ M3.2 = M.2 ∧ (∀ b, b < 13 ∨ 81 ≤ b → M3.1 b = M.1 b) ∧ (∀ b, b < 17 ∨ 21 ≤ b → M3.1 b = M2.1 b) := by
  have hC' := hC
  obtain ⟨-, -, ⟨hcl, hbk, hwl⟩, -, hnm, -, -⟩ := hC'
  have h20 := hwl.2.2.1
  have hq := sh_mv sL (i := i) (by omega)
  have hwl' : wfL S.N w' := wfL_mv hi (fun k _ q => hf k q) ho hwm hwl
  have g0 : w' 0 = S.w 0 := hf 0 (by omega)
  have g2 : w' 2 = S.w 2 := hf 2 (by omega)
  have hbk2 : bkR w' (0 + 13) T M2 := bkR_cg (hf 3 (by omega)) (fun k hk => hf k (by omega)) (fun b b1 b2 => hm b (by omega) (by omega)) hbk
  obtain ⟨M3, e3, hbk3, r3, f3⟩ := k112 sL hT hwl'.2.2.2.1 hbk2 a i (w' 0)
  have f3' : ∀ b, b < 17 ∨ 21 ≤ b → M3.1 b = M2.1 b := fun b hb => f3 b (by omega)
  have f4 : ∀ b, b < 13 ∨ 81 ≤ b → M3.1 b = M.1 b := fun b hb => by rw [f3' b (by omega), hm b (by omega) (by omega)]
  have hnum : M2.1 (0 + 13 + 3 + 5 + 3 * i) 0 = nI i := by rw [h0]; exact hcl.2.2.2.2.2.2 i (by omega)
  have hhour : M2.1 (0 + 13) 4 = nI (w' 0) := by rw [hm (0 + 13) (by omega) (by omega), g0]; exact hcl.1
  refine ⟨M3, fun d => ?_, ?_, by rw [r3, hr], f4, f3'⟩
  · refine (E111 (d + 2) (0 + 13) _ _ sL hq M2).trans ?_
    rw [hnum, hhour, e3 d, lt_cV_s]
  · have hcl3 : cl S.N w' (0 + 13) M3 := by
      refine cl_mv hi (fun k _ _ q => hf k q) (fun b b1 b2 b3 b4 b5 b6 b7 b8 => ?_) ?_ ?_ hwl hcl
      · rw [f3' b (by omega), hm b b7 b8]
      · rw [f3' _ (by omega)]; exact h0
      · exact mvR_fr (f3' _ (by omega)) (f3' _ (by omega)) (f3' _ (by omega)) hv
    have hled : LED S.N (wnote w' a i (w' 0)) 13 (T + 1) M3 := ⟨cl_note hwl' hcl3, hbk3, wfL_note hwl'⟩
    have hn3 : nmR 13 M3 := by
      intro j hj
      rw [show 13 + 3 + 5 + 3 * j = 0 + 13 + 3 + 5 + 3 * j by omega, f3' _ (by omega)]
      by_cases e : j = i
      · subst e; exact ⟨hnum, h11⟩
      · rw [hm _ (by omega) (by omega), show 0 + 13 + 3 + 5 + 3 * j = 13 + 3 + 5 + 3 * j by omega]
        exact hnm j hj
    rw [g0] at hled
    exact CS_led (Nat.le_succ T) (fun b hb hn => f4 b (by omega)) (by rw [r3, hr]; exact ⟨rfl, rfl⟩) hled hn3 hC
theorem RS_of (hC : CS dist wl T S m) (hM : MS S m) : RS dist wl S.N S.w T m := RS_join hC hM
/-- breaks -/
theorem op_breaks (d : Nat) (hT : T < 2 ^ 30) (hr : RR dist wl T m) (x : Int32) : OP dist wl d T (T + 1) 117 232 [.inl x] m := by
  obtain ⟨N, w, vs, hs, hl, hc, hm⟩ := hr
  obtain ⟨S, rfl, rfl, hC, hM⟩ := RS_split hs
  have hw := hs.wfL
  have h20 := hw.2.2.1
  have hcl := hs.cl
  have hbad : ∀ v : ts_V, lt_ev (d + 30) 117 [.inr (.inr (some 0)), .inl x] m = some (some v, m) → lt_ev (d + 30) 232 [.inr (.inr (some 711)), .inl x] m = some (some v, lm_i m 711 15 0) → OP dist wl d T (T + 1) 117 232 [.inl x] m := fun v h1 h2 => by
    refine ⟨v, m, _, h1, h2, S.N, S.w, vs, ?_, hl, rwC_t0 hc, rwM_t0 hm⟩
    refine RS_join (CS_fr (m := m) (fun b k hb _ => by rw [lm_i_ne (by omega)]) ⟨rfl, rfl⟩ (CS_led (m := m) (m' := m) (w' := S.w) (Nat.le_succ T) (fun b _ _ => rfl) ⟨rfl, rfl⟩ (LED_mono (Nat.le_succ T) hC.2.2.1) hC.2.2.2.2.1 hC)) (MS_t0 hM)
  rcases c114 hcl hw x with ⟨i, hi, rfl, e⟩ | ⟨hx, e⟩
  · have hq := sh_mv sL (i := i) (by omega)
    have b12 : w_br S.w i ≤ 1 := (hw.2.2.2.2.2 i hi).2.2.2.2.2.2.2.2.2.2.2.1
    have e11 : m.1 (0 + 13 + 3 + 5 + 3 * i) 11 = nI (w_br S.w i) := (hcl.2.2.2.2.1 i hi).2.2.2.2.2.2.2.2.2.2.1
    have hcls : lt_ev (d + 30) 117 [.inr (.inr (some 0)), .inl (nI i)] m = _ := E117 (d + 29) 0 _ sx m
    rw [p114 (d + 27) _ _ sL m, lt_cR_s, e, lt_nl_s, lt_gd_t hq, p62 (d + 28) _ hq m, lt_cI_s, c62 hcl hw (by omega), e11] at hcls
    have hmod : ∀ M : lt_m, ml S.N S.w 711 (lm_i M 711 15 0) → lt_ev (d + 30) 232 [.inr (.inr (some 711)), .inl (nI i)] M = _ := fun M h => by
      refine (E232 (d + 29) 711 _ sy M).trans ?_
      rw [m231 (d + 27) sy h hw, lt_cI_s, sp_i1 hi (by omega), if_pos (by decide), m196 (d + 26) sy h hw hi, lt_cI_s]
    by_cases c1 : w_goes S.w i = true
    · rw [show (if i < S.w 2 ∧ w_goes S.w i = true then (1 : Int32) else 0) = 1 from if_pos ⟨hi, c1⟩, if_pos (by decide)] at hcls
      by_cases c2 : w_br S.w i = 0
      · rw [c2, if_pos (by decide)] at hcls
        obtain ⟨M1, e1, C1, r1, f1⟩ := k81 hC
        have hmv : mvR S.N S.w i (0 + 13 + 3 + 5 + 3 * i) M1 := C1.2.2.1.1.2.2.2.2.1 i hi
        obtain ⟨M3, e3, C3, r3, f3, f3'⟩ := CS_chg (S := S.rem) (w' := wset S.w (23 + 26 * i) 1) (M2 := lm_i M1 (0 + 13 + 3 + 5 + 3 * i) 11 1) C1 hT hi (fun k hk => wset_ne (by omega)) ⟨wset_ne (by omega), wset_ne (by omega), fun q => by
            unfold w_open at q ⊢
            rw [show w_st (wset S.w (23 + 26 * i) 1) i = w_st S.w i from wset_ne (by omega)] at q
            exact q⟩ (wfM_br (by decide) (hw.2.2.2.2.2 i hi)) (fun b b1 b2 => lm_i_ne b1) (lm_i_ns (by omega)) (Or.inr lm_i_eq) rfl (mvR_br hmv) 2
        have hMs : MS S (lm_i M3 711 15 0) := MS_t0 (MS_fr (m := m) (fun b k hb _ => by rw [f3 b (by omega), f1 b (by omega)]) hM)
        have hRS : RS dist wl S.N S.w T (lm_i m 711 15 0) := RS.t0 hs
        have hml : ml S.N S.w 711 (lm_i M3 711 15 0) := ⟨hMs.2.2.1, hMs.1.2.1, hMs.1.2.2.1, hMs.1.2.2.2.1, hMs.1.2.2.2.2.1, hMs.1.2.2.2.2.2.1⟩
        obtain ⟨M4, e4, C4, r4, f4⟩ := m211 hMs hC.2.2.2.1.1
        obtain ⟨M5, e5, w5, r5, f5⟩ := m229 (m := lm_i M4 712 (16 + 26 * i + 7) 1) (w := wset S.w (23 + 26 * i) 1) (by
          have := row_set (k := 16 + 26 * i + 7) (v := 1) C4.2.2.1
          rw [show 16 + 26 * i + 7 = 23 + 26 * i by omega] at this ⊢
          exact this) (by rw [wset_ne (by omega)]; exact hw.2.2.2.1) 2 i (S.w 0)
        have C5 : MS (S.rem.setw (wnote (wset S.w (23 + 26 * i) 1) 2 i (S.w 0))) M5 := MS_up (fun b k hb hne _ => by rw [f5 b hne, lm_i_ne hne]) w5 C4
        have f45 : ∀ b, b ≠ 711 → b ≠ 712 → b ≠ 714 → M5.1 b = M3.1 b := fun b h1 h2 h3 => by
          rw [f5 b h2, lm_i_ne h2]; exact funext fun k => by rw [f4 b k (by omega), lm_i_ne h1]
        have hw5 : wfL S.N (wnote (wset S.w (23 + 26 * i) 1) 2 i (S.w 0)) := C3.2.2.1.2.2
        have hcl5 : cl S.N (wnote (wset S.w (23 + 26 * i) 1) 2 i (S.w 0)) (0 + 13) M3 := C3.2.2.1.1
        have hml5 : ml S.N (wnote (wset S.w (23 + 26 * i) 1) 2 i (S.w 0)) 711 M5 := ⟨C5.2.2.1, C5.1.2.1, C5.1.2.2.1, C5.1.2.2.2.1, C5.1.2.2.2.2.1, C5.1.2.2.2.2.2.1⟩
        refine OP_w (m1 := M3) (m2 := M5) (vs := vs) (.inl (nI (w_broken (wnote (wset S.w (23 + 26 * i) 1) 2 i (S.w 0))))) (hcls.trans ?_) C3 ⟨by rw [f3 4 (by omega), f1 4 (by omega)], by rw [f3 5 (by omega), f1 5 (by omega)], by rw [f3 711 (by omega), f1 711 (by omega)], by rw [r3, r1]⟩ ((hmod M3 hml).trans ?_) C5 (fun b hb => f45 b (by omega) (by omega) (by omega)) (by rw [f5 711 (by decide), lm_i_ne (by decide), f4 711 14 (by omega), lm_i_ns (by omega)]) (by rw [r5]; exact r4) hl hc hm
        · have e81 : lt_ev (d + 29) 81 [.inr (.inr (some (0 + 81))), .inr (.inr (some (0 + 13)))] m = some (none, M1) := e1 (d + 25)
          rw [e81, lt_cV_s, q_2, e3 (d + 26), lt_cV_s, k118 (d + 28) sL hcl5 hw5, lt_cI_s]
        · have h00 : (lm_i M4 712 (16 + 26 * i + 7) 1).1 (711 + 1) (0 : Int32).toNatClampNeg = nI (S.w 0) := by
            rw [show (0 : Int32).toNatClampNeg = 0 by decide, lm_i_ns (by omega)]; exact C4.2.2.1 0 (by omega)
          have e7 := m198_br (d + 28) sy hml (i := i) (by omega)
          rw [show (if w_goes S.w i = true then (1 : Int32) else 0) = 1 from if_pos c1, if_pos (by decide), e7, lt_cI_s, c2, if_pos (by decide), e4 (d + 28), lt_cV_s, show (7 : Int32) = nI 7 from rfl, m228 (d + 28) (by omega) (by omega), lt_cV_s, lt_gd_t (by decide), h00, q_2, e5 (d + 28), lt_cV_s, m233 (d + 27) sy hml5 hw5, lt_cI_s]
      · have c3 : w_br S.w i = 1 := by omega
        refine hbad (.inl (-3)) (hcls.trans ?_) ((hmod m hs.t0.ml).trans ?_)
        · rw [c3, if_neg (by decide)]
        · rw [show (if w_goes S.w i = true then (1 : Int32) else 0) = 1 from if_pos c1, if_pos (by decide), m198_br (d + 28) sy hs.t0.ml (by omega), lt_cI_s, c3, if_neg (by decide)]
    · refine hbad (.inl (-2)) (hcls.trans ?_) ((hmod m hs.t0.ml).trans ?_)
      · rw [show (if i < S.w 2 ∧ w_goes S.w i = true then (1 : Int32) else 0) = 0 from if_neg (fun q => c1 q.2), if_neg (by decide)]
      · rw [show (if w_goes S.w i = true then (1 : Int32) else 0) = 0 from if_neg c1, if_neg (by decide)]
  · refine hbad (.inl (-1)) ?_ ?_
    · refine (E117 (d + 29) 0 _ sx m).trans ?_
      rw [p114 (d + 27) _ _ sL m, lt_cR_s, e, lt_nl_n]
    · refine (E232 (d + 29) 711 _ sy m).trans ?_
      rw [m231 (d + 27) sy hs.t0.ml hw, lt_cI_s, sp_i0 (by omega) hx, if_neg (by decide)]
end CHG

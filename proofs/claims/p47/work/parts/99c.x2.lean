/-! ===== the law's own small methods: cell, say ===== -/
theorem dL_cell_0 : decode cL_cell 0 = .ok (.iload_n 1, 1) := by decide +kernel
theorem dL_cell_1 : decode cL_cell 1 = .ok (.aload_n 0, 1) := by decide +kernel
theorem dL_cell_2 : decode cL_cell 2 = .ok (.arraylength, 1) := by decide +kernel
theorem dL_cell_3 : decode cL_cell 3 = .ok (.if_icmp .ge 9, 3) := by decide +kernel
theorem dL_cell_6 : decode cL_cell 6 = .ok (.aload_n 0, 1) := by decide +kernel
theorem dL_cell_7 : decode cL_cell 7 = .ok (.iload_n 1, 1) := by decide +kernel
theorem dL_cell_8 : decode cL_cell 8 = .ok (.iaload, 1) := by decide +kernel
theorem dL_cell_9 : decode cL_cell 9 = .ok (.goto 4, 3) := by decide +kernel
theorem dL_cell_12 : decode cL_cell 12 = .ok (.iconst 0, 1) := by decide +kernel
theorem dL_cell_13 : decode cL_cell 13 = .ok (.ireturn, 1) := by decide +kernel
theorem dL_say_0 : decode cL_say 0 = .ok (.iconst 0, 1) := by decide +kernel
theorem dL_say_1 : decode cL_say 1 = .ok (.istore_n 2, 1) := by decide +kernel
theorem dL_say_2 : decode cL_say 2 = .ok (.iload_n 2, 1) := by decide +kernel
theorem dL_say_3 : decode cL_say 3 = .ok (.aload_n 1, 1) := by decide +kernel
theorem dL_say_4 : decode cL_say 4 = .ok (.invokevirtual 7, 3) := by decide +kernel
theorem dL_say_7 : decode cL_say 7 = .ok (.if_icmp .ge 61, 3) := by decide +kernel
theorem dL_say_10 : decode cL_say 10 = .ok (.iconst 0, 1) := by decide +kernel
theorem dL_say_11 : decode cL_say 11 = .ok (.istore_n 3, 1) := by decide +kernel
theorem dL_say_12 : decode cL_say 12 = .ok (.iconst 0, 1) := by decide +kernel
theorem dL_say_13 : decode cL_say 13 = .ok (.istore 4, 2) := by decide +kernel
theorem dL_say_15 : decode cL_say 15 = .ok (.iload 4, 2) := by decide +kernel
theorem dL_say_17 : decode cL_say 17 = .ok (.iconst 4, 1) := by decide +kernel
theorem dL_say_18 : decode cL_say 18 = .ok (.if_icmp .ge 38, 3) := by decide +kernel
theorem dL_say_21 : decode cL_say 21 = .ok (.iload_n 3, 1) := by decide +kernel
theorem dL_say_22 : decode cL_say 22 = .ok (.bipush 8, 2) := by decide +kernel
theorem dL_say_24 : decode cL_say 24 = .ok (.ishl, 1) := by decide +kernel
theorem dL_say_25 : decode cL_say 25 = .ok (.iload_n 2, 1) := by decide +kernel
theorem dL_say_26 : decode cL_say 26 = .ok (.iload 4, 2) := by decide +kernel
theorem dL_say_28 : decode cL_say 28 = .ok (.iadd, 1) := by decide +kernel
theorem dL_say_29 : decode cL_say 29 = .ok (.aload_n 1, 1) := by decide +kernel
theorem dL_say_30 : decode cL_say 30 = .ok (.invokevirtual 7, 3) := by decide +kernel
theorem dL_say_33 : decode cL_say 33 = .ok (.if_icmp .ge 14, 3) := by decide +kernel
theorem dL_say_36 : decode cL_say 36 = .ok (.aload_n 1, 1) := by decide +kernel
theorem dL_say_37 : decode cL_say 37 = .ok (.iload_n 2, 1) := by decide +kernel
theorem dL_say_38 : decode cL_say 38 = .ok (.iload 4, 2) := by decide +kernel
theorem dL_say_40 : decode cL_say 40 = .ok (.iadd, 1) := by decide +kernel
theorem dL_say_41 : decode cL_say 41 = .ok (.invokevirtual 13, 3) := by decide +kernel
theorem dL_say_44 : decode cL_say 44 = .ok (.goto 4, 3) := by decide +kernel
theorem dL_say_47 : decode cL_say 47 = .ok (.iconst 0, 1) := by decide +kernel
theorem dL_say_48 : decode cL_say 48 = .ok (.ior, 1) := by decide +kernel
theorem dL_say_49 : decode cL_say 49 = .ok (.istore_n 3, 1) := by decide +kernel
theorem dL_say_50 : decode cL_say 50 = .ok (.iinc 4 1, 3) := by decide +kernel
theorem dL_say_53 : decode cL_say 53 = .ok (.goto (-38), 3) := by decide +kernel
theorem dL_say_56 : decode cL_say 56 = .ok (.aload_n 0, 1) := by decide +kernel
theorem dL_say_57 : decode cL_say 57 = .ok (.iload_n 3, 1) := by decide +kernel
theorem dL_say_58 : decode cL_say 58 = .ok (.invokevirtual 17, 3) := by decide +kernel
theorem dL_say_61 : decode cL_say 61 = .ok (.pop, 1) := by decide +kernel
theorem dL_say_62 : decode cL_say 62 = .ok (.iinc 2 4, 3) := by decide +kernel
theorem dL_say_65 : decode cL_say 65 = .ok (.goto (-63), 3) := by decide +kernel
theorem dL_say_68 : decode cL_say 68 = .ok (.aload_n 0, 1) := by decide +kernel
theorem dL_say_69 : decode cL_say 69 = .ok (.aload_n 1, 1) := by decide +kernel
theorem dL_say_70 : decode cL_say 70 = .ok (.invokevirtual 7, 3) := by decide +kernel
theorem dL_say_73 : decode cL_say 73 = .ok (.invokevirtual 23, 3) := by decide +kernel
theorem dL_say_76 : decode cL_say 76 = .ok (.pop, 1) := by decide +kernel
theorem dL_say_77 : decode cL_say 77 = .ok (.return_, 1) := by decide +kernel
abbrev Ysay : ts_Y := (yL_say, cL_say, 5, none, 14)
abbrev Ycell : ts_Y := (yL_cell, cL_cell, 2, some .int, 14)
theorem c_cell (l : Launch) {b k L : Nat} {xs : Nat → Int32} (hL : L ≤ 260) (hk : k ≤ 100) : Met l yL_cell (jws Ycell) ({ frames := 0, cells := 0, slots := 0, locals := 0 } : Room) (va_Pc [.ref b, .int (nI k)] (fun U => va_X b L xs U U.heap ∧ b < U.heap.size)) (fun _ st o t => o = .returned (some (.int (if k < L then xs k else 0))) ∧ va_F (fun _ => False) st t) 0 0 (fun _ => False) := by
  refine Met.ofW (cc := cL_cell) (maxL := 2) (ret := some .int) (by decide) rfl ?_
  intro p e s m args below meth c s₁ Bd hml hv
  obtain ⟨rfl, hX, hbl⟩ := hv
  have hx := Bd.exec
  have hb := Bd.bytes
  have hret := Bd.returns
  have hlk := Bd.notSynchronized
  have hS : va_S (fun _ => False) s.heap s.heap [] := va_S.rf
  have hl := lv_entry ([.ref b, .int (nI k)]) (n := 2) (Nat.le_of_ble_eq_true rfl)
  rw [lg_entry_eq]
  generalize (lg_sl ([.ref b, .int (nI k)]) ++ List.replicate (2 - (lg_sl ([.ref b, .int (nI k)])).length) Slot.unset).toArray = sl at hl ⊢
  have hl : lv_has sl 2 [(0, .ref b), (1, .int (nI k))] := hl
  refine lv_iload_n hx hb dL_cell_0 rfl (lv_at hl 1 rfl) ?_
  refine lv_aload_n hx hb dL_cell_1 rfl (lv_at hl 0 rfl) ?_
  refine va_slen hx hb hX hbl (fun q => q) hS dL_cell_2 ?_
  by_cases h : k < L
  · refine lv_icmp_ge (tgt := 12) hx hb dL_cell_3 (by decide) (fun q9 => absurd q9 (nI_ge h (by omega))) (fun _ => ?_)
    refine lv_aload_n hx hb dL_cell_6 rfl (lv_at hl 0 rfl) ?_
    refine lv_iload_n hx hb dL_cell_7 rfl (lv_at hl 1 rfl) ?_
    refine va_sld hx hb hX hbl (fun q => q) hS (vp_in_nI h (by omega)) dL_cell_8 ?_
    refine j_top (show xs (nI k).toNatClampNeg = xs k from by rw [nI_clamp (by omega)]) ?_
    refine lv_goto (tgt := 13) hx hb dL_cell_9 (by decide) ?_
    exact W.iret hx hb hret (fun t ht hW => ⟨by rw [if_pos h], hS.F ht⟩) hS.2.2 dL_cell_13
  · refine lv_icmp_ge (tgt := 12) hx hb dL_cell_3 (by decide) (fun _ => ?_) (fun q9 => absurd (nI_le (by omega) (by omega)) q9)
    refine lv_iconst (v := 0) hx hb dL_cell_12 (by decide) ?_
    exact W.iret hx hb hret (fun t ht hW => ⟨by rw [if_neg h], hS.F ht⟩) hS.2.2 dL_cell_13
theorem va_P_kept {D : va_G} {cl : List vw_C} {ws : va_W} {H H1 : Heap} (h : va_P D cl ws H) (hk : ∀ (k : Nat) (q : Nat × va_E), ws[k]? = some q → H1[q.1]? = H[q.1]?) : va_P D cl ws H1 := by
  intro k q hq
  have h1 := h k q hq
  have h2 := hk k q hq
  unfold va_at at h1 ⊢
  split at h1
  · next a ha => rw [h2]; exact h1
  · next o ho =>
    obtain ⟨r, r1, r2⟩ := h1
    exact ⟨r, r1, r2.kept h2⟩
theorem ts_Wd_kept {D : va_G} {B : Nat} {cA : Nat → ClassId} {M : ts_M} {H H1 : Heap} (h : ts_Wd D B cA M H) (hk : ∀ q, q < H.size → q < B + ts_NN → H1[q]? = H[q]?) : ts_Wd D B cA M H1 := by
  refine ⟨va_P_kept h.1 fun k q hq => hk _ (h.1 k q hq).lt ?_, h.2⟩
  have hl : k < M.2.2.2 := by have := (List.getElem?_eq_some_iff.mp hq).1; rwa [ts_w_len] at this
  rw [ts_w_at hl] at hq
  cases hq
  have := h.2
  show B + k < B + ts_NN
  omega
/-! four letters in a number -/
theorem sgB_n {V : Nat} (h : V < 2 ^ 31) : sgB (nI V) 0 = V / 2 ^ 24 % 256 ∧ sgB (nI V) 1 = V / 2 ^ 16 % 256 ∧ sgB (nI V) 2 = V / 2 ^ 8 % 256 ∧ sgB (nI V) 3 = V % 256 := by
  have key : ∀ (k s : Nat), cn24 k &&& 31 = nI s → ((nI s).toBitVec.smod 32).toNat = s → sgB (nI V) k = V / 2 ^ s % 256 := by
    intro k s e1 e2
    have hv : V / 2 ^ s ≤ V := Nat.div_le_self _ _
    unfold sgB
    rw [e1, pk_shrN h _ s e2, pk_andN (by omega) 8 (by decide), nI_clamp (by omega)]
  refine ⟨key 0 24 (by decide) (by decide), key 1 16 (by decide) (by decide), key 2 8 (by decide) (by decide), ?_⟩
  rw [key 3 0 (by decide) (by decide), Nat.pow_zero, Nat.div_one]
theorem say_or {v c : Nat} (hv : v < 2 ^ 23) (hc : c < 256) : (nI v <<< (nI 8 &&& 31)) ||| nI c = nI (v * 256 + c) := by
  rw [pk_shlN (nI 8 &&& 31) 8 (by decide) (by omega), sp_orN]
  have := Nat.shiftLeft_add_eq_or_of_lt (show c < 2 ^ 8 from hc) v
  rw [Nat.shiftLeft_eq] at this
  exact congrArg nI this.symm

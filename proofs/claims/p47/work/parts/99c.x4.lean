/-! ===== say: the walk ===== -/
section SAY2
variable {p : Program} {l : Launch} {e : Env} {R : Room} {s : State} {m : MethodId} {args : Array Value} {below : List Frame} {meth : Method} {c : Code} {H : Heap} {locs : List Loc} {Q : State → Prop} {D D' : va_G} {B : Nat} {cA : Nat → ClassId} {cb : ClassId} {h : Nat} {t : List Nat} {sl : Array Slot} {rest : List Value} {pc : Nat} {u : lt_m}
theorem chr_lt (hc : ∀ j, t.getD j 0 < 128) (j : Nat) : chr t j < 128 := by
  unfold chr
  split
  · exact hc j
  · omega
theorem pv_b (hc : ∀ j, t.getD j 0 < 128) {a k : Nat} (hk : k ≤ 3) : pvN t a k < 2 ^ 23 := by
  have h0 := chr_lt hc (a + 0)
  have h1 := chr_lt hc (a + 1)
  have h2 := chr_lt hc (a + 2)
  have ck : k = 0 ∨ k = 1 ∨ k = 2 ∨ k = 3 := by omega
  rcases ck with rfl | rfl | rfl | rfl <;> simp only [pvN] <;> omega
theorem pv_4 (hc : ∀ j, t.getD j 0 < 128) {a : Nat} : pvN t a 4 < 2 ^ 31 ∧ ∀ i, i < 4 → sgB (nI (pvN t a 4)) i = chr t (a + i) := by
  have h0 := chr_lt hc (a + 0)
  have h1 := chr_lt hc (a + 1)
  have h2 := chr_lt hc (a + 2)
  have h3 := chr_lt hc (a + 3)
  have e : pvN t a 4 = (((0 * 256 + chr t (a + 0)) * 256 + chr t (a + 1)) * 256 + chr t (a + 2)) * 256 + chr t (a + 3) := rfl
  have hb : pvN t a 4 < 2 ^ 31 := by rw [e]; omega
  obtain ⟨q0, q1, q2, q3⟩ := sgB_n hb
  refine ⟨hb, fun i hi => ?_⟩
  have ci : i = 0 ∨ i = 1 ∨ i = 2 ∨ i = 3 := by omega
  rcases ci with rfl | rfl | rfl | rfl
  · rw [q0, e]; omega
  · rw [q1, e]; omega
  · rw [q2, e]; omega
  · rw [q3, e]; omega
theorem say_step (C : sayC p R s m args meth c D D' B cA cb h t) (hW : ts_Wd D B cA (ts_fl u) H) (hS : va_S (sayA B s.heap.size) s.heap H locs) {k a : Nat} (hk : k < 4) (ha : a ≤ 64) (hl : lv_has sl 5 [(4, .int (nI k)), (3, .int (nI (pvN t a k))), (2, .int (nI a)), (0, .ref B), (1, .ref h)]) (kk : ∀ (H1 : Heap) (locs1 : List Loc) (sl1 : Array Slot), ts_Wd D B cA (ts_fl u) H1 → va_S (sayA B s.heap.size) s.heap H1 locs1 → lv_has sl1 5 [(4, .int (nI (k + 1))), (3, .int (nI (pvN t a (k + 1)))), (2, .int (nI a)), (0, .ref B), (1, .ref h)] → W p l e R s m args below meth c H1 locs1 0 0 Q (F0 m 15 sl1 [])) : W p l e R s m args below meth c H locs 0 0 Q (F0 m 15 sl []) := by
  obtain ⟨⟨⟨hx, hb, -, -, -⟩, -, -, -, -⟩, -, -, -, hlen, hc⟩ := id C
  refine lv_iload hx hb dL_say_15 (lv_at hl 0 rfl) ?_
  refine lv_iconst (v := nI 4) hx hb dL_say_17 (by decide) ?_
  refine lv_icmp_ge (tgt := 56) hx hb dL_say_18 (by decide) (fun q9 => absurd q9 (by rw [sp_len (by omega) (by omega)]; omega)) (fun _ => ?_)
  refine lv_iload_n hx hb dL_say_21 rfl (lv_at hl 1 rfl) ?_
  refine lv_bipush (v := nI 8) hx hb dL_say_22 (by decide) ?_
  refine lv_ishl hx hb dL_say_24 ?_
  refine lv_iload_n hx hb dL_say_25 rfl (lv_at hl 2 rfl) ?_
  refine lv_iload hx hb dL_say_26 (lv_at hl 0 rfl) ?_
  refine lv_iadd hx hb dL_say_28 ?_
  refine j_top (show ((nI a) + (nI k)) = nI (a + k) from nI_add _ _) ?_
  refine lv_aload_n hx hb dL_say_29 rfl (lv_at hl 4 rfl) ?_
  refine say_len C hW hS hl.1 (Nat.le_of_ble_eq_true rfl) dL_say_30 (fun H locs hW hS => ?_)
  by_cases hi : a + k < t.length
  · skip
    refine lv_icmp_ge (tgt := 47) hx hb dL_say_33 (by decide) (fun q9 => absurd q9 (by rw [sp_len (by omega) (by omega)]; omega)) (fun _ => ?_)
    refine lv_aload_n hx hb dL_say_36 rfl (lv_at hl 4 rfl) ?_
    refine lv_iload_n hx hb dL_say_37 rfl (lv_at hl 2 rfl) ?_
    refine lv_iload hx hb dL_say_38 (lv_at hl 0 rfl) ?_
    refine lv_iadd hx hb dL_say_40 ?_
    refine j_top (show ((nI a) + (nI k)) = nI (a + k) from nI_add _ _) ?_
    refine say_chr C hW hS hl.1 (Nat.le_of_ble_eq_true rfl) hi dL_say_41 (fun H locs hW hS => ?_)
    refine lv_goto (tgt := 48) hx hb dL_say_44 (by decide) ?_
    refine lv_ior hx hb dL_say_48 ?_
    refine j_top (show (((nI (pvN t a k)) <<< ((nI 8) &&& 31)) ||| (nI (t.getD (a + k) 0))) = nI (pvN t a (k + 1)) from (say_or (pv_b hc (by omega)) (by have := hc (a + k); omega)).trans (congrArg nI (show _ = pvN t a k * 256 + chr t (a + k) by unfold chr; rw [if_pos hi]))) ?_
    refine lv_istore_n (lv' := [(3, .int (nI (pvN t a (k + 1)))), (4, .int (nI k)), (2, .int (nI a)), (0, .ref B), (1, .ref h)]) hx hb dL_say_49 rfl hl (by decide) rfl (fun sl hl => ?_)
    refine lv_iinc (k := 1) (lv' := [(4, .int (nI (k + 1))), (3, .int (nI (pvN t a (k + 1)))), (2, .int (nI a)), (0, .ref B), (1, .ref h)]) hx hb dL_say_50 hl rfl (nI_succ k).symm (by decide) rfl (fun sl hl => ?_)
    refine lv_goto (tgt := 15) hx hb dL_say_53 (by decide) ?_
    exact kk _ _ _ hW hS hl
  · skip
    refine lv_icmp_ge (tgt := 47) hx hb dL_say_33 (by decide) (fun _ => ?_) (fun q9 => absurd (by rw [sp_len (by omega) (by omega)]; omega) q9)
    refine lv_iconst (v := nI 0) hx hb dL_say_47 (by decide) ?_
    refine lv_ior hx hb dL_say_48 ?_
    refine j_top (show (((nI (pvN t a k)) <<< ((nI 8) &&& 31)) ||| (nI 0)) = nI (pvN t a (k + 1)) from (say_or (pv_b hc (by omega)) (by omega)).trans (congrArg nI (show _ = pvN t a k * 256 + chr t (a + k) by unfold chr; rw [if_neg hi]))) ?_
    refine lv_istore_n (lv' := [(3, .int (nI (pvN t a (k + 1)))), (4, .int (nI k)), (2, .int (nI a)), (0, .ref B), (1, .ref h)]) hx hb dL_say_49 rfl hl (by decide) rfl (fun sl hl => ?_)
    refine lv_iinc (k := 1) (lv' := [(4, .int (nI (k + 1))), (3, .int (nI (pvN t a (k + 1)))), (2, .int (nI a)), (0, .ref B), (1, .ref h)]) hx hb dL_say_50 hl rfl (nI_succ k).symm (by decide) rfl (fun sl hl => ?_)
    refine lv_goto (tgt := 15) hx hb dL_say_53 (by decide) ?_
    exact kk _ _ _ hW hS hl
theorem say_loop (C : sayC p R s m args meth c D D' B cA cb h t) {T : Nat} {S : ST} (fin : ∀ (H1 : Heap) (locs1 : List Loc) (u' : lt_m) (tx : Nat → Nat) (vs' : List Int32) (sl1 : Array Slot), ts_Wd D B cA (ts_fl u') H1 → va_S (sayA B s.heap.size) s.heap H1 locs1 → cP T (told S tx t.length) vs' u' → (∀ j, j < t.length → tx j = t.getD j 0) → W p l e R s m args below meth c H1 locs1 0 0 Q (F0 m 77 sl1 [])) :
    ∀ (n a : Nat) (H : Heap) (locs : List Loc) (sl : Array Slot) (u : lt_m) (tx : Nat → Nat) (vs : List Int32), t.length ≤ a + 4 * n → a ≤ t.length + 3 → ts_Wd D B cA (ts_fl u) H → va_S (sayA B s.heap.size) s.heap H locs → cP T (told S tx a) vs u → (∀ j, j < a → tx j = chr t j) → lv_has sl 5 [(2, .int (nI a)), (0, .ref B), (1, .ref h)] → W p l e R s m args below meth c H locs 0 0 Q (F0 m 2 sl []) := by
  have hC := C
  obtain ⟨⟨⟨hx, hb, -, -, -⟩, -, -, -, -⟩, -, -, -, hlen, hc⟩ := id C
  intro n
  induction n with
  | zero =>
    intro a H locs sl u tx vs h1 h2 hW hS hcp htx hl
    refine lv_iload_n hx hb dL_say_2 rfl (lv_at hl 0 rfl) ?_
    refine lv_aload_n hx hb dL_say_3 rfl (lv_at hl 2 rfl) ?_
    refine say_len C hW hS hl.1 (Nat.le_of_ble_eq_true rfl) dL_say_4 (fun H locs hW hS => ?_)
    refine lv_icmp_ge (tgt := 68) hx hb dL_say_7 (by decide) (fun _ => ?_) (fun q9 => absurd (by rw [sp_len (by omega) (by omega)]; omega) q9)
    refine lv_aload_n hx hb dL_say_68 rfl (lv_at hl 1 rfl) ?_
    refine lv_aload_n hx hb dL_say_69 rfl (lv_at hl 2 rfl) ?_
    refine say_len C hW hS hl.1 (Nat.le_of_ble_eq_true rfl) dL_say_70 (fun H locs hW hS => ?_)
    obtain ⟨u2, e2, h2⟩ := q_end 0 hcp (n := t.length) (by show t.length ≤ a; omega)
    have hev : ts_ev 12 28 [.inr (.inr (some 0)), .inl (nI t.length)] (ts_fl u) = some (some (.inl 1), ts_fl u2) := by
      rw [lt_ev_fl (ts_ni_of (show ts_cal 14 23 = some (28, 1, 0, 0) from rfl) (by decide)), e2]; rfl
    refine say_ts (As := [.inl (nI t.length)]) (r := []) hC rfl rfl rfl hev rfl hW hS hl.1 (Nat.zero_le _) dL_say_73 (fun H locs hW hS => ?_)
    refine lv_pop hx hb dL_say_76 rfl ?_
    exact fin _ _ _ _ _ _ hW hS h2 (fun j hj => by show tx j = _; rw [htx j (by omega)]; unfold chr; rw [if_pos hj])
  | succ n ih =>
    intro a H locs sl u tx vs h1 h2 hW hS hcp htx hl
    refine lv_iload_n hx hb dL_say_2 rfl (lv_at hl 0 rfl) ?_
    refine lv_aload_n hx hb dL_say_3 rfl (lv_at hl 2 rfl) ?_
    refine say_len C hW hS hl.1 (Nat.le_of_ble_eq_true rfl) dL_say_4 (fun H locs hW hS => ?_)
    by_cases hi : a < t.length
    · skip
      refine lv_icmp_ge (tgt := 68) hx hb dL_say_7 (by decide) (fun q9 => absurd q9 (by rw [sp_len (by omega) (by omega)]; omega)) (fun _ => ?_)
      refine lv_iconst (v := nI 0) hx hb dL_say_10 (by decide) ?_
      refine lv_istore_n (lv' := [(3, .int (nI 0)), (2, .int (nI a)), (0, .ref B), (1, .ref h)]) hx hb dL_say_11 rfl hl (by decide) rfl (fun sl hl => ?_)
      refine lv_iconst (v := nI 0) hx hb dL_say_12 (by decide) ?_
      refine lv_istore (lv' := [(4, .int (nI 0)), (3, .int (nI 0)), (2, .int (nI a)), (0, .ref B), (1, .ref h)]) hx hb dL_say_13 hl (by decide) rfl (fun sl hl => ?_)
      refine say_step hC hW hS (k := 0) (a := a) (by omega) (by omega) hl (fun H locs sl hW hS hl => ?_)
      refine say_step hC hW hS (k := 1) (a := a) (by omega) (by omega) hl (fun H locs sl hW hS hl => ?_)
      refine say_step hC hW hS (k := 2) (a := a) (by omega) (by omega) hl (fun H locs sl hW hS hl => ?_)
      refine say_step hC hW hS (k := 3) (a := a) (by omega) (by omega) hl (fun H locs sl hW hS hl => ?_)
      have hl : lv_has sl 5 [(4, .int (nI 4)), (3, .int (nI (pvN t a 4))), (2, .int (nI a)), (0, .ref B), (1, .ref h)] := hl
      refine lv_iload hx hb dL_say_15 (lv_at hl 0 rfl) ?_
      refine lv_iconst (v := nI 4) hx hb dL_say_17 (by decide) ?_
      refine lv_icmp_ge (tgt := 56) hx hb dL_say_18 (by decide) (fun _ => ?_) (fun q9 => absurd (by rw [sp_len (by omega) (by omega)]; omega) q9)
      refine lv_aload_n hx hb dL_say_56 rfl (lv_at hl 3 rfl) ?_
      refine lv_iload_n hx hb dL_say_57 rfl (lv_at hl 1 rfl) ?_
      obtain ⟨hb4, hs4⟩ := pv_4 hc (a := a)
      obtain ⟨u2, e2, h2'⟩ := q_sign 0 hcp (nI (pvN t a 4)) (by show a + 4 ≤ 200; omega)
      have hev : ts_ev 12 26 [.inr (.inr (some 0)), .inl (nI (pvN t a 4))] (ts_fl u) = some (some (.inl (nI (a + 4))), ts_fl u2) := by
        rw [lt_ev_fl (ts_ni_of (show ts_cal 14 17 = some (26, 1, 0, 0) from rfl) (by decide)), e2]; rfl
      refine say_ts (As := [.inl (nI (pvN t a 4))]) (r := []) hC rfl rfl rfl hev rfl hW hS hl.1 (Nat.zero_le _) dL_say_58 (fun H locs hW hS => ?_)
      refine lv_pop hx hb dL_say_61 rfl ?_
      refine lv_iinc (k := 2) (lv' := [(2, .int (nI (a + 4))), (4, .int (nI 4)), (3, .int (nI (pvN t a 4))), (0, .ref B), (1, .ref h)]) hx hb dL_say_62 hl rfl (show nI a + Int32.ofInt 4 = nI (a + 4) from nI_add a 4) (by decide) rfl (fun sl hl => ?_)
      refine lv_goto (tgt := 2) hx hb dL_say_65 (by decide) ?_
      refine ih (a + 4) _ _ _ u2 (sgT (nI (pvN t a 4)) a tx) _ (by omega) (by omega) hW hS h2' (fun j hj => ?_) (lv_sub hl [0, 3, 4] rfl)
      unfold sgT
      by_cases cj : j < a
      · rw [if_pos cj]; exact htx j cj
      · rw [if_neg cj, hs4 _ (by omega), show a + (j - a) = j by omega]
    · skip
      refine lv_icmp_ge (tgt := 68) hx hb dL_say_7 (by decide) (fun _ => ?_) (fun q9 => absurd (by rw [sp_len (by omega) (by omega)]; omega) q9)
      refine lv_aload_n hx hb dL_say_68 rfl (lv_at hl 1 rfl) ?_
      refine lv_aload_n hx hb dL_say_69 rfl (lv_at hl 2 rfl) ?_
      refine say_len C hW hS hl.1 (Nat.le_of_ble_eq_true rfl) dL_say_70 (fun H locs hW hS => ?_)
      obtain ⟨u2, e2, h2⟩ := q_end 0 hcp (n := t.length) (by show t.length ≤ a; omega)
      have hev : ts_ev 12 28 [.inr (.inr (some 0)), .inl (nI t.length)] (ts_fl u) = some (some (.inl 1), ts_fl u2) := by
        rw [lt_ev_fl (ts_ni_of (show ts_cal 14 23 = some (28, 1, 0, 0) from rfl) (by decide)), e2]; rfl
      refine say_ts (As := [.inl (nI t.length)]) (r := []) hC rfl rfl rfl hev rfl hW hS hl.1 (Nat.zero_le _) dL_say_73 (fun H locs hW hS => ?_)
      refine lv_pop hx hb dL_say_76 rfl ?_
      exact fin _ _ _ _ _ _ hW hS h2 (fun j hj => by show tx j = _; rw [htx j (by omega)]; unfold chr; rw [if_pos hj])
end SAY2

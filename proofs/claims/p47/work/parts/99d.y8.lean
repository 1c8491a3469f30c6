/-! ===== the traders ===== -/
theorem dV_208 : decode code 208 = .ok (.aload_n 0, 1) := by decide +kernel
theorem dV_209 : decode code 209 = .ok (.iconst 1, 1) := by decide +kernel
theorem dV_210 : decode code 210 = .ok (.iload 5, 2) := by decide +kernel
theorem dV_212 : decode code 212 = .ok (.iadd, 1) := by decide +kernel
theorem dV_213 : decode code 213 = .ok (.invokestatic 74, 3) := by decide +kernel
theorem dV_221 : decode code 221 = .ok (.aload_n 0, 1) := by decide +kernel
theorem dV_222 : decode code 222 = .ok (.iconst 1, 1) := by decide +kernel
theorem dV_223 : decode code 223 = .ok (.iload 5, 2) := by decide +kernel
theorem dV_225 : decode code 225 = .ok (.iadd, 1) := by decide +kernel
theorem dV_226 : decode code 226 = .ok (.invokestatic 74, 3) := by decide +kernel
section TRADERS
variable {p : Program} {l : Launch} {e : Env} {s : State} {m : MethodId} {below : List Frame} {meth : Method} {c : Code} {b L : Nat} {xs : Nat → Int32} {D D' : va_G} {B : Nat} {cA : Nat → ClassId} {cb : ClassId} {ad : Nat → Nat} {u : lt_m} {H : Heap} {sl : Array Slot} {rest : List Value} {pc cells slots z b0 m0 : Nat} {t : List Nat} {Q : State → Prop}
theorem law_traders (C : LC p s m meth c b L xs D D' B cA cb ad) {c0 : Int32} {tr : Nat} {N0 : NT} (htr0 : 0 < tr) (htr : tr ≤ 4) (hc : cells ≤ 600130) (hz : slots ≤ 7301080)
    (kk : ∀ (S : ST) (vs : List Int32) (ls : List (Option ts_V)) (u : lt_m) (H : Heap) (sl : Array Slot), lwT N0 tr S → cP 0 S vs u → w253 none c0 (nI tr) (0 : Int32) ls → ts_Lr B 28 ls sl → sl[0]? = some (Slot.val (.ref b)) → LI s D B cA H u → W p l e room_1 s m #[Value.ref b] below meth c H [] cells slots Q (F0 m 253 sl [])) :
    ∀ (n t : Nat) (S : ST) (vs : List Int32) (ls : List (Option ts_V)) (u : lt_m) (H : Heap) (sl : Array Slot), t + n = tr → lwT N0 t S → cP 0 S vs u → w253 none c0 (nI tr) (nI t) ls → ts_Lr B 28 ls sl → sl[0]? = some (Slot.val (.ref b)) → LI s D B cA H u → W p l e room_1 s m #[Value.ref b] below meth c H [] cells slots Q (F0 m 198 sl []) := by
  obtain ⟨⟨⟨hx, hb, hml, hown, -⟩, hts, hK', hRf, hRl⟩, hF, hB, hX, hbl, hL9, hZ9, hSt⟩ := id C
  intro n
  induction n with
  | zero =>
    intro t S vs ls u H sl htn hI0 hcp hw hLr h0 hI
    obtain ⟨o4, o6, o7, o8, o9, o10, o11, o12, o13, o14, o15, o16, o17, o18, o19, o20, o21, o22, o23, o24, o25, o26, o27, rfl⟩ := hw
    refine law_seg (st := []) C (S := SB) (P := fun pc ls st u' => (pc = 253 ∧ st = [] ∧ t = tr ∧ u' = u ∧ w253 none c0 (nI tr) (0 : Int32) ls) ∨ (pc = 208 ∧ t < tr ∧ st = [.inl (2000 : Int32), .inr (.inr (some 0))] ∧ u' = u ∧ w253 none c0 (nI tr) (nI t) ls)) (fun pc h => stop_ok h) (seg_B htr (by omega) o4 o6 o7 o8 o9 o10 o11 o12 o13 o14 o15 o16 o17 o18 o19 o20 o21 o22 o23 o24 o25 o26 o27 (fun h1 ls h2 => kQ_of (Or.inl ⟨rfl, rfl, h1, rfl, h2⟩)) (fun h1 => kQ_of (Or.inr ⟨rfl, h1, rfl, rfl, ⟨_, _, _, _, _, _, _, _, _, _, _, _, _, _, _, _, _, _, _, _, _, _, _, rfl⟩⟩))) hI hLr h0 hc hz (fun pc1 ls1 st1 u1 H1 sl1 hp1 hI1 hLr1 h01 _ _ => ?_)
    rcases hp1 with ⟨q1, q2, q3, q4, h2⟩ | ⟨q1, h1, -⟩
    · rw [q4] at hI1
      rw [q3] at hI0
      rw [q1, q2]
      exact kk S vs ls1 u H1 sl1 hI0 hcp h2 hLr1 h01 hI1
    · omega
  | succ n ih =>
    intro t S vs ls u H sl htn hI0 hcp hw hLr h0 hI
    obtain ⟨o4, o6, o7, o8, o9, o10, o11, o12, o13, o14, o15, o16, o17, o18, o19, o20, o21, o22, o23, o24, o25, o26, o27, rfl⟩ := hw
    refine law_seg (st := []) C (S := SB) (P := fun pc ls st u' => (pc = 253 ∧ st = [] ∧ t = tr ∧ u' = u ∧ w253 none c0 (nI tr) (0 : Int32) ls) ∨ (pc = 208 ∧ t < tr ∧ st = [.inl (2000 : Int32), .inr (.inr (some 0))] ∧ u' = u ∧ w253 none c0 (nI tr) (nI t) ls)) (fun pc h => stop_ok h) (seg_B htr (by omega) o4 o6 o7 o8 o9 o10 o11 o12 o13 o14 o15 o16 o17 o18 o19 o20 o21 o22 o23 o24 o25 o26 o27 (fun h1 ls h2 => kQ_of (Or.inl ⟨rfl, rfl, h1, rfl, h2⟩)) (fun h1 => kQ_of (Or.inr ⟨rfl, h1, rfl, rfl, ⟨_, _, _, _, _, _, _, _, _, _, _, _, _, _, _, _, _, _, _, _, _, _, _, rfl⟩⟩))) hI hLr h0 hc hz (fun pc1 ls1 st1 u1 H1 sl1 hp1 hI1 hLr1 h01 _ _ => ?_)
    rcases hp1 with ⟨-, -, q3, -⟩ | ⟨q1, h1, q2, q4, h2⟩
    · omega
    rw [q4] at hI1
    rw [q1, q2]
    clear hLr h0 hI
    obtain ⟨o4, o6, o7, o8, o9, o10, o11, o12, o13, o14, o15, o16, o17, o18, o19, o20, o21, o22, o23, o24, o25, o26, o27, rfl⟩ := h2
    refine lv_aload_n hx hb dV_208 rfl h01 ?_
    refine lv_iconst (v := nI 1) hx hb dV_209 (by decide) ?_
    refine lv_iload hx hb dV_210 (hLr1.2.2 5 _ rfl) ?_
    refine lv_iadd hx hb dV_212 ?_
    refine j_top (show nI 1 + nI t = nI (1 + t) from nI_add _ _) ?_
    refine law_cell (rest := [.int (2000 : Int32), .ref B]) C (k := 1 + t) (by omega) hI1 hLr1.1 (Nat.le_of_ble_eq_true rfl) dV_213 hc hz (fun H2 hI2 hz9 hk9 => ?_)
    generalize (if 1 + t < L then xs (1 + t) else 0) = y1
    refine law_seg (st := [.inl y1, .inl (2000 : Int32), .inr (.inr (some 0))]) C (S := SC) (P := fun pc ls st u9 => pc = 221 ∧ ∃ s9, s9 ≤ 999999 ∧ st = [.inl (nI s9), .inr (.inr (some 0))] ∧ u9 = u ∧ w253 none c0 (nI tr) (nI t) ls) (fun pc h => stop_ok h) (seg_C o4 o6 o7 o8 o9 o10 o11 o12 o13 o14 o15 o16 o17 o18 o19 o20 o21 o22 o23 o24 o25 o26 o27 (fun s9 h1 => kQ_of ⟨rfl, s9, h1, rfl, rfl, ⟨_, _, _, _, _, _, _, _, _, _, _, _, _, _, _, _, _, _, _, _, _, _, _, rfl⟩⟩)) hI2 hLr1 h01 hc hz (fun pc3 ls3 st3 u3 H3 sl3 hp3 hI3 hLr3 h03 _ _ => ?_)
    obtain ⟨q1, s9, hs9, q2, q4, h2⟩ := hp3
    rw [q4] at hI3
    rw [q1, q2]
    clear hLr1 h01 hI1 hI2
    obtain ⟨o4, o6, o7, o8, o9, o10, o11, o12, o13, o14, o15, o16, o17, o18, o19, o20, o21, o22, o23, o24, o25, o26, o27, rfl⟩ := h2
    refine lv_aload_n hx hb dV_221 rfl h03 ?_
    refine lv_iconst (v := nI 1) hx hb dV_222 (by decide) ?_
    refine lv_iload hx hb dV_223 (hLr3.2.2 5 _ rfl) ?_
    refine lv_iadd hx hb dV_225 ?_
    refine j_top (show nI 1 + nI t = nI (1 + t) from nI_add _ _) ?_
    refine law_cell (rest := [.int (nI s9), .ref B]) C (k := 1 + t) (by omega) hI3 hLr3.1 (Nat.le_of_ble_eq_true rfl) dV_226 hc hz (fun H4 hI4 hz9 hk9 => ?_)
    generalize (if 1 + t < L then xs (1 + t) else 0) = y2
    refine law_seg (st := [.inl y2, .inl (nI s9), .inr (.inr (some 0))]) C (S := SD) (P := fun pc ls st u9 => pc = 198 ∧ st = [] ∧ ∃ (S : ST) (vs : List Int32), lwT N0 (t + 1) S ∧ cP 0 S vs u9 ∧ w253 none c0 (nI tr) (nI (t + 1)) ls) (fun pc h => stop_ok h) (seg_D hI0 hcp (by omega) hs9 o4 o6 o7 o8 o9 o10 o11 o12 o13 o14 o15 o16 o17 o18 o19 o20 o21 o22 o23 o24 o25 o26 o27 (fun S vs ls m h1 h2 h3 => kQ_of ⟨rfl, rfl, S, vs, h1, h2, h3⟩)) hI4 hLr3 h03 hc hz (fun pc5 ls5 st5 u5 H5 sl5 hp5 hI5 hLr5 h05 _ _ => ?_)
    obtain ⟨q1, q2, S, vs, h1, h2, h3⟩ := hp5
    rw [q1, q2]
    exact ih (t + 1) S vs ls5 u5 H5 sl5 (by omega) h1 h2 h3 hLr5 h05 hI5
end TRADERS

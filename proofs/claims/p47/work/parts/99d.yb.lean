/-! ===== the acts, and the end ===== -/
theorem dV_260 : decode code 260 = .ok (.aload_n 0, 1) := by decide +kernel
theorem dV_261 : decode code 261 = .ok (.iconst 5, 1) := by decide +kernel
theorem dV_262 : decode code 262 = .ok (.iload 5, 2) := by decide +kernel
theorem dV_264 : decode code 264 = .ok (.iadd, 1) := by decide +kernel
theorem dV_265 : decode code 265 = .ok (.invokestatic 74, 3) := by decide +kernel
theorem dV_1467 : decode code 1467 = .ok (.iconst 1, 1) := by decide +kernel
theorem dV_1468 : decode code 1468 = .ok (.ireturn, 1) := by decide +kernel
def lw_Q (_ : Array Value) (s : State) (o : Outcome) (t : State) : Prop := o = .returned (some (.int 1)) ∧ Framed s o t [] 600130 7301080
def lw_Z (below : List Frame) (a : Array Value) (s : State) : State → Prop := fun t => ∃ o, t.status = .running ∧ Ended t below o ∧ lw_Q a s o t
/-- the law's own end, with 1 on the stack, nothing written that was there before, its room as the claim has it -/
theorem lw_ret {p : Program} {l : Launch} {e : Env} {s : State} {m : MethodId} {below : List Frame} {meth : Method} {c : Code} {b : Nat} (hx : p.tables.exec = Jvm.exec) (hb : c.code = code) (hr : meth.sig.returnType = ret) (hlocks : meth.locks = false) {pc : Nat} {H : Heap} {ls : Array Slot} (hdg : decode code pc = .ok (.ireturn, 1)) : W p l e room_1 s m #[Value.ref b] below meth c H [] 600130 7301080 (lw_Z below #[Value.ref b] s) (F0 m pc ls [.int 1]) := by
  intro T hT X
  obtain ⟨fs, hret, hrun, hended, hW, hframe⟩ := X.leave (v := some (.int 1)) (hlocks := hlocks) (fun h => by rw [hr] at h; cases h)
  have hmeth' : T.vm.method? m = some meth := X.method'
  refine ⟨T.setFrames fs, ?_, .returned (some (.int 1)), hrun, hended, rfl, ⟨_, rfl⟩, hW, hframe⟩
  jvm_step X.here [X.here.top, hx, hb, hdg, hmeth', hr, ret, narrow_b1]
  (try refine ⟨rfl, ?_⟩); (try refine ⟨rfl, ?_⟩)
  first | (intro acts; rw [hret _ acts rfl rfl rfl]) | rw [hret _ _ rfl rfl rfl]
  exact Steps.refl _
section ACTS
variable {p : Program} {l : Launch} {e : Env} {s : State} {m : MethodId} {below : List Frame} {meth : Method} {c : Code} {b L : Nat} {xs : Nat → Int32} {D D' : va_G} {B : Nat} {cA : Nat → ClassId} {cb : ClassId} {ad : Nat → Nat} {u : lt_m} {H : Heap} {sl : Array Slot} {rest : List Value} {pc cells slots z b0 m0 : Nat} {t : List Nat}
theorem law_acts (C : LC p s m meth c b L xs D D' B cA cb ad) (hret : meth.sig.returnType = ret) (hlocks : meth.locks = false) {x2 : Int32} {tr : Nat} {Hh : Nat → Nat → Nat} {cc dd : Nat → Nat} (hH : ringH Hh) (htr : 0 < tr) (htr4 : tr ≤ 4) :
    ∀ (n k : Nat) (S : ST) (vs : List Int32) (ls : List (Option ts_V)) (u : lt_m) (H : Heap) (sl : Array Slot), k + n = 26 → lwI (6, 2, Hh, cc, dd) tr k S → cP (100 * k) S vs u → w253 none x2 (nI tr) (nI k) ls → ts_Lr B 28 ls sl → sl[0]? = some (Slot.val (.ref b)) → LI s D B cA H u → W p l e room_1 s m #[Value.ref b] below meth c H [] (1000 + 20 * k) (110000 + 2000 * k) (lw_Z below #[Value.ref b] s) (F0 m 253 sl []) := by
  obtain ⟨⟨⟨hx, hb, hml, hown, -⟩, hts, hK', hRf, hRl⟩, hF, hB, hX, hbl, hL9, hZ9, hSt⟩ := id C
  intro n
  induction n with
  | zero =>
    intro k S vs ls u H sl hkn hJ hcp hw hLr h0 hI
    obtain ⟨o4, o6, o7, o8, o9, o10, o11, o12, o13, o14, o15, o16, o17, o18, o19, o20, o21, o22, o23, o24, o25, o26, o27, rfl⟩ := hw
    refine law_seg (st := []) C (S := SF) (P := fun pc ls st u' => (pc = 1467 ∧ st = [] ∧ k = 26) ∨ (pc = 260 ∧ k < 26 ∧ st = [] ∧ u' = u ∧ w253 none x2 (nI tr) (nI k) ls)) (fun pc h => stop_ok h) (seg_F (by omega) o4 o6 o7 o8 o9 o10 o11 o12 o13 o14 o15 o16 o17 o18 o19 o20 o21 o22 o23 o24 o25 o26 o27 (fun h1 ls h2 => kQ_of (Or.inl ⟨rfl, rfl, h1⟩)) (fun h1 => kQ_of (Or.inr ⟨rfl, h1, rfl, rfl, ⟨_, _, _, _, _, _, _, _, _, _, _, _, _, _, _, _, _, _, _, _, _, _, _, rfl⟩⟩))) hI hLr h0 (by omega) (by omega) (fun pc1 ls1 st1 u1 H1 sl1 hp1 hI1 hLr1 h01 _ _ => ?_)
    rcases hp1 with ⟨q1, q2, -⟩ | ⟨-, h1, -⟩
    · rw [q1, q2]
      refine lv_iconst (v := 1) hx hb dV_1467 (by decide) ?_
      refine W.widen (k := 600130) (n := 7301080) (by omega) (by omega) ?_
      exact lw_ret hx hb hret hlocks dV_1468
    · omega
  | succ n ih =>
    intro k S vs ls u H sl hkn hJ hcp hw hLr h0 hI
    obtain ⟨o4, o6, o7, o8, o9, o10, o11, o12, o13, o14, o15, o16, o17, o18, o19, o20, o21, o22, o23, o24, o25, o26, o27, rfl⟩ := hw
    refine law_seg (st := []) C (S := SF) (P := fun pc ls st u' => (pc = 1467 ∧ st = [] ∧ k = 26) ∨ (pc = 260 ∧ k < 26 ∧ st = [] ∧ u' = u ∧ w253 none x2 (nI tr) (nI k) ls)) (fun pc h => stop_ok h) (seg_F (by omega) o4 o6 o7 o8 o9 o10 o11 o12 o13 o14 o15 o16 o17 o18 o19 o20 o21 o22 o23 o24 o25 o26 o27 (fun h1 ls h2 => kQ_of (Or.inl ⟨rfl, rfl, h1⟩)) (fun h1 => kQ_of (Or.inr ⟨rfl, h1, rfl, rfl, ⟨_, _, _, _, _, _, _, _, _, _, _, _, _, _, _, _, _, _, _, _, _, _, _, rfl⟩⟩))) hI hLr h0 (by omega) (by omega) (fun pc1 ls1 st1 u1 H1 sl1 hp1 hI1 hLr1 h01 _ _ => ?_)
    rcases hp1 with ⟨-, -, q3⟩ | ⟨q1, hk, q2, q4, h2⟩
    · omega
    rw [q4] at hI1
    rw [q1, q2]
    clear hLr h0 hI
    obtain ⟨o4, o6, o7, o8, o9, o10, o11, o12, o13, o14, o15, o16, o17, o18, o19, o20, o21, o22, o23, o24, o25, o26, o27, rfl⟩ := h2
    refine lv_aload_n hx hb dV_260 rfl h01 ?_
    refine lv_iconst (v := nI 5) hx hb dV_261 (by decide) ?_
    refine lv_iload hx hb dV_262 (hLr1.2.2 5 _ rfl) ?_
    refine lv_iadd hx hb dV_264 ?_
    refine j_top (show nI 5 + nI k = nI (5 + k) from nI_add _ _) ?_
    refine law_cell (rest := []) C (k := 5 + k) (by omega) hI1 hLr1.1 (Nat.le_of_ble_eq_true rfl) dV_265 (by omega) (by omega) (fun H2 hI2 hz9 hk9 => ?_)
    generalize (if 5 + k < L then xs (5 + k) else 0) = y1
    have hD8 := hcp.D8
    have e1 : nI k + (1 : Int32) = nI (k + 1) := by rw [nI_1]
    have hc1 : 1000 + 20 * (k + 1) ≤ 600130 := Nat.le_trans (Nat.add_le_add_left (Nat.mul_le_mul_left 20 (show k + 1 ≤ 26 from hk)) 1000) (Nat.le_of_ble_eq_true rfl)
    have hz1 : 110000 + 2000 * (k + 1) ≤ 7301080 := Nat.le_trans (Nat.add_le_add_left (Nat.mul_le_mul_left 2000 (show k + 1 ≤ 26 from hk)) 110000) (Nat.le_of_ble_eq_true rfl)
    have hc2 : 1000 + 20 * k + 20 = 1000 + 20 * (k + 1) := by rw [Nat.mul_succ, Nat.add_assoc]
    have hz2 : 110000 + 2000 * k + 2000 = 110000 + 2000 * (k + 1) := by rw [Nat.mul_succ, Nat.add_assoc]
    have fin : ∀ (bb : Int32) (ls : List (Option ts_V)) (u : lt_m) (H : Heap) (sl : Array Slot), w1301 none x2 (nI tr) (nI k) y1 (nI (S.w 2)) (nI S.D) (nI (S.w 0)) (nI (S.w 3)) bb ls → pst (6, 2, Hh, cc, dd) tr k S.D (S.w 0) (S.w 2) (S.w 3) bb u → ts_Lr B 28 ls sl → sl[0]? = some (Slot.val (.ref b)) → LI s D B cA H u → W p l e room_1 s m #[Value.ref b] below meth c H [] (1000 + 20 * (k + 1)) (110000 + 2000 * (k + 1)) (lw_Z below #[Value.ref b] s) (F0 m 1301 sl []) := by
      intro bb ls u H sl hw hp hLr h0 hI
      obtain ⟨o4, o11, o12, o13, o15, o16, o17, o18, o19, o20, o21, o22, o23, o24, o25, o26, o27, rfl⟩ := hw
      refine law_seg (st := []) C (S := SP) (P := fun pc ls st u' => pc = 253 ∧ st = [] ∧ w253 none x2 (nI tr) (nI k + (1 : Int32)) ls ∧ ∃ S vs, cP (100 * (k + 1)) S vs u' ∧ lwI (6, 2, Hh, cc, dd) tr (k + 1) S) (fun pc h => stop_ok h) (seg_P (N0 := (6, 2, Hh, cc, dd)) hk htr (Nat.zero_lt_succ 1) hD8 hp (fun ls m h1 h2 => kQ_of ⟨rfl, rfl, h1, h2⟩) o4 o11 o12 o13 o15 o16 o17 o18 o19 o20 o21 o22 o23 o24 o25 o26 o27) hI hLr h0 hc1 hz1 (fun pc1 ls1 st1 u1 H1 sl1 hp1 hI1 hLr1 h01 _ _ => ?_)
      obtain ⟨q1, q2, hw1, S1, vs1, hcp1, hJ1⟩ := hp1
      rw [q1, q2]
      rw [e1] at hw1
      exact ih (k + 1) S1 vs1 ls1 u1 H1 sl1 (by omega) hJ1 hcp1 hw1 hLr1 h01 hI1
    refine law_seg (st := [.inl y1]) C (S := SG) (P := fun pc ls st u' => (pc = 1301 ∧ st = [] ∧ ∃ bb, w1301 none x2 (nI tr) (nI k) y1 (nI (S.w 2)) (nI S.D) (nI (S.w 0)) (nI (S.w 3)) bb ls ∧ pst (6, 2, Hh, cc, dd) tr k S.D (S.w 0) (S.w 2) (S.w 3) bb u') ∨ (pc = 477 ∧ st = [] ∧ ∃ (vs : List Int32) (from_ len step td n : Nat), from_ < 6 ∧ 2 ≤ len ∧ len ≤ 5 ∧ (step = 1 ∨ step = 5) ∧ td < tr ∧ n < 64 ∧ w477 none x2 tr (nI k) y1 (nI (S.w 2)) (nI S.D) (nI (S.w 0)) (nI (S.w 3)) from_ len step td n ls ∧ cP (100 * k) S vs u')) (fun pc h => stop_ok h) (a_G hJ hk htr htr4 hcp y1 o4 o6 o7 o8 o9 o10 o11 o12 o13 o14 o15 o16 o17 o18 o19 o20 o21 o22 o23 o24 o25 o26 o27 (fun bb ls m h1 h2 => kQ_of (Or.inl ⟨rfl, rfl, bb, h1, h2⟩)) (fun ls m vs f1 f2 f3 f4 f5 g1 g2 g3 g4 g5 g6 g7 g8 => kQ_of (Or.inr ⟨rfl, rfl, vs, f1, f2, f3, f4, f5, g1, g2, g3, g4, g5, g6, g7, g8⟩))) hI2 hLr1 h01 (by omega) (by omega) (fun pc5 ls5 st5 u5 H5 sl5 hp5 hI5 hLr5 h05 _ _ => ?_)
    rcases hp5 with ⟨q1, q2, bb, g1, g2⟩ | ⟨q1, q2, vs5, f1, f2, f3, f4, f5, g1, g2, g3, g4, g5, g6, g7, g8⟩
    · rw [q1, q2]
      refine W.widen (k := 1000 + 20 * (k + 1)) (n := 110000 + 2000 * (k + 1)) (by omega) (by omega) ?_
      exact fin bb ls5 u5 H5 sl5 g1 g2 hLr5 h05 hI5
    · rw [q1, q2]
      refine law_start C hH hJ hk g8 g1 g2 g3 g4 g5 g6 g7 hLr5 h05 hI5 (Nat.le_trans (Nat.le_of_eq hc2) hc1) (Nat.le_trans (Nat.le_of_eq hz2) hz1) (fun bb ls u H sl hw hp hLr h0 hI => ?_)
      rw [hc2, hz2]
      exact fin bb ls u H sl hw hp hLr h0 hI
end ACTS
theorem law_all {p : Program} {e : Env} {s : State} {m : MethodId} {below : List Frame} {meth : Method} {c : Code} (l : Launch) {b L : Nat} {xs : Nat → Int32} (C0 : lw_At p s m meth c b L xs) : W p l e room_1 s m #[Value.ref b] below meth c s.heap [] 0 0 (lw_Z below #[Value.ref b] s) (entryFrame m ([Value.ref b] : List Value).toArray 28) := by
  obtain ⟨hx, hb, hrt, hml, hown, hts, hX, hbl, hlocks, hgv, hL, hcw, hnm⟩ := id C0
  refine law_begin C0 (fun D D' cA cb ad u H sl C hI hcp hl => ?_)
  refine law_ring C hI hcp hl (fun c0 tr Hh cc dd S vs ls u H sl htr htr4 hH hT hcp hw hLr h0 hI => ?_)
  refine law_traders C htr htr4 (Nat.le_of_ble_eq_true rfl) (Nat.le_of_ble_eq_true rfl) (fun S vs ls u H sl hT hcp hw hLr h0 hI => ?_) tr 0 S vs ls u H sl (Nat.zero_add _) hT hcp hw hLr h0 hI
  exact law_acts C hrt hlocks hH htr htr4 26 0 S vs ls u H sl rfl (lwT_I hT) hcp hw hLr h0 hI

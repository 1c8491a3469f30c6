/-! ===== an act that starts ===== -/
theorem dV_543 : decode code 543 = .ok (.aload_n 1, 1) := by decide +kernel
theorem dV_544 : decode code 544 = .ok (.aload 20, 2) := by decide +kernel
theorem dV_546 : decode code 546 = .ok (.invokevirtual 110, 3) := by decide +kernel
theorem dV_549 : decode code 549 = .ok (.invokestatic 114, 3) := by decide +kernel
theorem dV_572 : decode code 572 = .ok (.aload_n 1, 1) := by decide +kernel
theorem dV_573 : decode code 573 = .ok (.aload 20, 2) := by decide +kernel
theorem dV_575 : decode code 575 = .ok (.invokevirtual 110, 3) := by decide +kernel
theorem dV_578 : decode code 578 = .ok (.invokestatic 114, 3) := by decide +kernel
theorem rdN_cg {tx tx' : Nat → Nat} {tk : Nat} (h : ∀ p, sg tx tk p = sg tx' tk p) : ∀ n i v p, rdN tx tk n i v p = rdN tx' tk n i v p := by
  intro n
  induction n with
  | zero => intro i v p; rfl
  | succ n ih => intro i v p; simp only [rdN]; rw [h, ih]
theorem rtN_cg {H : Nat → Nat → Nat} {n : Nat} {tx tx' : Nat → Nat} {tk : Nat} (h : ∀ p, sg tx tk p = sg tx' tk p) : ∀ f k r s p, rtN H n tx tk f k r s p = rtN H n tx' tk f k r s p := by
  have hn : ∀ dg lo hi p, nuN tx tk dg lo hi p = nuN tx' tk dg lo hi p := fun dg lo hi p => by unfold nuN; rw [rdN_cg h]
  intro f
  induction f with
  | zero => intro k r s p; rfl
  | succ f ih =>
    intro k r s p
    simp only [rtN]
    rw [hn]
    cases nuN tx' tk (dgs n) 0 n p with
    | inl e => rfl
    | inr q => dsimp only; rw [h, ih]
section START
variable {p : Program} {l : Launch} {e : Env} {s : State} {m : MethodId} {below : List Frame} {meth : Method} {c : Code} {b L : Nat} {xs : Nat → Int32} {D D' : va_G} {B : Nat} {cA : Nat → ClassId} {cb : ClassId} {ad : Nat → Nat} {u : lt_m} {H : Heap} {sl : Array Slot} {rest : List Value} {pc cells slots z b0 m0 : Nat} {t : List Nat} {Q : State → Prop}
theorem law_start (C : LC p s m meth c b L xs D D' B cA cb ad) {x2 x5 x6 : Int32} {tr k n from_ len step td : Nat} {Hh : Nat → Nat → Nat} {cc dd : Nat → Nat} {S : ST} {vs : List Int32} {ls : List (Option ts_V)} (hH : ringH Hh) (hJ : lwI (6, 2, Hh, cc, dd) tr k S) (hk : k < 26) (hcp : cP (100 * k) S vs u) (h1 : from_ < 6) (h2 : 2 ≤ len) (h5 : len ≤ 5) (hst : step = 1 ∨ step = 5) (htd : td < tr) (hn : n < 64) (hw : w477 none x2 tr x5 x6 (nI (S.w 2)) (nI S.D) (nI (S.w 0)) (nI (S.w 3)) from_ len step td n ls) (hLr : ts_Lr B 28 ls sl) (h0 : sl[0]? = some (Slot.val (.ref b))) (hI : LI s D B cA H u) (hc : cells + 20 ≤ 600130) (hz : slots + 2000 ≤ 7301080)
    (kk : ∀ (bb : Int32) (ls : List (Option ts_V)) (u : lt_m) (H : Heap) (sl : Array Slot), w1301 none x2 (nI tr) x5 x6 (nI (S.w 2)) (nI S.D) (nI (S.w 0)) (nI (S.w 3)) bb ls → pst (6, 2, Hh, cc, dd) tr k S.D (S.w 0) (S.w 2) (S.w 3) bb u → ts_Lr B 28 ls sl → sl[0]? = some (Slot.val (.ref b)) → LI s D B cA H u → W p l e room_1 s m #[Value.ref b] below meth c H [] (cells + 20) (slots + 2000) Q (F0 m 1301 sl [])) : W p l e room_1 s m #[Value.ref b] below meth c H [] cells slots Q (F0 m 477 sl []) := by
  obtain ⟨⟨⟨hx, hb9, hml, hown, -⟩, hts, hK', hRf, hRl⟩, hF, hB, hX, hbl, hL9, hZ9, hSt⟩ := id C
  obtain ⟨x11, x13, o4, o20, o21, o22, o23, o24, o25, o26, o27, rfl⟩ := hw
  have hLr := Lr_less (ls := [none, some (.inr (.inr (some 0))), some (.inl x2), some (.inl (nI tr)), none, some (.inl x5), some (.inl x6), some (.inl (nI (S.w 2))), some (.inl (nI S.D)), some (.inl (nI (S.w 0))), some (.inl (nI (S.w 3))), some (.inl x11), some (.inl (nI n)), some (.inl x13), some (.inl 1), some (.inl (nI from_)), some (.inl (nI len)), some (.inl (nI step)), some (.inl (nI td)), some (.inl (nI (1 + 3 * n))), none, none, none, none, none, none, none, none]) hLr (by simp [lrLe])
  have hl : lv_has sl 28 [(0, .ref b), (1, .ref B), (2, .int x2), (3, .int (nI tr)), (5, .int x5), (6, .int x6), (7, .int (nI (S.w 2))), (8, .int (nI S.D)), (9, .int (nI (S.w 0))), (10, .int (nI (S.w 3))), (11, .int x11), (12, .int (nI n)), (13, .int x13), (14, .int 1), (15, .int (nI from_)), (16, .int (nI len)), (17, .int (nI step)), (18, .int (nI td)), (19, .int (nI (1 + 3 * n)))] := Lr_has hLr h0
  refine law_newB C hI dV_477 (by omega) (by omega) (fun b0 H1 hI1 hz1 hP1 hD1 => ?_)
  have hle : B + ts_NN ≤ H.size := hI.1.le (by have := hI.2.1; omega)
  have hle2 : H.size ≤ b0 := hD1.2 0 _ rfl
  obtain ⟨d, hd⟩ : ∃ d, b0 = B + d := ⟨b0 - B, by omega⟩
  subst hd
  refine lv_dup hx hb9 dV_480 rfl ?_
  refine law_init C hI1 hle hz1 hP1 hD1 hl.1 (Nat.le_of_ble_eq_true rfl) dV_481 (by omega) (by omega) (fun H2 hI2 hb => ?_)
  refine lv_astore (lv' := [(20, .ref (B + d)), (0, .ref b), (1, .ref B), (2, .int x2), (3, .int (nI tr)), (5, .int x5), (6, .int x6), (7, .int (nI (S.w 2))), (8, .int (nI S.D)), (9, .int (nI (S.w 0))), (10, .int (nI (S.w 3))), (11, .int x11), (12, .int (nI n)), (13, .int x13), (14, .int 1), (15, .int (nI from_)), (16, .int (nI len)), (17, .int (nI step)), (18, .int (nI td)), (19, .int (nI (1 + 3 * n)))]) hx hb9 dV_484 hl (by decide) rfl (fun sl hl => ?_)
  refine lv_iconst (v := nI 0) hx hb9 dV_486 (by decide) ?_
  refine lv_istore (lv' := [(21, .int (nI 0)), (20, .ref (B + d)), (0, .ref b), (1, .ref B), (2, .int x2), (3, .int (nI tr)), (5, .int x5), (6, .int x6), (7, .int (nI (S.w 2))), (8, .int (nI S.D)), (9, .int (nI (S.w 0))), (10, .int (nI (S.w 3))), (11, .int x11), (12, .int (nI n)), (13, .int x13), (14, .int 1), (15, .int (nI from_)), (16, .int (nI len)), (17, .int (nI step)), (18, .int (nI td)), (19, .int (nI (1 + 3 * n)))]) hx hb9 dV_487 hl (by decide) rfl (fun sl hl => ?_)
  refine W.widen (k := (cells + 2) + 2 * 0) (n := (slots + 126) + 244 * 0) (by omega) (by omega) ?_
  refine law_rt (cells := cells + 2) (slots := slots + 126) (z := H.size) C h1 h5 (by omega) (by omega) (by omega) (fun H3 sl3 hI3 hb3 hl3 => ?_) len 0 H2 _ (Nat.zero_add _) hI2 hb hl
  have hrl := rtL_len from_ step len
  have hll : (rtL from_ step len).length ≤ 9 := by omega
  obtain ⟨hLr3, h03⟩ := has_Lr (B := B) (ls := [none, some (.inr (.inr (some 0))), some (.inl x2), some (.inl (nI tr)), none, some (.inl x5), some (.inl x6), some (.inl (nI (S.w 2))), some (.inl (nI S.D)), some (.inl (nI (S.w 0))), some (.inl (nI (S.w 3))), some (.inl x11), some (.inl (nI n)), some (.inl x13), some (.inl 1), some (.inl (nI from_)), some (.inl (nI len)), some (.inl (nI step)), some (.inl (nI td)), some (.inl (nI (1 + 3 * n))), some (.inr (.inr (some d))), some (.inl (nI len)), none, none, none, none, none, none]) (lv_sub hl3 [2, 3, 4, 5, 6, 7, 8, 9, 10, 11, 12, 13, 14, 15, 16, 17, 18, 19, 20, 1, 0] rfl)
  refine law_seg (st := []) C (S := SH) (P := fun pc ls st u' => pc = 543 ∧ st = [] ∧ ∃ vs, cP (100 * k) S vs u' ∧ ls = [none, some (.inr (.inr (some 0))), some (.inl x2), some (.inl (nI tr)), none, some (.inl x5), some (.inl x6), some (.inl (nI (S.w 2))), some (.inl (nI S.D)), some (.inl (nI (S.w 0))), some (.inl (nI (S.w 3))), some (.inl x11), some (.inl (nI n)), some (.inl x13), some (.inl 1), some (.inl (nI from_)), some (.inl (nI len)), some (.inl (nI step)), some (.inl (nI td)), some (.inl (nI (1 + 3 * n))), some (.inr (.inr (some d))), some (.inl (nI (canN (6, 2, Hh, cc, dd) S.w td 1))), none, none, none, none, none, none]) (fun pc h => stop_ok h) (seg_H hJ hcp (Nat.lt_succ_self 1) htd x11 (nI n) x13 1 (nI from_) (nI len) (nI step) (some d) none (some (.inl (nI len))) none none none none none none (fun vs m h => kQ_of ⟨rfl, rfl, vs, h, rfl⟩)) hI3 hLr3 h03 (by omega) (by omega) (fun pc4 ls4 st4 u4 H4 sl4 hp4 hI4 hLr4 h04 hz4 hk4 => ?_)
  obtain ⟨q1, q2, vs4, hcp4, rfl⟩ := hp4
  rw [q1, q2]
  have hb4 := hb3.kept hz4 hk4
  refine lv_aload_n (x := B) hx hb9 dV_543 rfl (hLr4.2.2 1 _ rfl) ?_
  refine lv_aload (x := B + d) hx hb9 dV_544 (hLr4.2.2 20 _ rfl) ?_
  refine law_toS C hI4 hb4 (by omega) (by omega) hLr4.1 (Nat.le_of_ble_eq_true rfl) dV_546 (by omega) (by omega) (fun h5a H5 hI5 hb5 hT5 => ?_)
  refine law_say C hI5 hT5 hJ.2.2.2.2 hcp4 (by omega) (getD_lt (rtL_lt from_ step len)) hLr4.1 (Nat.le_of_ble_eq_true rfl) dV_549 (by omega) (by omega) (fun H6 u6 tx vs6 hI6 hcp6 htx hz6 hk6 => ?_)
  have hb6 := hb5.kept hz6 hk6
  have hsg : ∀ j, j < (rtL from_ step len).length → sg tx (rtL from_ step len).length j = (rtL from_ step len).getD j 0 := fun j hj => by unfold sg; rw [if_pos hj]; exact htx j hj
  obtain ⟨kk9, r9, s9, hx9⟩ := rt_ring h1 h2 h5 hst (fun x hx => by rw [hsg _ (by omega)]; exact (rtL_at from_ step len).1 x hx) (fun x hx => by rw [hsg _ (by omega)]; exact (rtL_at from_ step len).2 x hx) hrl hH
  refine law_seg (st := []) C (S := SI) (P := fun pc ls st u' => pc = 572 ∧ st = [] ∧ ∃ (dt : Nat) (vs : List Int32), dt < 2 ^ 31 ∧ cP (100 * k) (told S tx 0) vs u' ∧ ls = [none, some (.inr (.inr (some 0))), some (.inl x2), some (.inl (nI tr)), none, some (.inl x5), some (.inl x6), some (.inl (nI (S.w 2))), some (.inl (nI S.D)), some (.inl (nI (S.w 0))), some (.inl (nI (S.w 3))), some (.inl x11), some (.inl (nI n)), some (.inl x13), some (.inl 1), some (.inl (nI from_)), some (.inl (nI len)), some (.inl (nI step)), some (.inl (nI td)), some (.inl (nI (1 + 3 * n))), some (.inr (.inr (some d))), some (.inl (nI (canN (6, 2, Hh, cc, dd) S.w td 1))), some (.inl (nI dt)), some (.inr (.inl (nI s9).toInt64)), none, some (.inr (.inl (nI (S.w 0 + 2 * s9 + 24)).toInt64)), none, none]) (fun pc h => stop_ok h) (seg_I hJ hcp6 hx9 x11 (nI n) x13 1 (nI from_) (nI len) (nI step) (some d) none none none none none none none (fun dt vs m h1 h2 => kQ_of ⟨rfl, rfl, dt, vs, h1, h2, rfl⟩)) hI6 hLr4 h04 (by omega) (by omega) (fun pc7 ls7 st7 u7 H7 sl7 hp7 hI7 hLr7 h07 hz7 hk7 => ?_)
  obtain ⟨q1, q2, dt, vs7, hdt, hcp7, rfl⟩ := hp7
  rw [q1, q2]
  have hb7 := hb6.kept hz7 hk7
  refine lv_aload_n (x := B) hx hb9 dV_572 rfl (hLr7.2.2 1 _ rfl) ?_
  refine lv_aload (x := B + d) hx hb9 dV_573 (hLr7.2.2 20 _ rfl) ?_
  refine law_toS C hI7 hb7 (by omega) (by omega) hLr7.1 (Nat.le_of_ble_eq_true rfl) dV_575 (by omega) (by omega) (fun h8a H8 hI8 hb8 hT8 => ?_)
  refine law_say C hI8 hT8 (S := told S tx 0) rfl hcp7 (by omega) (getD_lt (rtL_lt from_ step len)) hLr7.1 (Nat.le_of_ble_eq_true rfl) dV_578 (by omega) (by omega) (fun H9 u9 tx2 vs9 hI9 hcp9 htx2 hz9 hk9 => ?_)
  have hx10 : rtN Hh 6 tx2 (rtL from_ step len).length 8 0 (fun _ => 0) 0 0 = .inr (kk9, r9, s9) := by
    rw [← hx9]
    refine rtN_cg (fun p => ?_) _ _ _ _ _
    unfold sg
    by_cases c : p < (rtL from_ step len).length
    · rw [if_pos c, if_pos c, htx2 p c, htx p c]
    · rw [if_neg c, if_neg c]
  refine law_seg (st := []) C (S := SJ) (P := fun pc ls st u' => pc = 1301 ∧ st = [] ∧ ∃ bb, w1301 none x2 (nI tr) x5 x6 (nI (S.w 2)) (nI S.D) (nI (S.w 0)) (nI (S.w 3)) bb ls ∧ pst (6, 2, Hh, cc, dd) tr k S.D (S.w 0) (S.w 2) (S.w 3) bb u') (fun pc h => stop_ok h) (seg_J hJ (fun bb ls m h1 h2 => kQ_of ⟨rfl, rfl, bb, h1, h2⟩) hk hcp9 (Nat.lt_succ_self 1) htd hn hdt hx10 x11 (nI n) x13 1 (nI from_) (nI len) (nI step) (some d) none none) hI9 hLr7 h07 (by omega) (by omega) (fun pcA lsA stA uA HA slA hpA hIA hLrA h0A _ _ => ?_)
  obtain ⟨q1, q2, bb, hwA, hpA⟩ := hpA
  rw [q1, q2]
  refine W.widen (k := cells + 20) (n := slots + 2000) (by omega) (by omega) ?_
  exact kk bb lsA uA HA slA hwA hpA hLrA h0A hIA
end START

/-! ===== from the first cell to the traders ===== -/
theorem stop_ok {A : Bool} {pc : Nat} (h : (A || (pc == 327 || Nat.ble 1469 pc)) = false) : pc < 1469 ∧ pc ≠ 327 := by
  simp only [Bool.or_eq_false_iff, beq_eq_false_iff_ne] at h
  refine ⟨Nat.lt_of_not_le fun q => ?_, h.2.1⟩
  have h2 := h.2.2
  rw [Nat.ble_eq_true_of_le q] at h2
  exact absurd h2 (by decide)
theorem rP_lt {k a : Nat} (hk : k < 6) (ha : a < 8) : ∀ x ∈ rP k a, x < 128 := by
  intro x hx
  have hm6 : (k + 1) % 6 < 6 := Nat.mod_lt _ (by decide)
  rcases List.mem_append.mp hx with h | h
  · simp only [List.mem_cons, List.not_mem_nil, or_false] at h
    omega
  · exact yTx_lt (by split <;> decide) x h
theorem ring_text (a0 a1 a2 a3 a4 a5 : Nat) (d1 d2 : Nat) : ([48, 49, 50, 51, 48, 49, 124] ++ rP 0 a0 ++ rP 1 a1 ++ rP 2 a2 ++ rP 3 a3 ++ rP 4 a4 ++ rP 5 a5) ++ (dgL d1 ++ ([44] ++ dgL d2)) = ringT (fun k => match k with | 0 => 1 + a0 | 1 => 1 + a1 | 2 => 1 + a2 | 3 => 1 + a3 | 4 => 1 + a4 | _ => 1 + a5) d1 d2 := rfl
section TOLD
variable {p : Program} {l : Launch} {e : Env} {s : State} {m : MethodId} {below : List Frame} {meth : Method} {c : Code} {b L : Nat} {xs : Nat → Int32} {D D' : va_G} {B : Nat} {cA : Nat → ClassId} {cb : ClassId} {ad : Nat → Nat} {u : lt_m} {H : Heap} {sl : Array Slot} {rest : List Value} {pc cells slots z b0 m0 : Nat} {t : List Nat} {Q : State → Prop}
theorem law_ring (C : LC p s m meth c b L xs D D' B cA cb ad) (hI : LI s D B cA H u) (hcp : cP 0 S00 [] u) (hl : lv_has sl 28 [(1, .ref B), (0, .ref b)])
    (kk : ∀ (c0 : Int32) (tr : Nat) (Hh : Nat → Nat → Nat) (cc dd : Nat → Nat) (S : ST) (vs : List Int32) (ls : List (Option ts_V)) (u : lt_m) (H : Heap) (sl : Array Slot), 0 < tr → tr ≤ 4 → ringH Hh → lwT (6, 2, Hh, cc, dd) 0 S → cP 0 S vs u → w253 none c0 (nI tr) (0 : Int32) ls → ts_Lr B 28 ls sl → sl[0]? = some (Slot.val (.ref b)) → LI s D B cA H u → W p l e room_1 s m #[Value.ref b] below meth c H [] 1000 110000 Q (F0 m 198 sl [])) :
    W p l e room_1 s m #[Value.ref b] below meth c H [] 711 100000 Q (F0 m 8 sl []) := by
  obtain ⟨⟨⟨hx, hb9, hml, hown, -⟩, hts, hK', hRf, hRl⟩, hF, hB, hX, hbl, hL9, hZ, hSt⟩ := id C
  refine lv_aload_n hx hb9 dV_8 rfl (lv_at hl 1 rfl) ?_
  refine lv_iconst (v := nI 0) hx hb9 dV_9 (by decide) ?_
  refine law_cell C (k := 0) (Nat.zero_le _) hI hl.1 (Nat.zero_le _) dV_10 (Nat.le_of_ble_eq_true rfl) (Nat.le_of_ble_eq_true rfl) (fun H hI hz9 hk9 => ?_)
  generalize (if 0 < L then xs 0 else 0) = c0
  refine lv_istore_n (lv' := [(2, .int (c0)), (1, .ref B), (0, .ref b)]) hx hb9 dV_13 rfl hl (by decide) rfl (fun sl hl => ?_)
  refine lv_iconst (v := nI 1) hx hb9 dV_14 (by decide) ?_
  refine lv_iload_n hx hb9 dV_15 rfl (lv_at hl 0 rfl) ?_
  refine lv_bipush (v := nI 24) hx hb9 dV_16 (by decide) ?_
  refine lv_iushr (v := (((c0)).toUInt32 >>> (((nI 24)).toUInt32 &&& Int32.toUInt32 31)).toInt32) hx hb9 dV_18 rfl ?_
  refine lv_iconst (v := nI 3) hx hb9 dV_19 (by decide) ?_
  refine lv_iand hx hb9 dV_20 ?_
  obtain ⟨a, ha, ea⟩ := pk_andE (((c0).toUInt32 >>> ((nI 24).toUInt32 &&& Int32.toUInt32 31)).toInt32) (m := nI 3) 2 (by decide)
  refine j_top (show (((((c0)).toUInt32 >>> (((nI 24)).toUInt32 &&& Int32.toUInt32 31)).toInt32) &&& (nI 3)) = nI a from ea) ?_
  refine lv_iadd hx hb9 dV_21 ?_
  refine j_top (show ((nI 1) + (nI a)) = nI (1 + a) from nI_add _ _) ?_
  refine lv_istore_n (lv' := [(3, .int (nI (1 + a))), (2, .int (c0)), (1, .ref B), (0, .ref b)]) hx hb9 dV_22 rfl hl (by decide) rfl (fun sl hl => ?_)
  refine law_newB C hI dV_23 (Nat.le_of_ble_eq_true rfl) (Nat.le_of_ble_eq_true rfl) (fun b0 H1 hI1 hz1 hP1 hD1 => ?_)
  have hle : B + ts_NN ≤ H.size := hI.1.le (by have := hI.2.1; omega)
  refine lv_dup hx hb9 dV_26 rfl ?_
  refine va_ldcS hx hb9 hown (hSt 0 (by decide)).2 dV_27 ?_
  refine law_initS C hI1 hle hz1 hP1 hD1 hl.1 (Nat.le_of_ble_eq_true rfl) dV_29 (Nat.le_of_ble_eq_true rfl) (Nat.le_of_ble_eq_true rfl) (fun H hI hb => ?_)
  refine lv_astore (lv' := [(4, .ref b0), (3, .int (nI (1 + a))), (2, .int (c0)), (1, .ref B), (0, .ref b)]) hx hb9 dV_32 hl (by decide) rfl (fun sl hl => ?_)
  refine lv_iconst (v := nI 0) hx hb9 dV_34 (by decide) ?_
  refine lv_istore (lv' := [(5, .int (nI 0)), (4, .ref b0), (3, .int (nI (1 + a))), (2, .int (c0)), (1, .ref B), (0, .ref b)]) hx hb9 dV_35 hl (by decide) rfl (fun sl hl => ?_)
  refine ring_round C hI (tr := 1 + a) (c0 := c0) (k := 0) (by decide) (t := [48, 49, 50, 51, 48, 49, 124]) hb rfl (lv_sub hl [0, 1, 2, 3, 4, 5] rfl) (Nat.le_of_ble_eq_true rfl) (Nat.le_of_ble_eq_true rfl) (fun a0 H sl t1 ha0 e1 n1 hI hb hl => ?_)
  have n1 : t1.length = 13 := by rw [n1]; rfl
  refine ring_round C hI (k := 1) (by decide) hb n1 hl (Nat.le_of_ble_eq_true rfl) (Nat.le_of_ble_eq_true rfl) (fun a1 H sl t2 ha1 e2 n2 hI hb hl => ?_)
  have n2 : t2.length = 19 := by rw [n2, n1]; rfl
  refine ring_round C hI (k := 2) (by decide) hb n2 hl (Nat.le_of_ble_eq_true rfl) (Nat.le_of_ble_eq_true rfl) (fun a2 H sl t3 ha2 e3 n3 hI hb hl => ?_)
  have n3 : t3.length = 25 := by rw [n3, n2]; rfl
  refine ring_round C hI (k := 3) (by decide) hb n3 hl (Nat.le_of_ble_eq_true rfl) (Nat.le_of_ble_eq_true rfl) (fun a3 H sl t4 ha3 e4 n4 hI hb hl => ?_)
  have n4 : t4.length = 31 := by rw [n4, n3]; rfl
  refine ring_round C hI (k := 4) (by decide) hb n4 hl (Nat.le_of_ble_eq_true rfl) (Nat.le_of_ble_eq_true rfl) (fun a4 H sl t5 ha4 e5 n5 hI hb hl => ?_)
  have n5 : t5.length = 37 := by rw [n5, n4]; rfl
  refine ring_round C hI (k := 5) (by decide) hb n5 hl (Nat.le_of_ble_eq_true rfl) (Nat.le_of_ble_eq_true rfl) (fun a5 H sl t6 ha5 e6 n6 hI hb hl => ?_)
  have n6 : t6.length = 49 := by rw [n6, n5]; rfl
  have et : t6 = [48, 49, 50, 51, 48, 49, 124] ++ rP 0 a0 ++ rP 1 a1 ++ rP 2 a2 ++ rP 3 a3 ++ rP 4 a4 ++ rP 5 a5 := by rw [e6, e5, e4, e3, e2, e1]
  have htc : ∀ x ∈ t6, x < 128 := by
    rw [et]
    intro x hx9
    rcases List.mem_append.mp hx9 with hx9 | h9
    · rcases List.mem_append.mp hx9 with hx9 | h9
      · rcases List.mem_append.mp hx9 with hx9 | h9
        · rcases List.mem_append.mp hx9 with hx9 | h9
          · rcases List.mem_append.mp hx9 with hx9 | h9
            · rcases List.mem_append.mp hx9 with hx9 | h9
              · simp only [List.mem_cons, List.not_mem_nil, or_false] at hx9
                omega
              · exact rP_lt (by decide) ha0 x h9
            · exact rP_lt (by decide) ha1 x h9
          · exact rP_lt (by decide) ha2 x h9
        · exact rP_lt (by decide) ha3 x h9
      · exact rP_lt (by decide) ha4 x h9
    · exact rP_lt (by decide) ha5 x h9
  refine ring_end C hI (S := S00) rfl hcp hb n6 htc hl (Nat.le_of_ble_eq_true rfl) (Nat.le_of_ble_eq_true rfl) (fun d1 d2 H sl u' tx vs' hd1 hd2 hI hcp htx hl => ?_)
  rw [et, ring_text] at hcp htx
  obtain ⟨Hh, cc, dd, hx9, hH⟩ := nt_ring (tx := tx) (tk := _) (h := fun k => match k with | 0 => 1 + a0 | 1 => 1 + a1 | 2 => 1 + a2 | 3 => 1 + a3 | 4 => 1 + a4 | _ => 1 + a5) (d1 := d1) (d2 := d2) (fun j hj => by
    unfold sg
    rw [if_pos (by omega), Nat.zero_add]
    exact htx j hj) rfl (fun k hk => by rcases (show k = 0 ∨ k = 1 ∨ k = 2 ∨ k = 3 ∨ k = 4 ∨ k = 5 by omega) with rfl | rfl | rfl | rfl | rfl | rfl <;> exact ⟨by simp, by simp; omega⟩) hd1 hd2
  obtain ⟨hLr, h0⟩ := has_Lr (B := B) (ls := [none, some (.inr (.inr (some 0))), some (.inl c0), some (.inl (nI (1 + a))), none, none, none, none, none, none, none, none, none, none, none, none, none, none, none, none, none, none, none, none, none, none, none, none]) (lv_sub hl [5, 4, 3, 2] rfl)
  refine W.widen (k := 1000) (n := 110000) (Nat.le_of_ble_eq_true rfl) (Nat.le_of_ble_eq_true rfl) ?_
  refine law_seg (st := []) C (S := SA) (P := fun pc ls st u' => pc = 198 ∧ st = [] ∧ ∃ (S : ST) (vs : List Int32), lwT (6, 2, Hh, cc, dd) 0 S ∧ cP 0 S vs u' ∧ w253 none c0 (nI (1 + a)) (0 : Int32) ls) (fun pc h => stop_ok h) (seg_A hcp hx9 none none none none none none none none none none none none none none none none none none none none none none none none (fun S vs ls m h1 h2 h3 => kQ_of ⟨rfl, rfl, S, vs, h1, h2, h3⟩)) hI hLr h0 (Nat.le_of_ble_eq_true rfl) (Nat.le_of_ble_eq_true rfl) (fun pc ls st u' H sl hp hI hLr h0 _ _ => ?_)
  obtain ⟨rfl, rfl, S, vs, h1, h2, h3⟩ := hp
  exact kk c0 (1 + a) Hh cc dd S vs ls u' H sl (by omega) (by omega) hH h1 h2 h3 hLr h0 hI
end TOLD

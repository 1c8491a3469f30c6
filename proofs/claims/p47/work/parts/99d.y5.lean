/-! ===== the ring, told: the walk ===== -/
theorem dV_8 : decode code 8 = .ok (.aload_n 0, 1) := by decide +kernel
theorem dV_9 : decode code 9 = .ok (.iconst 0, 1) := by decide +kernel
theorem dV_10 : decode code 10 = .ok (.invokestatic 74, 3) := by decide +kernel
theorem dV_13 : decode code 13 = .ok (.istore_n 2, 1) := by decide +kernel
theorem dV_14 : decode code 14 = .ok (.iconst 1, 1) := by decide +kernel
theorem dV_15 : decode code 15 = .ok (.iload_n 2, 1) := by decide +kernel
theorem dV_16 : decode code 16 = .ok (.bipush 24, 2) := by decide +kernel
theorem dV_18 : decode code 18 = .ok (.iushr, 1) := by decide +kernel
theorem dV_19 : decode code 19 = .ok (.iconst 3, 1) := by decide +kernel
theorem dV_20 : decode code 20 = .ok (.iand, 1) := by decide +kernel
theorem dV_21 : decode code 21 = .ok (.iadd, 1) := by decide +kernel
theorem dV_22 : decode code 22 = .ok (.istore_n 3, 1) := by decide +kernel
theorem dV_23 : decode code 23 = .ok (.new 80, 3) := by decide +kernel
theorem dV_26 : decode code 26 = .ok (.dup, 1) := by decide +kernel
theorem dV_27 : decode code 27 = .ok (.ldc 82, 2) := by decide +kernel
theorem dV_29 : decode code 29 = .ok (.invokespecial 84, 3) := by decide +kernel
theorem dV_32 : decode code 32 = .ok (.astore 4, 2) := by decide +kernel
theorem dV_34 : decode code 34 = .ok (.iconst 0, 1) := by decide +kernel
theorem dV_35 : decode code 35 = .ok (.istore 5, 2) := by decide +kernel
theorem dV_37 : decode code 37 = .ok (.iload 5, 2) := by decide +kernel
theorem dV_39 : decode code 39 = .ok (.bipush 6, 2) := by decide +kernel
theorem dV_41 : decode code 41 = .ok (.if_icmp .ge 82, 3) := by decide +kernel
theorem dV_44 : decode code 44 = .ok (.aload 4, 2) := by decide +kernel
theorem dV_46 : decode code 46 = .ok (.iload 5, 2) := by decide +kernel
theorem dV_48 : decode code 48 = .ok (.iload 5, 2) := by decide +kernel
theorem dV_50 : decode code 50 = .ok (.iconst 1, 1) := by decide +kernel
theorem dV_51 : decode code 51 = .ok (.iadd, 1) := by decide +kernel
theorem dV_52 : decode code 52 = .ok (.bipush 6, 2) := by decide +kernel
theorem dV_54 : decode code 54 = .ok (.irem, 1) := by decide +kernel
theorem dV_55 : decode code 55 = .ok (.invokestatic 87, 3) := by decide +kernel
theorem dV_58 : decode code 58 = .ok (.invokevirtual 92, 3) := by decide +kernel
theorem dV_61 : decode code 61 = .ok (.ldc 96, 2) := by decide +kernel
theorem dV_63 : decode code 63 = .ok (.invokevirtual 98, 3) := by decide +kernel
theorem dV_66 : decode code 66 = .ok (.iload 5, 2) := by decide +kernel
theorem dV_68 : decode code 68 = .ok (.iload 5, 2) := by decide +kernel
theorem dV_70 : decode code 70 = .ok (.iconst 1, 1) := by decide +kernel
theorem dV_71 : decode code 71 = .ok (.iadd, 1) := by decide +kernel
theorem dV_72 : decode code 72 = .ok (.bipush 6, 2) := by decide +kernel
theorem dV_74 : decode code 74 = .ok (.irem, 1) := by decide +kernel
theorem dV_75 : decode code 75 = .ok (.invokestatic 101, 3) := by decide +kernel
theorem dV_78 : decode code 78 = .ok (.invokevirtual 92, 3) := by decide +kernel
theorem dV_81 : decode code 81 = .ok (.ldc 104, 2) := by decide +kernel
theorem dV_83 : decode code 83 = .ok (.invokevirtual 98, 3) := by decide +kernel
theorem dV_86 : decode code 86 = .ok (.iconst 1, 1) := by decide +kernel
theorem dV_87 : decode code 87 = .ok (.iload_n 2, 1) := by decide +kernel
theorem dV_88 : decode code 88 = .ok (.iconst 3, 1) := by decide +kernel
theorem dV_89 : decode code 89 = .ok (.iload 5, 2) := by decide +kernel
theorem dV_91 : decode code 91 = .ok (.imul, 1) := by decide +kernel
theorem dV_92 : decode code 92 = .ok (.iushr, 1) := by decide +kernel
theorem dV_93 : decode code 93 = .ok (.bipush 7, 2) := by decide +kernel
theorem dV_95 : decode code 95 = .ok (.iand, 1) := by decide +kernel
theorem dV_96 : decode code 96 = .ok (.iadd, 1) := by decide +kernel
theorem dV_97 : decode code 97 = .ok (.invokevirtual 92, 3) := by decide +kernel
theorem dV_100 : decode code 100 = .ok (.iload 5, 2) := by decide +kernel
theorem dV_102 : decode code 102 = .ok (.iconst 5, 1) := by decide +kernel
theorem dV_103 : decode code 103 = .ok (.if_icmp .ge 8, 3) := by decide +kernel
theorem dV_106 : decode code 106 = .ok (.ldc 106, 2) := by decide +kernel
theorem dV_108 : decode code 108 = .ok (.goto 5, 3) := by decide +kernel
theorem dV_111 : decode code 111 = .ok (.ldc 108, 2) := by decide +kernel
theorem dV_113 : decode code 113 = .ok (.invokevirtual 98, 3) := by decide +kernel
theorem dV_116 : decode code 116 = .ok (.pop, 1) := by decide +kernel
theorem dV_117 : decode code 117 = .ok (.iinc 5 1, 3) := by decide +kernel
theorem dV_120 : decode code 120 = .ok (.goto (-83), 3) := by decide +kernel
theorem dV_123 : decode code 123 = .ok (.aload 4, 2) := by decide +kernel
theorem dV_125 : decode code 125 = .ok (.iconst 1, 1) := by decide +kernel
theorem dV_126 : decode code 126 = .ok (.iload_n 2, 1) := by decide +kernel
theorem dV_127 : decode code 127 = .ok (.bipush 18, 2) := by decide +kernel
theorem dV_129 : decode code 129 = .ok (.iushr, 1) := by decide +kernel
theorem dV_130 : decode code 130 = .ok (.bipush 15, 2) := by decide +kernel
theorem dV_132 : decode code 132 = .ok (.iand, 1) := by decide +kernel
theorem dV_133 : decode code 133 = .ok (.iadd, 1) := by decide +kernel
theorem dV_134 : decode code 134 = .ok (.invokevirtual 92, 3) := by decide +kernel
theorem dV_137 : decode code 137 = .ok (.ldc 106, 2) := by decide +kernel
theorem dV_139 : decode code 139 = .ok (.invokevirtual 98, 3) := by decide +kernel
theorem dV_142 : decode code 142 = .ok (.bipush 20, 2) := by decide +kernel
theorem dV_144 : decode code 144 = .ok (.iload_n 2, 1) := by decide +kernel
theorem dV_145 : decode code 145 = .ok (.bipush 22, 2) := by decide +kernel
theorem dV_147 : decode code 147 = .ok (.iushr, 1) := by decide +kernel
theorem dV_148 : decode code 148 = .ok (.bipush 15, 2) := by decide +kernel
theorem dV_150 : decode code 150 = .ok (.iand, 1) := by decide +kernel
theorem dV_151 : decode code 151 = .ok (.iadd, 1) := by decide +kernel
theorem dV_152 : decode code 152 = .ok (.invokevirtual 92, 3) := by decide +kernel
theorem dV_155 : decode code 155 = .ok (.pop, 1) := by decide +kernel
theorem dV_156 : decode code 156 = .ok (.aload_n 1, 1) := by decide +kernel
theorem dV_157 : decode code 157 = .ok (.aload 4, 2) := by decide +kernel
theorem dV_159 : decode code 159 = .ok (.invokevirtual 110, 3) := by decide +kernel
theorem dV_162 : decode code 162 = .ok (.invokestatic 114, 3) := by decide +kernel
/-- the room of the ring's text: 23, then 48, then 98 -/
def capR (q : Nat) : Nat := if q ≤ 23 then 23 else if q ≤ 48 then 48 else 98
theorem capR_j {q q' : Nat} (h1 : q ≤ q') (h2 : q' ≤ q + 10) (h3 : q' ≤ 60) : jcap (capR q) q' = capR q' := by
  unfold jcap capR
  by_cases c1 : q ≤ 23
  · rw [if_pos c1]
    by_cases c2 : q' ≤ 23
    · rw [if_pos c2, if_pos c2]
    · rw [if_neg c2, if_neg c2, if_pos (by omega)]; omega
  · rw [if_neg c1, if_neg (show ¬ q' ≤ 23 by omega)]
    by_cases c3 : q ≤ 48
    · rw [if_pos c3]
      by_cases c4 : q' ≤ 48
      · rw [if_pos c4, if_pos c4]
      · rw [if_neg c4, if_neg c4]; omega
    · rw [if_neg c3, if_pos (by omega), if_neg (by omega)]
theorem dgL_1 {v : Nat} (h : v < 10) : dgL v = [48 + v] := by
  unfold dgL
  rw [if_neg (by omega), if_neg (by omega), Nat.mod_eq_of_lt h]
  rfl
theorem dgL_2 {v : Nat} (h : v < 100) : (dgL v).length = if 10 ≤ v then 2 else 1 := by
  unfold dgL
  rw [if_neg (by omega)]
  by_cases c : 10 ≤ v
  · rw [if_pos c, if_pos c]; rfl
  · rw [if_neg c, if_neg c]; rfl
theorem dgL_lt {v : Nat} (h : v < 100) : ∀ x ∈ dgL v, x < 128 := by
  intro x hx
  unfold dgL at hx
  rw [if_neg (by omega)] at hx
  by_cases c : 10 ≤ v
  · rw [if_pos c] at hx
    simp only [List.nil_append, List.cons_append, List.mem_cons, List.not_mem_nil, or_false] at hx
    omega
  · rw [if_neg c] at hx
    simp only [List.nil_append, List.mem_cons, List.not_mem_nil, or_false] at hx
    omega
/-- what a round tells -/
def rP (k a : Nat) : List Nat := [48 + min k ((k + 1) % 6), 45, 48 + max k ((k + 1) % 6), 58, 48 + (1 + a)] ++ yTx.getD (if k < 5 then 3 else 4) []
section RING
variable {p : Program} {l : Launch} {e : Env} {s : State} {m : MethodId} {below : List Frame} {meth : Method} {c : Code} {b L : Nat} {xs : Nat → Int32} {D D' : va_G} {B : Nat} {cA : Nat → ClassId} {cb : ClassId} {ad : Nat → Nat} {u : lt_m} {H : Heap} {sl : Array Slot} {rest : List Value} {pc cells slots z b0 m0 : Nat} {t : List Nat} {Q : State → Prop}
theorem law_appR (C : LC p s m meth c b L xs D D' B cA cb ad) (hI : LI s D B cA H u) (hb : BL D' cb B z b0 (capR t.length) t H) {i : Nat} (hi : i < 6) (hlen : t.length + (yTx.getD i []).length ≤ 60) (hd : (yTx.getD i []).length ≤ 10) (hsz : sl.size = 28) (hcat : (rest.map fun v => v.category).sum ≤ 8) (hdec : decode code pc = .ok (.invokevirtual 98, 3)) (hc : cells + 1 ≤ 600130) (hz : slots + 122 ≤ 7301080)
    (kk : ∀ (H1 : Heap) (t' : List Nat), t' = t ++ yTx.getD i [] → t'.length = t.length + (yTx.getD i []).length → LI s D B cA H1 u → BL D' cb B z b0 (capR t'.length) t' H1 → W p l e room_1 s m #[Value.ref b] below meth c H1 [] (cells + 1) (slots + 122) Q (F0 m (pc + 3) sl (.ref b0 :: rest))) :
    W p l e room_1 s m #[Value.ref b] below meth c H [] cells slots Q (F0 m pc sl (.ref (ad i) :: .ref b0 :: rest)) := by
  refine law_app C hI hb hi hlen hsz hcat hdec hc hz (fun H1 hI1 hb1 => ?_)
  have e1 : (t ++ yTx.getD i []).length = t.length + (yTx.getD i []).length := List.length_append
  refine kk H1 _ rfl e1 hI1 ?_
  rw [e1]
  rwa [capR_j (Nat.le_add_right _ _) (by omega) hlen] at hb1
theorem law_numR (C : LC p s m meth c b L xs D D' B cA cb ad) (hI : LI s D B cA H u) (hb : BL D' cb B z b0 (capR t.length) t H) {x0 : Nat} (hv : x0 < 100) (hlen : t.length + 2 ≤ 60) (hsz : sl.size = 28) (hcat : (rest.map fun v => v.category).sum ≤ 8) (hdec : decode code pc = .ok (.invokevirtual 92, 3)) (hc : cells + 1 ≤ 600130) (hz : slots + 122 ≤ 7301080)
    (kk : ∀ (H1 : Heap) (t' : List Nat), t' = t ++ dgL x0 → t'.length = t.length + (if 10 ≤ x0 then 2 else 1) → LI s D B cA H1 u → BL D' cb B z b0 (capR t'.length) t' H1 → W p l e room_1 s m #[Value.ref b] below meth c H1 [] (cells + 1) (slots + 122) Q (F0 m (pc + 3) sl (.ref b0 :: rest))) :
    W p l e room_1 s m #[Value.ref b] below meth c H [] cells slots Q (F0 m pc sl (.int (nI x0) :: .ref b0 :: rest)) := by
  refine law_num C hI hb hv hlen hsz hcat hdec hc hz (fun H1 hI1 hb1 => ?_)
  have e1 : (t ++ dgL x0).length = t.length + (dgL x0).length := List.length_append
  have e2 := dgL_2 hv
  refine kk H1 _ rfl (by rw [e1, e2]) hI1 ?_
  have e3 : (dgL x0).length ≤ 2 := by rw [e2]; split <;> omega
  rw [e1]
  rwa [capR_j (Nat.le_add_right _ _) (by omega) (by omega)] at hb1
theorem ring_round (C : LC p s m meth c b L xs D D' B cA cb ad) (hI : LI s D B cA H u) {k tr : Nat} {c0 : Int32} (hk : k < 6) (hb : BL D' cb B z b0 (capR t.length) t H) (htl : t.length = 7 + 6 * k) (hl : lv_has sl 28 [(5, .int (nI (k))), (4, .ref b0), (3, .int (nI tr)), (2, .int c0), (1, .ref B), (0, .ref b)]) (hc : cells + 6 ≤ 600130) (hz : slots + 732 ≤ 7301080)
    (kk : ∀ (a : Nat) (H1 : Heap) (sl1 : Array Slot) (t' : List Nat), a < 8 → t' = t ++ rP k a → t'.length = t.length + (if k < 5 then 6 else 12) → LI s D B cA H1 u → BL D' cb B z b0 (capR t'.length) t' H1 → lv_has sl1 28 [(5, .int (nI (k + 1))), (4, .ref b0), (3, .int (nI tr)), (2, .int c0), (1, .ref B), (0, .ref b)] → W p l e room_1 s m #[Value.ref b] below meth c H1 [] (cells + 6) (slots + 732) Q (F0 m 37 sl1 [])) : W p l e room_1 s m #[Value.ref b] below meth c H [] cells slots Q (F0 m 37 sl []) := by
  obtain ⟨⟨⟨hx, hb9, hml, hown, -⟩, hts, hK', hRf, hRl⟩, hF, hB, hX, hbl, hL, hZ, hSt⟩ := id C
  have hm6 : (k + 1) % 6 < 6 := Nat.mod_lt _ (by decide)
  have hmn : min k ((k + 1) % 6) < 10 := by omega
  have hmx : max k ((k + 1) % 6) < 10 := by omega
  have hy1 : (yTx.getD 1 []).length = 1 := rfl
  have hy2 : (yTx.getD 2 []).length = 1 := rfl
  have hy3 : (yTx.getD 3 []).length = 1 := rfl
  have hy4 : (yTx.getD 4 []).length = 7 := rfl
  refine lv_iload hx hb9 dV_37 (lv_at hl 0 rfl) ?_
  refine lv_bipush (v := nI 6) hx hb9 dV_39 (by decide) ?_
  refine lv_icmp_ge (tgt := 123) hx hb9 dV_41 (by decide) (fun q9 => absurd q9 (by rw [sp_len (by omega) (by omega)]; omega)) (fun _ => ?_)
  refine lv_aload hx hb9 dV_44 (lv_at hl 1 rfl) ?_
  refine lv_iload hx hb9 dV_46 (lv_at hl 0 rfl) ?_
  refine lv_iload hx hb9 dV_48 (lv_at hl 0 rfl) ?_
  refine lv_iconst (v := nI 1) hx hb9 dV_50 (by decide) ?_
  refine lv_iadd hx hb9 dV_51 ?_
  refine j_top (show ((nI (k)) + (nI 1)) = nI (k + 1) from nI_add _ _) ?_
  refine lv_bipush (v := nI 6) hx hb9 dV_52 (by decide) ?_
  refine lv_irem hx hb9 dV_54 (by decide) ?_
  refine j_top (show ((nI (k + 1)) - (nI (k + 1)) / (nI 6) * (nI 6)) = nI ((k + 1) % 6) from pk_rem (by omega) (by decide) (by decide)) ?_
  refine va_mmin hx hb9 (hml.trans hl.1.symm) hown (hts _ jg_1098) (hts _ jg_346) (hts _ jg_36) (hts _ jg_347) (by decide) (Nat.le_of_ble_eq_true rfl) (by show _ ≤ 600130; omega) (by show _ ≤ 7301080; omega) dV_55 ?_
  refine j_top (show (if nI ((k + 1) % 6) < nI (k) then nI ((k + 1) % 6) else nI (k)) = nI (min (k) ((k + 1) % 6)) from j_min (by omega) (by omega)) ?_
  refine law_numR C hI hb (x0 := min k ((k + 1) % 6)) (by omega) (by omega) hl.1 (Nat.le_of_ble_eq_true rfl) dV_58 (by omega) (by omega) (fun H t1 et1 nt1 hI hb => ?_)
  rw [if_neg (by omega)] at nt1
  refine va_ldcS hx hb9 hown (hSt 1 (by decide)).2 dV_61 ?_
  refine law_appR C hI hb (i := 1) (by decide) (by omega) (by omega) hl.1 (Nat.le_of_ble_eq_true rfl) dV_63 (by omega) (by omega) (fun H t2 et2 nt2 hI hb => ?_)
  refine lv_iload hx hb9 dV_66 (lv_at hl 0 rfl) ?_
  refine lv_iload hx hb9 dV_68 (lv_at hl 0 rfl) ?_
  refine lv_iconst (v := nI 1) hx hb9 dV_70 (by decide) ?_
  refine lv_iadd hx hb9 dV_71 ?_
  refine j_top (show ((nI (k)) + (nI 1)) = nI (k + 1) from nI_add _ _) ?_
  refine lv_bipush (v := nI 6) hx hb9 dV_72 (by decide) ?_
  refine lv_irem hx hb9 dV_74 (by decide) ?_
  refine j_top (show ((nI (k + 1)) - (nI (k + 1)) / (nI 6) * (nI 6)) = nI ((k + 1) % 6) from pk_rem (by omega) (by decide) (by decide)) ?_
  refine va_mmax hx hb9 (hml.trans hl.1.symm) hown (hts _ jg_1097) (hts _ jg_1087) (hts _ jg_36) (hts _ jg_1088) (by decide) (Nat.le_of_ble_eq_true rfl) (by show _ ≤ 600130; omega) (by show _ ≤ 7301080; omega) dV_75 ?_
  refine j_top (show (if nI (k) < nI ((k + 1) % 6) then nI ((k + 1) % 6) else nI (k)) = nI (max (k) ((k + 1) % 6)) from j_max (by omega) (by omega)) ?_
  refine law_numR C hI hb (x0 := max k ((k + 1) % 6)) (by omega) (by omega) hl.1 (Nat.le_of_ble_eq_true rfl) dV_78 (by omega) (by omega) (fun H t3 et3 nt3 hI hb => ?_)
  rw [if_neg (by omega)] at nt3
  refine va_ldcS hx hb9 hown (hSt 2 (by decide)).2 dV_81 ?_
  refine law_appR C hI hb (i := 2) (by decide) (by omega) (by omega) hl.1 (Nat.le_of_ble_eq_true rfl) dV_83 (by omega) (by omega) (fun H t4 et4 nt4 hI hb => ?_)
  refine lv_iconst (v := nI 1) hx hb9 dV_86 (by decide) ?_
  refine lv_iload_n hx hb9 dV_87 rfl (lv_at hl 3 rfl) ?_
  refine lv_iconst (v := nI 3) hx hb9 dV_88 (by decide) ?_
  refine lv_iload hx hb9 dV_89 (lv_at hl 0 rfl) ?_
  refine lv_imul hx hb9 dV_91 ?_
  refine lv_iushr (v := ((c0).toUInt32 >>> ((((nI 3) * (nI (k)))).toUInt32 &&& Int32.toUInt32 31)).toInt32) hx hb9 dV_92 rfl ?_
  refine lv_bipush (v := nI 7) hx hb9 dV_93 (by decide) ?_
  refine lv_iand hx hb9 dV_95 ?_
  obtain ⟨a, ha, ea⟩ := pk_andE (((c0).toUInt32 >>> ((nI 3 * nI k).toUInt32 &&& Int32.toUInt32 31)).toInt32) (m := nI 7) 3 (by decide)
  refine j_top (show ((((c0).toUInt32 >>> ((((nI 3) * (nI (k)))).toUInt32 &&& Int32.toUInt32 31)).toInt32) &&& (nI 7)) = nI a from ea) ?_
  refine lv_iadd hx hb9 dV_96 ?_
  refine j_top (show ((nI 1) + (nI a)) = nI (1 + a) from nI_add _ _) ?_
  refine law_numR C hI hb (x0 := 1 + a) (by omega) (by omega) hl.1 (Nat.le_of_ble_eq_true rfl) dV_97 (by omega) (by omega) (fun H t5 et5 nt5 hI hb => ?_)
  rw [if_neg (by omega)] at nt5
  refine lv_iload hx hb9 dV_100 (lv_at hl 0 rfl) ?_
  refine lv_iconst (v := nI 5) hx hb9 dV_102 (by decide) ?_
  have fin : ∀ (i : Nat) (H : Heap) (t6 : List Nat), i = (if k < 5 then 3 else 4) → t6 = t5 ++ yTx.getD i [] → t6.length = t5.length + (yTx.getD i []).length → LI s D B cA H u → BL D' cb B z b0 (capR t6.length) t6 H → W p l e room_1 s m #[Value.ref b] below meth c H [] (cells + 1 + 1 + 1 + 1 + 1 + 1) (slots + 122 + 122 + 122 + 122 + 122 + 122) Q (F0 m 116 sl [.ref b0]) := by
    intro i H t6 ei et6 nt6 hI hb
    refine lv_pop hx hb9 dV_116 rfl ?_
    refine lv_iinc (k := 0) (lv' := [(5, .int (nI (k + 1))), (4, .ref b0), (3, .int (nI tr)), (2, .int c0), (1, .ref B), (0, .ref b)]) hx hb9 dV_117 hl rfl (nI_succ k).symm (by decide) rfl (fun sl hl => ?_)
    refine lv_goto (tgt := 37) hx hb9 dV_120 (by decide) ?_
    refine W.widen (k := cells + 6) (n := slots + 732) (by omega) (by omega) ?_
    have el : (yTx.getD i []).length = if k < 5 then 1 else 7 := by subst ei; split <;> rfl
    refine kk a H _ t6 ha ?_ ?_ hI hb (lv_sub hl [0, 1, 2, 3, 4, 5] rfl)
    · rw [et6, et5, et4, et3, et2, et1, dgL_1 (by omega), dgL_1 (by omega), dgL_1 (by omega), ei]
      unfold rP
      simp [yTx, List.append_assoc]
    · rw [nt6, nt5, nt4, nt3, nt2, nt1, el, hy1, hy2]; split <;> omega
  by_cases hk5 : k < 5
  · skip
    refine lv_icmp_ge (tgt := 111) hx hb9 dV_103 (by decide) (fun q9 => absurd q9 (by rw [sp_len (by omega) (by omega)]; omega)) (fun _ => ?_)
    refine va_ldcS hx hb9 hown (hSt 3 (by decide)).2 dV_106 ?_
    refine lv_goto (tgt := 113) hx hb9 dV_108 (by decide) ?_
    refine law_appR C hI hb (i := 3) (by decide) (by omega) (by omega) hl.1 (Nat.le_of_ble_eq_true rfl) dV_113 (by omega) (by omega) (fun H t6 et6 nt6 hI hb => ?_)
    exact fin 3 H t6 (if_pos hk5).symm et6 nt6 hI hb
  · skip
    refine lv_icmp_ge (tgt := 111) hx hb9 dV_103 (by decide) (fun _ => ?_) (fun q9 => absurd (by rw [sp_len (by omega) (by omega)]; omega) q9)
    refine va_ldcS hx hb9 hown (hSt 4 (by decide)).2 dV_111 ?_
    refine law_appR C hI hb (i := 4) (by decide) (by omega) (by omega) hl.1 (Nat.le_of_ble_eq_true rfl) dV_113 (by omega) (by omega) (fun H t6 et6 nt6 hI hb => ?_)
    exact fin 4 H t6 (if_neg hk5).symm et6 nt6 hI hb
theorem ring_end (C : LC p s m meth c b L xs D D' B cA cb ad) (hI : LI s D B cA H u) {tr T : Nat} {c0 : Int32} {S : ST} {vs : List Int32} (h0 : S.tk = 0) (hcp : cP T S vs u) (hb : BL D' cb B z b0 (capR t.length) t H) (htl : t.length = 49) (htc : ∀ x ∈ t, x < 128) (hl : lv_has sl 28 [(5, .int (nI (6))), (4, .ref b0), (3, .int (nI tr)), (2, .int c0), (1, .ref B), (0, .ref b)]) (hc : cells + 5 ≤ 600130) (hz : slots + 496 ≤ 7301080)
    (kk : ∀ (d1 d2 : Nat) (H1 : Heap) (sl1 : Array Slot) (u' : lt_m) (tx : Nat → Nat) (vs' : List Int32), 1 ≤ d1 ∧ d1 ≤ 99 → 10 ≤ d2 ∧ d2 ≤ 99 → LI s D B cA H1 u' → cP T (told S tx (t ++ (dgL d1 ++ ([44] ++ dgL d2))).length) vs' u' → (∀ j, j < (t ++ (dgL d1 ++ ([44] ++ dgL d2))).length → tx j = (t ++ (dgL d1 ++ ([44] ++ dgL d2))).getD j 0) → lv_has sl1 28 [(5, .int (nI (6))), (4, .ref b0), (3, .int (nI tr)), (2, .int c0), (1, .ref B), (0, .ref b)] → W p l e room_1 s m #[Value.ref b] below meth c H1 [] (cells + 5) (slots + 496) Q (F0 m 165 sl1 [])) : W p l e room_1 s m #[Value.ref b] below meth c H [] cells slots Q (F0 m 37 sl []) := by
  obtain ⟨⟨⟨hx, hb9, hml, hown, -⟩, hts, hK', hRf, hRl⟩, hF, hB, hX, hbl, hL, hZ, hSt⟩ := id C
  have hy3 : (yTx.getD 3 []).length = 1 := rfl
  refine lv_iload hx hb9 dV_37 (lv_at hl 0 rfl) ?_
  refine lv_bipush (v := nI 6) hx hb9 dV_39 (by decide) ?_
  refine lv_icmp_ge (tgt := 123) hx hb9 dV_41 (by decide) (fun _ => ?_) (fun q9 => absurd (by decide) q9)
  refine lv_aload hx hb9 dV_123 (lv_at hl 1 rfl) ?_
  refine lv_iconst (v := nI 1) hx hb9 dV_125 (by decide) ?_
  refine lv_iload_n hx hb9 dV_126 rfl (lv_at hl 3 rfl) ?_
  refine lv_bipush (v := nI 18) hx hb9 dV_127 (by decide) ?_
  refine lv_iushr (v := ((c0).toUInt32 >>> (((nI 18)).toUInt32 &&& Int32.toUInt32 31)).toInt32) hx hb9 dV_129 rfl ?_
  refine lv_bipush (v := nI 15) hx hb9 dV_130 (by decide) ?_
  refine lv_iand hx hb9 dV_132 ?_
  obtain ⟨a1, ha1, ea1⟩ := pk_andE (((c0).toUInt32 >>> ((nI 18).toUInt32 &&& Int32.toUInt32 31)).toInt32) (m := nI 15) 4 (by decide)
  refine j_top (show ((((c0).toUInt32 >>> (((nI 18)).toUInt32 &&& Int32.toUInt32 31)).toInt32) &&& (nI 15)) = nI a1 from ea1) ?_
  refine lv_iadd hx hb9 dV_133 ?_
  refine j_top (show ((nI 1) + (nI a1)) = nI (1 + a1) from nI_add _ _) ?_
  refine law_numR C hI hb (x0 := 1 + a1) (by omega) (by omega) hl.1 (Nat.le_of_ble_eq_true rfl) dV_134 (by omega) (by omega) (fun H t1 et1 nt1 hI hb => ?_)
  have n1 : t1.length ≤ t.length + 2 ∧ t.length + 1 ≤ t1.length := by rw [nt1]; split <;> omega
  refine va_ldcS hx hb9 hown (hSt 3 (by decide)).2 dV_137 ?_
  refine law_appR C hI hb (i := 3) (by decide) (by omega) (by omega) hl.1 (Nat.le_of_ble_eq_true rfl) dV_139 (by omega) (by omega) (fun H t2 et2 nt2 hI hb => ?_)
  refine lv_bipush (v := nI 20) hx hb9 dV_142 (by decide) ?_
  refine lv_iload_n hx hb9 dV_144 rfl (lv_at hl 3 rfl) ?_
  refine lv_bipush (v := nI 22) hx hb9 dV_145 (by decide) ?_
  refine lv_iushr (v := ((c0).toUInt32 >>> (((nI 22)).toUInt32 &&& Int32.toUInt32 31)).toInt32) hx hb9 dV_147 rfl ?_
  refine lv_bipush (v := nI 15) hx hb9 dV_148 (by decide) ?_
  refine lv_iand hx hb9 dV_150 ?_
  obtain ⟨a2, ha2, ea2⟩ := pk_andE (((c0).toUInt32 >>> ((nI 22).toUInt32 &&& Int32.toUInt32 31)).toInt32) (m := nI 15) 4 (by decide)
  refine j_top (show ((((c0).toUInt32 >>> (((nI 22)).toUInt32 &&& Int32.toUInt32 31)).toInt32) &&& (nI 15)) = nI a2 from ea2) ?_
  refine lv_iadd hx hb9 dV_151 ?_
  refine j_top (show ((nI 20) + (nI a2)) = nI (20 + a2) from nI_add _ _) ?_
  refine law_numR C hI hb (x0 := 20 + a2) (by omega) (by omega) hl.1 (Nat.le_of_ble_eq_true rfl) dV_152 (by omega) (by omega) (fun H t3 et3 nt3 hI hb => ?_)
  rw [if_pos (by omega)] at nt3
  refine lv_pop hx hb9 dV_155 rfl ?_
  refine lv_aload_n hx hb9 dV_156 rfl (lv_at hl 4 rfl) ?_
  refine lv_aload hx hb9 dV_157 (lv_at hl 1 rfl) ?_
  have hcap : t3.length < capR t3.length := by unfold capR; rw [if_neg (by omega), if_neg (by omega)]; omega
  refine law_toS C hI hb hcap (by omega) hl.1 (Nat.le_of_ble_eq_true rfl) dV_159 (by omega) (by omega) (fun h H hI hb hT => ?_)
  have e3 : t3 = t ++ (dgL (1 + a1) ++ ([44] ++ dgL (20 + a2))) := by rw [et3, et2, et1, List.append_assoc, List.append_assoc]; rfl
  refine law_say C hI hT h0 hcp (by omega) (getD_lt ?_) hl.1 (Nat.le_of_ble_eq_true rfl) dV_162 (by omega) (by omega) (fun H u' tx vs' hI hcp htx hz9 hk9 => ?_)
  · rw [e3]
    intro x hx9
    rcases List.mem_append.mp hx9 with h9 | h9
    · exact htc x h9
    rcases List.mem_append.mp h9 with h9 | h9
    · exact dgL_lt (by omega) x h9
    rcases List.mem_append.mp h9 with h9 | h9
    · rw [List.mem_singleton.mp h9]; decide
    · exact dgL_lt (by omega) x h9
  rw [e3] at hcp htx
  refine W.widen (k := cells + 5) (n := slots + 496) (by omega) (by omega) ?_
  exact kk (1 + a1) (20 + a2) H _ u' tx vs' ⟨by omega, by omega⟩ ⟨by omega, by omega⟩ hI hcp htx hl
end RING

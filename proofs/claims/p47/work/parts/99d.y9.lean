/-! ===== a route, told ===== -/
theorem dV_477 : decode code 477 = .ok (.new 80, 3) := by decide +kernel
theorem dV_480 : decode code 480 = .ok (.dup, 1) := by decide +kernel
theorem dV_481 : decode code 481 = .ok (.invokespecial 124, 3) := by decide +kernel
theorem dV_484 : decode code 484 = .ok (.astore 20, 2) := by decide +kernel
theorem dV_486 : decode code 486 = .ok (.iconst 0, 1) := by decide +kernel
theorem dV_487 : decode code 487 = .ok (.istore 21, 2) := by decide +kernel
theorem dV_489 : decode code 489 = .ok (.iload 21, 2) := by decide +kernel
theorem dV_491 : decode code 491 = .ok (.iload 16, 2) := by decide +kernel
theorem dV_493 : decode code 493 = .ok (.if_icmp .ge 41, 3) := by decide +kernel
theorem dV_496 : decode code 496 = .ok (.aload 20, 2) := by decide +kernel
theorem dV_498 : decode code 498 = .ok (.iload 21, 2) := by decide +kernel
theorem dV_500 : decode code 500 = .ok (.ifCond .le 8, 3) := by decide +kernel
theorem dV_503 : decode code 503 = .ok (.ldc 96, 2) := by decide +kernel
theorem dV_505 : decode code 505 = .ok (.goto 5, 3) := by decide +kernel
theorem dV_508 : decode code 508 = .ok (.ldc 125, 2) := by decide +kernel
theorem dV_510 : decode code 510 = .ok (.invokevirtual 98, 3) := by decide +kernel
theorem dV_513 : decode code 513 = .ok (.iload 15, 2) := by decide +kernel
theorem dV_515 : decode code 515 = .ok (.iload 17, 2) := by decide +kernel
theorem dV_517 : decode code 517 = .ok (.iload 21, 2) := by decide +kernel
theorem dV_519 : decode code 519 = .ok (.imul, 1) := by decide +kernel
theorem dV_520 : decode code 520 = .ok (.iadd, 1) := by decide +kernel
theorem dV_521 : decode code 521 = .ok (.bipush 6, 2) := by decide +kernel
theorem dV_523 : decode code 523 = .ok (.irem, 1) := by decide +kernel
theorem dV_524 : decode code 524 = .ok (.invokevirtual 92, 3) := by decide +kernel
theorem dV_527 : decode code 527 = .ok (.pop, 1) := by decide +kernel
theorem dV_528 : decode code 528 = .ok (.iinc 21 1, 3) := by decide +kernel
theorem dV_531 : decode code 531 = .ok (.goto (-42), 3) := by decide +kernel
def rtL (f st : Nat) : Nat → List Nat
  | 0 => []
  | x + 1 => rtL f st x ++ yTx.getD (if 0 < x then 1 else 5) [] ++ [48 + (f + st * x) % 6]
theorem rtL_len (f st : Nat) : ∀ x, (rtL f st x).length = 2 * x - 1 := by
  intro x
  induction x with
  | zero => rfl
  | succ x ih =>
    show (rtL f st x ++ yTx.getD (if 0 < x then 1 else 5) [] ++ [48 + (f + st * x) % 6]).length = _
    rw [List.length_append, List.length_append, ih]
    by_cases c : 0 < x
    · rw [if_pos c]
      show 2 * x - 1 + 1 + 1 = _
      omega
    · rw [if_neg c]
      show 2 * x - 1 + 0 + 1 = _
      omega
theorem rtL_lt (f st : Nat) : ∀ x, ∀ y ∈ rtL f st x, y < 128 := by
  intro x
  induction x with
  | zero => intro y h; cases h
  | succ x ih =>
    intro y h
    rcases List.mem_append.mp h with h | h
    · rcases List.mem_append.mp h with h | h
      · exact ih y h
      · exact yTx_lt (by split <;> decide) y h
    · rw [List.mem_singleton.mp h]
      have := Nat.mod_lt (f + st * x) (show 0 < 6 by decide)
      omega
theorem getD_l {a b : List Nat} {j : Nat} (h : j < a.length) : (a ++ b).getD j 0 = a.getD j 0 := by
  rw [List.getD_eq_getElem?_getD, List.getD_eq_getElem?_getD, List.getElem?_append_left h]
theorem getD_r (a b : List Nat) (j : Nat) : (a ++ b).getD (a.length + j) 0 = b.getD j 0 := by
  rw [List.getD_eq_getElem?_getD, List.getD_eq_getElem?_getD, List.getElem?_append_right (Nat.le_add_right _ _), Nat.add_sub_cancel_left]
theorem rtL_at (f st : Nat) : ∀ len, (∀ x, x < len → (rtL f st len).getD (2 * x) 0 = 48 + (f + st * x) % 6) ∧ ∀ x, x + 1 < len → (rtL f st len).getD (2 * x + 1) 0 = 45 := by
  intro len
  induction len with
  | zero => exact ⟨fun x h => absurd h (Nat.not_lt_zero x), fun x h => absurd h (Nat.not_lt_zero _)⟩
  | succ len ih =>
    have hl := rtL_len f st len
    have e : rtL f st (len + 1) = rtL f st len ++ (yTx.getD (if 0 < len then 1 else 5) [] ++ [48 + (f + st * len) % 6]) := List.append_assoc _ _ _
    rw [e]
    have lo : ∀ j, j < 2 * len - 1 → (rtL f st len ++ (yTx.getD (if 0 < len then 1 else 5) [] ++ [48 + (f + st * len) % 6])).getD j 0 = (rtL f st len).getD j 0 := fun j hj => getD_l (by omega)
    have hi : ∀ j, (rtL f st len ++ (yTx.getD (if 0 < len then 1 else 5) [] ++ [48 + (f + st * len) % 6])).getD (2 * len - 1 + j) 0 = (yTx.getD (if 0 < len then 1 else 5) [] ++ [48 + (f + st * len) % 6]).getD j 0 := fun j => by
      have := getD_r (rtL f st len) (yTx.getD (if 0 < len then 1 else 5) [] ++ [48 + (f + st * len) % 6]) j
      rwa [hl] at this
    refine ⟨fun x hx => ?_, fun x hx => ?_⟩
    · by_cases c : x < len
      · rw [lo _ (by omega)]
        exact ih.1 x c
      · have : x = len := by omega
        subst this
        by_cases c0 : 0 < x
        · rw [show 2 * x = 2 * x - 1 + 1 by omega, hi, if_pos c0]
          rfl
        · have : x = 0 := by omega
          subst this
          rfl
    · by_cases c : x + 1 < len
      · rw [lo _ (by omega)]
        exact ih.2 x c
      · have : len = x + 1 := by omega
        subst this
        rw [show 2 * x + 1 = 2 * (x + 1) - 1 + 0 by omega, hi, if_pos (by omega)]
        rfl
section ROUTE
variable {p : Program} {l : Launch} {e : Env} {s : State} {m : MethodId} {below : List Frame} {meth : Method} {c : Code} {b L : Nat} {xs : Nat → Int32} {D D' : va_G} {B : Nat} {cA : Nat → ClassId} {cb : ClassId} {ad : Nat → Nat} {u : lt_m} {H : Heap} {sl : Array Slot} {rest : List Value} {pc cells slots z b0 m0 : Nat} {t : List Nat} {Q : State → Prop}
theorem law_rt (C : LC p s m meth c b L xs D D' B cA cb ad) {x2 x5 x6 x7 x8 x9 x10 x11 x13 : Int32} {tr n from_ len step td d : Nat} (h1 : from_ < 6) (h5 : len ≤ 5) (hst : step ≤ 5) (hc : cells + 10 ≤ 600130) (hz : slots + 1220 ≤ 7301080)
    (kk : ∀ (H : Heap) (sl : Array Slot), LI s D B cA H u → BL D' cb B z (B + d) 16 (rtL from_ step len) H → lv_has sl 28 [(21, .int (nI (len))), (20, .ref (B + d)), (0, .ref b), (1, .ref B), (2, .int x2), (3, .int (nI tr)), (5, .int x5), (6, .int x6), (7, .int x7), (8, .int x8), (9, .int x9), (10, .int x10), (11, .int x11), (12, .int (nI n)), (13, .int x13), (14, .int 1), (15, .int (nI from_)), (16, .int (nI len)), (17, .int (nI step)), (18, .int (nI td)), (19, .int (nI (1 + 3 * n)))] → W p l e room_1 s m #[Value.ref b] below meth c H [] (cells + 2 * len) (slots + 244 * len) Q (F0 m 534 sl [])) :
    ∀ (j x : Nat) (H : Heap) (sl : Array Slot), x + j = len → LI s D B cA H u → BL D' cb B z (B + d) 16 (rtL from_ step x) H → lv_has sl 28 [(21, .int (nI (x))), (20, .ref (B + d)), (0, .ref b), (1, .ref B), (2, .int x2), (3, .int (nI tr)), (5, .int x5), (6, .int x6), (7, .int x7), (8, .int x8), (9, .int x9), (10, .int x10), (11, .int x11), (12, .int (nI n)), (13, .int x13), (14, .int 1), (15, .int (nI from_)), (16, .int (nI len)), (17, .int (nI step)), (18, .int (nI td)), (19, .int (nI (1 + 3 * n)))] → W p l e room_1 s m #[Value.ref b] below meth c H [] (cells + 2 * x) (slots + 244 * x) Q (F0 m 489 sl []) := by
  obtain ⟨⟨⟨hx, hb9, hml, hown, -⟩, hts, hK', hRf, hRl⟩, hF, hB, hX, hbl, hL, hZ, hSt⟩ := id C
  intro j
  induction j with
  | zero =>
    intro x H sl hxj hI hb hl
    have hxl : x = len := by omega
    subst hxl
    refine lv_iload hx hb9 dV_489 (lv_at hl 0 rfl) ?_
    refine lv_iload hx hb9 dV_491 (lv_at hl 17 rfl) ?_
    refine lv_icmp_ge (tgt := 534) hx hb9 dV_493 (by decide) (fun _ => ?_) (fun q9 => absurd (Int32.le_refl _) q9)
    exact kk H sl hI hb hl
  | succ j ih =>
    intro x H sl hxj hI hb hl
    have hrl := rtL_len from_ step x
    have hm6 : (from_ + step * x) % 6 < 6 := Nat.mod_lt _ (by decide)
    have hsx : step * x ≤ 5 * 5 := Nat.mul_le_mul hst (by omega)
    refine lv_iload hx hb9 dV_489 (lv_at hl 0 rfl) ?_
    refine lv_iload hx hb9 dV_491 (lv_at hl 17 rfl) ?_
    refine lv_icmp_ge (tgt := 534) hx hb9 dV_493 (by decide) (fun q9 => absurd q9 (by rw [sp_len (by omega) (by omega)]; omega)) (fun _ => ?_)
    refine lv_aload hx hb9 dV_496 (lv_at hl 1 rfl) ?_
    refine lv_iload hx hb9 dV_498 (lv_at hl 0 rfl) ?_
    have fin : ∀ i : Nat, i = (if 0 < x then 1 else 5) → W p l e room_1 s m #[Value.ref b] below meth c H [] (cells + 2 * x) (slots + 244 * x) Q (F0 m 510 sl [.ref (ad i), .ref (B + d)]) := by
      intro i ei
      have hi6 : i < 6 := by rw [ei]; split <;> decide
      have hil : (yTx.getD i []).length ≤ 1 := by rw [ei]; split <;> decide
      refine law_app C hI hb hi6 (by omega) hl.1 (Nat.le_of_ble_eq_true rfl) dV_510 (by omega) (by omega) (fun H hI hb => ?_)
      have el : (rtL from_ step x ++ yTx.getD i []).length = (rtL from_ step x).length + (yTx.getD i []).length := List.length_append
      rw [show jcap 16 ((rtL from_ step x).length + (yTx.getD i []).length) = 16 from if_pos (by omega)] at hb
      refine lv_iload hx hb9 dV_513 (lv_at hl 16 rfl) ?_
      refine lv_iload hx hb9 dV_515 (lv_at hl 18 rfl) ?_
      refine lv_iload hx hb9 dV_517 (lv_at hl 0 rfl) ?_
      refine lv_imul hx hb9 dV_519 ?_
      refine j_top (show ((nI step) * (nI (x))) = nI (step * x) from pk_mul _ _) ?_
      refine lv_iadd hx hb9 dV_520 ?_
      refine j_top (show ((nI from_) + (nI (step * x))) = nI (from_ + step * x) from nI_add _ _) ?_
      refine lv_bipush (v := nI 6) hx hb9 dV_521 (by decide) ?_
      refine lv_irem hx hb9 dV_523 (by decide) ?_
      refine j_top (show ((nI (from_ + step * x)) - (nI (from_ + step * x)) / (nI 6) * (nI 6)) = nI ((from_ + step * x) % 6) from pk_rem (by omega) (by decide) (by decide)) ?_
      refine law_num C hI hb (x0 := (from_ + step * x) % 6) (by omega) (by omega) hl.1 (Nat.le_of_ble_eq_true rfl) dV_524 (by omega) (by omega) (fun H hI hb => ?_)
      rw [dgL_1 (by omega)] at hb
      rw [show jcap 16 ((rtL from_ step x ++ yTx.getD i []).length + [48 + (from_ + step * x) % 6].length) = 16 from if_pos (by rw [el]; show _ + 1 ≤ 16; omega)] at hb
      refine lv_pop hx hb9 dV_527 rfl ?_
      refine lv_iinc (k := 0) (lv' := [(21, .int (nI (x + 1))), (20, .ref (B + d)), (0, .ref b), (1, .ref B), (2, .int x2), (3, .int (nI tr)), (5, .int x5), (6, .int x6), (7, .int x7), (8, .int x8), (9, .int x9), (10, .int x10), (11, .int x11), (12, .int (nI n)), (13, .int x13), (14, .int 1), (15, .int (nI from_)), (16, .int (nI len)), (17, .int (nI step)), (18, .int (nI td)), (19, .int (nI (1 + 3 * n)))]) hx hb9 dV_528 hl rfl (nI_succ x).symm (by decide) rfl (fun sl hl => ?_)
      refine lv_goto (tgt := 489) hx hb9 dV_531 (by decide) ?_
      refine W.widen (k := cells + 2 * (x + 1)) (n := slots + 244 * (x + 1)) (by omega) (by omega) ?_
      rw [ei] at hb
      exact ih (x + 1) H _ (by omega) hI hb hl
    by_cases c0 : 0 < x
    · refine lv_if_le (tgt := 508) hx hb9 dV_500 (by decide) (fun q9 => absurd (show nI x ≤ nI 0 from q9) (by rw [sp_len (by omega) (by omega)]; omega)) (fun _ => ?_)
      refine va_ldcS hx hb9 hown (hSt 1 (by decide)).2 dV_503 ?_
      refine lv_goto (tgt := 510) hx hb9 dV_505 (by decide) ?_
      exact fin 1 (if_pos c0).symm
    · refine lv_if_le (tgt := 508) hx hb9 dV_500 (by decide) (fun _ => ?_) (fun q9 => absurd (show nI x ≤ nI 0 by rw [sp_len (by omega) (by omega)]; omega) q9)
      refine va_ldcS hx hb9 hown (hSt 5 (by decide)).2 dV_508 ?_
      exact fin 5 (if_neg c0).symm
end ROUTE

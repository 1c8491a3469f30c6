/-! ===== texts made by the law ===== -/
theorem getD_lt {t : List Nat} (h : ∀ x ∈ t, x < 128) (j : Nat) : t.getD j 0 < 128 := by
  rw [List.getD_eq_getElem?_getD]
  cases hq : t[j]? with
  | none => decide
  | some x => exact h x (List.mem_of_getElem? hq)
theorem yTx_lt {i : Nat} (hi : i < 6) : ∀ x ∈ yTx.getD i [], x < 128 := by
  rcases (show i = 0 ∨ i = 1 ∨ i = 2 ∨ i = 3 ∨ i = 4 ∨ i = 5 by omega) with rfl | rfl | rfl | rfl | rfl | rfl <;> decide
abbrev bW0 (b0 : Nat) : va_W := [(b0, .inr (0, [.null, .int 0, .int 0, .int 0]))]
section LAWT
variable {p : Program} {l : Launch} {e : Env} {s : State} {m : MethodId} {below : List Frame} {meth : Method} {c : Code} {b L : Nat} {xs : Nat → Int32} {D D' : va_G} {B : Nat} {cA : Nat → ClassId} {cb : ClassId} {ad : Nat → Nat} {u : lt_m} {H : Heap} {sl : Array Slot} {rest : List Value} {pc cells slots z b0 m0 : Nat} {t : List Nat} {Q : State → Prop}
theorem law_newB (C : LC p s m meth c b L xs D D' B cA cb ad) (hI : LI s D B cA H u) (hdec : decode code pc = .ok (.new 80, 3)) (hc : cells + 1 ≤ 600130) (hz : slots + 4 ≤ 7301080)
    (kk : ∀ (b0 : Nat) (H1 : Heap), LI s D B cA H1 u → H.size ≤ H1.size → va_P D' jcl (bW0 b0) H1 → va_D (aB H.size) (bW0 b0) → W p l e room_1 s m #[Value.ref b] below meth c H1 [] (cells + 1) (slots + 4) Q (F0 m (pc + 3) sl (.ref b0 :: rest))) :
    W p l e room_1 s m #[Value.ref b] below meth c H [] cells slots Q (F0 m pc sl rest) := by
  obtain ⟨⟨⟨hx, hb, hml, hown, -⟩, hts, hK', hRf, hRl⟩, hF, hB, hX, hbl, hL, hZ, hSt⟩ := C
  have hle := hI.1.le (by have := hI.2.1; omega)
  have hle : B + ts_NN ≤ H.size := hle
  refine va_new (D := D') (ci := 0) (fs := [.null, .int 0, .int 0, .int 0]) (C := RJ4) (T := TJ4) (N := 4) (A := aB H.size) (H0 := H) (ws := []) (tys := [(cb, .byte)]) (cl := jcl) hx hb (fun w hw => hts w (j_u4 w hw)) (fun _ h => h) tyJ4 tyJ4_ok hown (hts _ jg_1099) (hts _ jg_1100) (hts _ jg_38) hK' (fun k q h => by simp at h) ⟨fun i j p q h => by simp at h, fun k q h => by simp at h⟩ va_S.rf (fun q h => h) rfl
    (fun j hj => by rcases (show j = 0 ∨ j = 1 ∨ j = 2 ∨ j = 3 by omega) with rfl | rfl | rfl | rfl <;> rfl) hc hz hdec (fun b0 H1 hP hD hS => ?_)
  exact kk b0 H1 (hI.kept hS.1 hS.2.1 (fun q h => Nat.le_trans hle h)) hS.1 hP hD
theorem law_Z (C : LC p s m meth c b L xs D D' B cA cb ad) (hI : LI s D B cA H u) (hz : B + ts_NN ≤ z) : jZ (aB z) s H := by
  obtain ⟨-, -, hB, -, -, -, hZ, -⟩ := C
  exact (hZ.kept hI.2.2.1).narrow (fun q hq => by have hq : z ≤ q := hq; show B ≤ q; omega)
theorem law_init (C : LC p s m meth c b L xs D D' B cA cb ad) (hI : LI s D B cA H u) (hz1 : B + ts_NN ≤ z) (hz2 : z ≤ H.size) (hP : va_P D' jcl (bW0 b0) H) (hD : va_D (aB z) (bW0 b0)) (hsz : sl.size = 28) (hcat : (rest.map fun v => v.category).sum ≤ 8) (hdec : decode code pc = .ok (.invokespecial 124, 3)) (hc : cells + 1 ≤ 600130) (hz : slots + 122 ≤ 7301080)
    (kk : ∀ (H1 : Heap), LI s D B cA H1 u → BL D' cb B z b0 16 [] H1 → W p l e room_1 s m #[Value.ref b] below meth c H1 [] (cells + 1) (slots + 122) Q (F0 m (pc + 3) sl rest)) :
    W p l e room_1 s m #[Value.ref b] below meth c H [] cells slots Q (F0 m pc sl (.ref b0 :: rest)) := by
  have hZ := law_Z C hI hz1
  obtain ⟨F, hF, hB, -⟩ := C
  refine jx_callI (l := l) (A0 := aB B) (A1 := aB z) (As := []) (n := 0) (cells := cells) (slots := slots) F (c_init l D' cb (aB z) (b0 := b0)) jL_0 trivial hZ (fun q hq => Nat.le_trans hz2 hq) hP hD hI.2 (fun q hq => by have hq : z ≤ q := hq; show B ≤ q; omega) jg_1101 jg_1102 jg_38 jg_1103 ⟨by decide, by decide, by decide +kernel⟩ rfl rfl (by decide) (by decide) rfl hsz rfl hcat hdec ⟨hc, hz⟩ (fun v9 ws9 H1 locs1 hP1 hD1 hp hz9 hk9 hS1 => ?_)
  obtain ⟨rfl, hw9⟩ := hp
  refine va_forget (fun q hq => hB ▸ hS1.2.2 q hq) ?_
  exact kk H1 (hI.kept hz9 hk9 (fun q h => Nat.le_trans hz1 h)) ⟨ws9, hw9, hP1, hD1, hz1, Nat.le_trans hz2 hz9⟩
theorem law_str (C : LC p s m meth c b L xs D D' B cA cb ad) (hI : LI s D B cA H u) (hz1 : B + ts_NN ≤ z) {i : Nat} (hi : i < 6) : jStr (aB z) (ad i) (yTx.getD i []) s H := by
  obtain ⟨-, -, hB, -, -, -, -, hSt⟩ := C
  exact (jL_str.2 _ _ _ hI.2.2.1 (hSt i hi).1).narrow (fun q hq => by have hq : z ≤ q := hq; show B ≤ q; omega)
theorem law_initS (C : LC p s m meth c b L xs D D' B cA cb ad) (hI : LI s D B cA H u) (hz1 : B + ts_NN ≤ z) (hz2 : z ≤ H.size) (hP : va_P D' jcl (bW0 b0) H) (hD : va_D (aB z) (bW0 b0)) (hsz : sl.size = 28) (hcat : (rest.map fun v => v.category).sum ≤ 8) (hdec : decode code pc = .ok (.invokespecial 84, 3)) (hc : cells + 2 ≤ 600130) (hz : slots + 200 ≤ 7301080)
    (kk : ∀ (H1 : Heap), LI s D B cA H1 u → BL D' cb B z b0 23 [48, 49, 50, 51, 48, 49, 124] H1 → W p l e room_1 s m #[Value.ref b] below meth c H1 [] (cells + 2) (slots + 200) Q (F0 m (pc + 3) sl rest)) :
    W p l e room_1 s m #[Value.ref b] below meth c H [] cells slots Q (F0 m pc sl (.ref (ad 0) :: .ref b0 :: rest)) := by
  have hZ := law_Z C hI hz1
  have hT := law_str C hI hz1 (i := 0) (by decide)
  obtain ⟨F, hF, hB, -⟩ := C
  refine jx_callI (l := l) (A0 := aB B) (A1 := aB z) (As := [.ref (ad 0)]) (n := 1) (cells := cells) (slots := slots) F (c_initS l D' cb (aB z) (b0 := b0) (h := ad 0) (t := yTx.getD 0 []) (getD_lt (yTx_lt (by decide))) (by decide)) jL_str hT hZ (fun q hq => Nat.le_trans hz2 hq) hP hD hI.2 (fun q hq => by have hq : z ≤ q := hq; show B ≤ q; omega) jg_1130 jg_1131 jg_38 jg_1132 ⟨by decide, by decide, by decide +kernel⟩ rfl rfl (by decide) (by decide) rfl hsz rfl hcat hdec ⟨hc, hz⟩ (fun v9 ws9 H1 locs1 hP1 hD1 hp hz9 hk9 hS1 => ?_)
  obtain ⟨rfl, hw9⟩ := hp
  refine va_forget (fun q hq => hB ▸ hS1.2.2 q hq) ?_
  exact kk H1 (hI.kept hz9 hk9 (fun q h => Nat.le_trans hz1 h)) ⟨ws9, hw9, hP1, hD1, hz1, Nat.le_trans hz2 hz9⟩
theorem BL.recv {H : Heap} (hK : va_K D' jcl [(cb, .byte)] s) (h : BL D' cb B z b0 m0 t H) : ∃ cellB : Cell, H[b0]? = some cellB ∧ cellB.vm.isStatics = false ∧ s.vm.findClass RJ4 = some cellB.cls := by
  obtain ⟨ws, ⟨v0, l0, a0, rfl, -⟩, hP, -⟩ := h
  exact va_recv (q0 := 0) (ci := 0) hK hP rfl rfl
/-- a text more -/
theorem law_app (C : LC p s m meth c b L xs D D' B cA cb ad) (hI : LI s D B cA H u) (hb : BL D' cb B z b0 m0 t H) {i : Nat} (hi : i < 6) (hlen : t.length + (yTx.getD i []).length ≤ 60) (hsz : sl.size = 28) (hcat : (rest.map fun v => v.category).sum ≤ 8) (hdec : decode code pc = .ok (.invokevirtual 98, 3)) (hc : cells + 1 ≤ 600130) (hz : slots + 122 ≤ 7301080)
    (kk : ∀ (H1 : Heap), LI s D B cA H1 u → BL D' cb B z b0 (jcap m0 (t.length + (yTx.getD i []).length)) (t ++ yTx.getD i []) H1 → W p l e room_1 s m #[Value.ref b] below meth c H1 [] (cells + 1) (slots + 122) Q (F0 m (pc + 3) sl (.ref b0 :: rest))) :
    W p l e room_1 s m #[Value.ref b] below meth c H [] cells slots Q (F0 m pc sl (.ref (ad i) :: .ref b0 :: rest)) := by
  have hr := hb.recv C.1.2.2.1
  obtain ⟨ws, hw, hP, hD, hz1, hz2⟩ := hb
  have hZ := law_Z C hI hz1
  have hT := law_str C hI hz1 hi
  obtain ⟨F, hF, hB, -⟩ := C
  refine jx_callV (l := l) (A0 := aB B) (A1 := aB z) (As := [.ref (ad i)]) (n := 1) (cells := cells) (slots := slots) F (c_append l D' cb (aB z) hw (getD_lt (yTx_lt hi)) hlen) jL_str hT hZ (fun q hq => Nat.le_trans hz2 hq) hP hD hI.2 (fun q hq => by have hq : z ≤ q := hq; show B ≤ q; omega) jg_1239 jg_1147 jg_1148 jg_38 jg_1149 ⟨by decide, by decide, by decide +kernel⟩ hr (by decide) (by decide) rfl hsz rfl hcat hdec ⟨hc, hz⟩ (fun v9 ws9 H1 locs1 hP1 hD1 hp hz9 hk9 hS1 => ?_)
  obtain ⟨rfl, hw9⟩ := hp
  refine va_forget (fun q hq => hB ▸ hS1.2.2 q hq) ?_
  exact kk H1 (hI.kept hz9 hk9 (fun q h => Nat.le_trans hz1 h)) ⟨ws9, hw9, hP1, hD1, hz1, Nat.le_trans hz2 hz9⟩
/-- a number more -/
theorem law_num (C : LC p s m meth c b L xs D D' B cA cb ad) (hI : LI s D B cA H u) (hb : BL D' cb B z b0 m0 t H) {x0 : Nat} (hv : x0 < 100) (hlen : t.length + 2 ≤ 60) (hsz : sl.size = 28) (hcat : (rest.map fun v => v.category).sum ≤ 8) (hdec : decode code pc = .ok (.invokevirtual 92, 3)) (hc : cells + 1 ≤ 600130) (hz : slots + 122 ≤ 7301080)
    (kk : ∀ (H1 : Heap), LI s D B cA H1 u → BL D' cb B z b0 (jcap m0 (t.length + (dgL x0).length)) (t ++ dgL x0) H1 → W p l e room_1 s m #[Value.ref b] below meth c H1 [] (cells + 1) (slots + 122) Q (F0 m (pc + 3) sl (.ref b0 :: rest))) :
    W p l e room_1 s m #[Value.ref b] below meth c H [] cells slots Q (F0 m pc sl (.int (nI x0) :: .ref b0 :: rest)) := by
  have hr := hb.recv C.1.2.2.1
  obtain ⟨ws, hw, hP, hD, hz1, hz2⟩ := hb
  have hZ := law_Z C hI hz1
  obtain ⟨F, hF, hB, -⟩ := C
  refine jx_callV (l := l) (A0 := aB B) (A1 := aB z) (As := [.int (nI x0)]) (n := 1) (cells := cells) (slots := slots) F (c_appendI l D' cb (aB z) hw hv hlen) jL_0 trivial hZ (fun q hq => Nat.le_trans hz2 hq) hP hD hI.2 (fun q hq => by have hq : z ≤ q := hq; show B ≤ q; omega) jg_1240 jg_1241 jg_1242 jg_38 jg_1243 ⟨by decide, by decide, by decide +kernel⟩ hr (by decide) (by decide) rfl hsz rfl hcat hdec ⟨hc, hz⟩ (fun v9 ws9 H1 locs1 hP1 hD1 hp hz9 hk9 hS1 => ?_)
  obtain ⟨rfl, hw9⟩ := hp
  refine va_forget (fun q hq => hB ▸ hS1.2.2 q hq) ?_
  exact kk H1 (hI.kept hz9 hk9 (fun q h => Nat.le_trans hz1 h)) ⟨ws9, hw9, hP1, hD1, hz1, Nat.le_trans hz2 hz9⟩
/-- the text itself -/
theorem law_toS (C : LC p s m meth c b L xs D D' B cA cb ad) (hI : LI s D B cA H u) (hb : BL D' cb B z b0 m0 t H) (hn : t.length < m0) (hlen : t.length < 100) (hsz : sl.size = 28) (hcat : (rest.map fun v => v.category).sum ≤ 8) (hdec : decode code pc = .ok (.invokevirtual 110, 3)) (hc : cells + 2 ≤ 600130) (hz : slots + 130 ≤ 7301080)
    (kk : ∀ (h : Nat) (H1 : Heap), LI s D B cA H1 u → BL D' cb B z b0 m0 t H1 → jStr (sayA B H1.size) h t s H1 → W p l e room_1 s m #[Value.ref b] below meth c H1 [] (cells + 2) (slots + 130) Q (F0 m (pc + 3) sl (.ref h :: rest))) :
    W p l e room_1 s m #[Value.ref b] below meth c H [] cells slots Q (F0 m pc sl (.ref b0 :: rest)) := by
  have hr := hb.recv C.1.2.2.1
  obtain ⟨ws, ⟨v0, l0, a0, rfl, hw1, hw2, hw3, hw4⟩, hP, hD, hz1, hz2⟩ := hb
  have hZ := law_Z C hI hz1
  obtain ⟨F, hF, hB, -⟩ := C
  refine jx_callV (l := l) (A0 := aB B) (A1 := aB z) (As := []) (n := 0) (cells := cells) (slots := slots) F (c_toString l D' cb (aB z) hn hw2 hw4) jL_0 trivial hZ (fun q hq => Nat.le_trans hz2 hq) hP hD hI.2 (fun q hq => by have hq : z ≤ q := hq; show B ≤ q; omega) jg_1265 jg_1266 jg_1267 jg_38 jg_1268 ⟨by decide, by decide, by decide +kernel⟩ hr (by decide) (by decide) rfl hsz rfl hcat hdec ⟨hc, hz⟩ (fun v9 ws9 H1 locs1 hP1 hD1 hp hz9 hk9 hS1 => ?_)
  obtain ⟨h, x9, rfl, rfl⟩ := hp
  refine va_forget (fun q hq => hB ▸ hS1.2.2 q hq) ?_
  have g1 : z ≤ h := hD1.2 2 _ rfl
  have g2 : z ≤ x9 := hD1.2 3 _ rfl
  have g3 : h < H1.size := (hP1 2 _ rfl).lt
  have g4 : x9 < H1.size := (hP1 3 _ rfl).lt
  refine kk h H1 (hI.kept hz9 hk9 (fun q h => Nat.le_trans hz1 h)) ⟨[(b0, .inr (0, [.ref v0, .int 0, .int l0, .int (nI t.length)])), (v0, .inl (cb, m0, .inl a0))], ⟨v0, l0, a0, rfl, hw1, hw2, hw3, hw4⟩, fun k q hq => ?_, ⟨fun i j p q hi hj => ?_, fun k q hq => ?_⟩, hz1, Nat.le_trans hz2 hz9⟩
    (jStr_of (k0 := 2) (k1 := 3) F.2.1 F.2.2.1 hP1 rfl rfl (by omega) (fun j hj => ?_) ⟨fun h9 => ?_, fun h9 => ?_⟩)
  · match k, hq with
    | 0, hq => exact hP1 0 q hq
    | 1, hq => exact hP1 1 q hq
    | k + 2, hq => simp at hq
  · match i, hi, j, hj with
    | 0, hi, 0, hj => exact hD1.1 0 0 p q hi hj
    | 0, hi, 1, hj => exact hD1.1 0 1 p q hi hj
    | 1, hi, 0, hj => exact hD1.1 1 0 p q hi hj
    | 1, hi, 1, hj => exact hD1.1 1 1 p q hi hj
    | i + 2, hi, _, _ => simp at hi
    | _, _, j + 2, hj => simp at hj
  · match k, hq with
    | 0, hq => exact hD1.2 0 q hq
    | 1, hq => exact hD1.2 1 q hq
    | k + 2, hq => simp at hq
  · unfold va_cpy
    rw [if_pos ⟨Nat.zero_le _, by omega⟩, Nat.zero_add, Nat.sub_zero]
    exact hw3 j hj
  · have h9 : (B ≤ h ∧ h < B + ts_NN) ∨ H1.size ≤ h := h9
    rcases h9 with h9 | h9
    · exact absurd h9.2 (Nat.not_lt.mpr (Nat.le_trans hz1 g1))
    · exact absurd g3 (Nat.not_lt.mpr h9)
  · have h9 : (B ≤ x9 ∧ x9 < B + ts_NN) ∨ H1.size ≤ x9 := h9
    rcases h9 with h9 | h9
    · exact absurd h9.2 (Nat.not_lt.mpr (Nat.le_trans hz1 g2))
    · exact absurd g4 (Nat.not_lt.mpr h9)
end LAWT

/-! ===== say: a text told four signs at a time ===== -/
/-- what say may change: the class's cells, and cells that come -/
def sayA (B sz : Nat) : Nat → Prop := fun q => (B ≤ q ∧ q < B + ts_NN) ∨ sz ≤ q
/-- the sign at j -/
def chr (t : List Nat) (j : Nat) : Nat := if j < t.length then t.getD j 0 else 0
/-- the first k of four signs from a on -/
def pvN (t : List Nat) (a : Nat) : Nat → Nat
  | 0 => 0
  | k + 1 => pvN t a k * 256 + chr t (a + k)
section SAY
variable {p : Program} {l : Launch} {e : Env} {R : Room} {s : State} {m : MethodId} {args : Array Value} {below : List Frame} {meth : Method} {c : Code} {H : Heap} {locs : List Loc} {Q : State → Prop} {D D' : va_G} {B : Nat} {cA : Nat → ClassId} {cb : ClassId} {h : Nat} {t : List Nat} {sl : Array Slot} {rest : List Value} {pc : Nat} {u : lt_m}
def sayC (p : Program) (R : Room) (s : State) (m : MethodId) (args : Array Value) (meth : Method) (c : Code) (D D' : va_G) (B : Nat) (cA : Nat → ClassId) (cb : ClassId) (h : Nat) (t : List Nat) : Prop :=
  jX p R s m args c cL_say 5 RL D' cb ∧ ts_Fx p R s m args meth c Ysay D B cA (sayA B s.heap.size) 12 ts_NN ts_NN 0 0 ∧ jZ (sayA B s.heap.size) s s.heap ∧ jStr (sayA B s.heap.size) h t s s.heap ∧ t.length ≤ 60 ∧ (∀ j, t.getD j 0 < 128)
theorem say_len (C : sayC p R s m args meth c D D' B cA cb h t) (hW : ts_Wd D B cA (ts_fl u) H) (hS : va_S (sayA B s.heap.size) s.heap H locs) (hsz : sl.size = 5) (hcat : (rest.map fun v => v.category).sum ≤ 8) (hdec : decode cL_say pc = .ok (.invokevirtual 7, 3))
    (kk : ∀ (H1 : Heap) (locs1 : List Loc), ts_Wd D B cA (ts_fl u) H1 → va_S (sayA B s.heap.size) s.heap H1 locs1 → W p l e R s m args below meth c H1 locs1 0 0 Q (F0 m (pc + 3) sl (.int (nI t.length) :: rest))) : W p l e R s m args below meth c H locs 0 0 Q (F0 m pc sl (.ref h :: rest)) := by
  obtain ⟨F, F2, hZ, hT, hlen, hc⟩ := C
  obtain ⟨v, hO, -⟩ := id hT
  have hsub : ∀ q, H.size ≤ q → sayA B s.heap.size q := fun q hq => Or.inr (Nat.le_trans hS.1 hq)
  refine jx_callV (n := 0) (A1 := fun q => H.size ≤ q) (As := []) (ws := []) (Lf := jStr (fun q => H.size ≤ q) h t) F (c_length l D' cb _ (by omega)) jL_str ((jL_str.2 _ _ _ hS.2.1 hT).narrow hsub) ((hZ.kept hS.2.1).narrow hsub) (fun q hq => hq) (fun k q hq => by simp at hq) ⟨fun i j p q hi => by simp at hi, fun k q hq => by simp at hq⟩ hS hsub jg_965 jg_966 jg_967 jg_39 jg_968 ⟨by decide, by decide, by decide +kernel⟩ (va_Orecv hO hS) (by decide) (by decide) rfl hsz rfl hcat hdec ⟨Nat.zero_le _, Nat.zero_le _⟩ (fun v9 ws9 H1 locs1 _ _ hp9 hz hk hS1 => ?_)
  obtain ⟨rfl, -⟩ := hp9
  exact kk H1 locs1 (ts_Wd_kept hW fun q h1 _ => hk q h1 (Nat.not_le.mpr h1)) hS1
theorem say_chr (C : sayC p R s m args meth c D D' B cA cb h t) (hW : ts_Wd D B cA (ts_fl u) H) (hS : va_S (sayA B s.heap.size) s.heap H locs) (hsz : sl.size = 5) (hcat : (rest.map fun v => v.category).sum ≤ 8) {i : Nat} (hi : i < t.length) (hdec : decode cL_say pc = .ok (.invokevirtual 13, 3))
    (kk : ∀ (H1 : Heap) (locs1 : List Loc), ts_Wd D B cA (ts_fl u) H1 → va_S (sayA B s.heap.size) s.heap H1 locs1 → W p l e R s m args below meth c H1 locs1 0 0 Q (F0 m (pc + 3) sl (.int (nI (t.getD i 0)) :: rest))) : W p l e R s m args below meth c H locs 0 0 Q (F0 m pc sl (.int (nI i) :: .ref h :: rest)) := by
  obtain ⟨F, F2, hZ, hT, hlen, hc⟩ := C
  obtain ⟨v, hO, -⟩ := id hT
  have hsub : ∀ q, H.size ≤ q → sayA B s.heap.size q := fun q hq => Or.inr (Nat.le_trans hS.1 hq)
  refine jx_callV (n := 1) (A1 := fun q => H.size ≤ q) (As := [.int (nI i)]) (ws := []) (Lf := jStr (fun q => H.size ≤ q) h t) F (c_charAt l D' cb _ hi (by omega) (hc i)) jL_str ((jL_str.2 _ _ _ hS.2.1 hT).narrow hsub) ((hZ.kept hS.2.1).narrow hsub) (fun q hq => hq) (fun k q hq => by simp at hq) ⟨fun i j p q hi => by simp at hi, fun k q hq => by simp at hq⟩ hS hsub jg_975 jg_976 jg_977 jg_39 jg_978 ⟨by decide, by decide, by decide +kernel⟩ (va_Orecv hO hS) (by decide) (by decide) rfl hsz rfl hcat hdec ⟨Nat.zero_le _, Nat.zero_le _⟩ (fun v9 ws9 H1 locs1 _ _ hp9 hz hk hS1 => ?_)
  obtain ⟨rfl, -⟩ := hp9
  exact kk H1 locs1 (ts_Wd_kept hW fun q h1 _ => hk q h1 (Nat.not_le.mpr h1)) hS1
/-- a call of the class out of say -/
theorem say_ts (C : sayC p R s m args meth c D D' B cA cb h t) {x y n : Nat} {q : ts_Y} {As r : List ts_V} {v : Option ts_V} {u' : lt_m} (hc : ts_cal 14 x = some (y, n, 0, 0)) (hq : ts_mL[y]? = some q) (hq2 : q.2.2.2.2 = 11) (hev : ts_ev 12 y (.inr (.inr (some 0)) :: As) (ts_fl u) = some (v, ts_fl u')) (hn : As.length = n) (hW : ts_Wd D B cA (ts_fl u) H) (hS : va_S (sayA B s.heap.size) s.heap H locs) (hsz : sl.size = 5) (hr : ts_cats r ≤ 8) (hdec : decode cL_say pc = .ok (.invokevirtual x, 3))
    (kk : ∀ (H1 : Heap) (locs1 : List Loc), ts_Wd D B cA (ts_fl u') H1 → va_S (sayA B s.heap.size) s.heap H1 locs1 → W p l e R s m args below meth c H1 locs1 0 0 Q (F0 m (pc + 3) sl ((v.map (ts_val B)).toList ++ r.map (ts_val B)))) : W p l e R s m args below meth c H locs 0 0 Q (F0 m pc sl (((.inr (.inr (some 0)) :: As).reverse ++ r).map (ts_val B))) := by
  obtain ⟨-, F, -⟩ := C
  have key := ts_callW (e := e) (below := below) (Q := Q) (st := (.inr (.inr (some 0)) :: As).reverse ++ r) (H0 := s.heap) F.2.2.2.2.2.2.2.2.2.1 F hc hq (ts_sound l D B cA _ 12 y _ _ v _ hev) (fun _ => ⟨0, As, rfl, fun _ => ⟨by rw [hq2]; exact sx, by show 0 < ts_NN; decide⟩⟩) (by rw [if_neg (by decide)]; simpa using hn) hsz rfl hr hdec (Nat.le_refl _) (Nat.le_refl _) (Nat.le_refl _) hW hS (fun H1 locs1 hW1 hS1 => by
    show W p l e R s m args below meth c H1 locs1 (0 + (ts_NN - ts_NN)) (0 + (ts_sz ts_NN - ts_sz ts_NN)) Q _
    rw [Nat.sub_self, Nat.sub_self]
    exact kk H1 locs1 hW1 hS1)
  have key : W p l e R s m args below meth c H locs (0 + (ts_NN - ts_NN)) (0 + (ts_sz ts_NN - ts_sz ts_NN)) Q _ := key
  rw [Nat.sub_self, Nat.sub_self] at key
  exact key
end SAY

/-! ===== a run within a part of the memory ===== -/
section LOC2
variable {L h : Nat} {N M : ts_M}
theorem lc_gI {a : Nat} (ha : L ≤ a ∧ a < h) : (lc_g L h N M).1 a = M.1 a := funext fun k => if_pos ha
theorem lc_gL {a : Nat} (ha : L ≤ a ∧ a < h) : (lc_g L h N M).2.1 a = M.2.1 a := funext fun k => if_pos ha
theorem lc_gR {a : Nat} (ha : L ≤ a ∧ a < h) : (lc_g L h N M).2.2.1 a = M.2.2.1 a := funext fun k => if_pos ha
theorem lc_up {α : Type} {f g : Nat → Nat → α} {a j : Nat} {v : α} (ha : L ≤ a ∧ a < h) : (fun b k => if L ≤ b ∧ b < h then ts_up f a j v b k else g b k) = ts_up (fun b k => if L ≤ b ∧ b < h then f b k else g b k) a j v := by
  funext b k
  show (if L ≤ b ∧ b < h then (if b = a ∧ k = j then v else f b k) else g b k) = if b = a ∧ k = j then v else if L ≤ b ∧ b < h then f b k else g b k
  by_cases c : b = a ∧ k = j
  · rw [if_pos c, if_pos c, if_pos (by rw [c.1]; exact ha)]
  · rw [if_neg c, if_neg c]
theorem lc_wI {a j : Nat} {v : Int32} (ha : L ≤ a ∧ a < h) : lc_g L h N (ts_wrI M a j v) = ts_wrI (lc_g L h N M) a j v := by
  unfold lc_g ts_wrI
  rw [lc_up ha]
theorem lc_wL {a j : Nat} {v : Int64} (ha : L ≤ a ∧ a < h) : lc_g L h N (ts_wrL M a j v) = ts_wrL (lc_g L h N M) a j v := by
  unfold lc_g ts_wrL
  rw [lc_up ha]
theorem lc_wR {a j : Nat} {v : Option Nat} (ha : L ≤ a ∧ a < h) : lc_g L h N (ts_wrR M a j v) = ts_wrR (lc_g L h N M) a j v := by
  unfold lc_g ts_wrR
  rw [lc_up ha]
theorem lc_mR {a j o : Nat} (ho : L ≤ o ∧ o < h) (hm : lc_m L h M) : lc_m L h (ts_wrR M a j (some o)) := by
  intro b b1 b2 k q hq
  have hq : (if b = a ∧ k = j then some o else M.2.2.1 b k) = some q := hq
  by_cases c : b = a ∧ k = j
  · rw [if_pos c] at hq; cases hq; exact ho
  · rw [if_neg c] at hq; exact hm b b1 b2 k q hq
theorem lc_gv {c k a : Nat} (ha : L ≤ a ∧ a < h) : ts_gv c k (lc_g L h N M) a = ts_gv c k M a := by
  unfold ts_gv
  rw [lc_gI ha, lc_gR ha]
theorem lc_gvv {c k a : Nat} (hm : lc_m L h M) (ha : L ≤ a ∧ a < h) : lc_v L h (ts_gv c k M a) := by
  unfold ts_gv
  split
  · cases hq : M.2.2.1 a k with
    | none => trivial
    | some q => exact hm a ha.1 ha.2 k q hq
  · trivial
theorem lc_si {st : List ts_V} : lc_s L h st ↔ ∀ v ∈ st, lc_v L h v := by
  induction st with
  | nil => exact ⟨fun _ v hv => absurd hv List.not_mem_nil, fun _ => trivial⟩
  | cons a r ih =>
    rw [List.forall_mem_cons]
    exact ⟨fun q => ⟨q.1, ih.mp q.2⟩, fun q => ⟨q.1, ih.mpr q.2⟩⟩
theorem lc_back {k pc : Nat} {ls : List (Option ts_V)} {st : List ts_V} {o1 : Option ts_R} {r : ts_F ⊕ ts_R} (he : ts_back k o1 pc ls st = some r) : ∃ v M', o1 = some (v, M') ∧ r = .inl (pc + 3, ls, v.toList ++ st, M') ∧ ∀ M2, ts_back k (some (v, M2)) pc ls st = some (.inl (pc + 3, ls, v.toList ++ st, M2)) := by
  unfold ts_back at he
  split at he
  · split at he
    · next hk => cases he; exact ⟨_, _, rfl, rfl, fun M2 => by unfold ts_back; exact if_pos hk⟩
    · cases he
  · split at he
    · next hk => cases he; exact ⟨_, _, rfl, rfl, fun M2 => by unfold ts_back; exact if_pos hk⟩
    · cases he
  · split at he
    · next hk => cases he; exact ⟨_, _, rfl, rfl, fun M2 => by unfold ts_back; exact if_pos hk⟩
    · cases he
  · split at he
    · next hk => cases he; exact ⟨_, _, rfl, rfl, fun M2 => by unfold ts_back; exact if_pos hk⟩
    · cases he
  · cases he
theorem lc_cs {v : Option ts_V} {st : List ts_V} (hv : ∀ u, v = some u → lc_v L h u) (hs : lc_s L h st) : lc_s L h (v.toList ++ st) := by
  cases v with
  | none => exact hs
  | some u => exact ⟨hv u rfl, hs⟩
def lc_call (L h : Nat) (N : ts_M) (call1 call2 : ts_C) : Prop := ∀ y As M v M', ts_ni y → lc_s L h As → lc_m L h M → call1 y As M = some (v, M') → call2 y As (lc_g L h N M) = some (v, lc_g L h N M') ∧ lc_m L h M' ∧ ∀ u, v = some u → lc_v L h u
theorem lc_step {call1 call2 : ts_C} {Y : ts_Y} (hN : h ≤ N.2.2.2) (hc : lc_call L h N call1 call2) {i : Instr} {len pc : Nat} {ls : List (Option ts_V)} {st : List ts_V} {r : ts_F ⊕ ts_R} (hci : ts_ci i = false) (hl : lc_l L h ls) (hst : lc_s L h st) (hm : lc_m L h M) (he : ts_step call1 Y i len pc ls st M = some r) : ts_step call2 Y i len pc ls st (lc_g L h N M) = some (lc_q L h N r) ∧ lc_r L h r ∧ lc_m L h (lc_mem r) := by
  by_cases hp : lc_pu i = true
  · have e1 := lc_put (call1 := call1) (call2 := call1) (Y := Y) (len := len) (pc := pc) (ls := ls) (st := st) (M1 := M) (M2 := M) hp
    have e2 := lc_put (call1 := call1) (call2 := call2) (Y := Y) (len := len) (pc := pc) (ls := ls) (st := st) (M1 := M) (M2 := lc_g L h N M) hp
    have e3 := lc_pure hp hl hst he
    rw [he] at e1 e2
    have e1 : r = lc_p M r := Option.some.inj e1
    have em : lc_mem r = M := by rw [e1]; cases r <;> rfl
    have eq : lc_p (lc_g L h N M) r = lc_q L h N r := by rw [e1]; cases r <;> rfl
    refine ⟨?_, e3, by rw [em]; exact hm⟩
    rw [e2]
    exact congrArg some eq
  · have lt : ∀ {a}, L ≤ a ∧ a < h → a < (lc_g L h N M).2.2.2 := fun {a} ha => Nat.lt_of_lt_of_le ha.2 hN
    cases i with
    | iaload =>
      unfold ts_step at he
      dsimp only at he
      split at he
      · split at he
        · next hg =>
          cases he
          have ha := hst.2.1
          exact ⟨by unfold ts_step; dsimp only; rw [if_pos ⟨hg.1, lt ha, hg.2.2⟩, lc_gI ha]; rfl, ⟨hl, trivial, hst.2.2⟩, hm⟩
        · cases he
      · cases he
    | baload =>
      unfold ts_step at he
      dsimp only at he
      split at he
      · split at he
        · next hg =>
          cases he
          have ha := hst.2.1
          exact ⟨by unfold ts_step; dsimp only; rw [if_pos ⟨hg.1, lt ha, hg.2.2⟩, lc_gI ha]; rfl, ⟨hl, trivial, hst.2.2⟩, hm⟩
        · cases he
      · cases he
    | laload =>
      unfold ts_step at he
      dsimp only at he
      split at he
      · split at he
        · next hg =>
          cases he
          have ha := hst.2.1
          exact ⟨by unfold ts_step; dsimp only; rw [if_pos ⟨hg.1, lt ha, hg.2.2⟩, lc_gL ha]; rfl, ⟨hl, trivial, hst.2.2⟩, hm⟩
        · cases he
      · cases he
    | aaload =>
      unfold ts_step at he
      dsimp only at he
      split at he
      · next j a r0 =>
        split at he
        · next hg =>
          cases he
          have ha := hst.2.1
          refine ⟨by unfold ts_step; dsimp only; rw [if_pos ⟨hg.1, lt ha, hg.2.2⟩, lc_gR ha]; rfl, ⟨hl, ?_, hst.2.2⟩, hm⟩
          cases hq : M.2.2.1 a j.toNatClampNeg with
          | none => trivial
          | some q => exact hm a ha.1 ha.2 _ q hq
        · cases he
      · cases he
    | arraylength =>
      unfold ts_step at he
      dsimp only at he
      split at he
      · split at he
        · next hg =>
          cases he
          have ha := hst.1
          exact ⟨by unfold ts_step; dsimp only; rw [if_pos ⟨hg.1, hg.2.1, lt ha⟩]; rfl, ⟨hl, trivial, hst.2⟩, hm⟩
        · cases he
      · cases he
    | iastore =>
      unfold ts_step at he
      dsimp only at he
      split at he
      · split at he
        · next hg =>
          cases he
          have ha := hst.2.2.1
          exact ⟨by unfold ts_step; dsimp only; rw [if_pos ⟨hg.1, lt ha, hg.2.2⟩, ← lc_wI ha]; rfl, ⟨hl, hst.2.2.2⟩, hm⟩
        · cases he
      · cases he
    | bastore =>
      unfold ts_step at he
      dsimp only at he
      split at he
      · split at he
        · next hg =>
          cases he
          have ha := hst.2.2.1
          exact ⟨by unfold ts_step; dsimp only; rw [if_pos ⟨hg.1, lt ha, hg.2.2⟩, ← lc_wI ha]; rfl, ⟨hl, hst.2.2.2⟩, hm⟩
        · cases he
      · cases he
    | lastore =>
      unfold ts_step at he
      dsimp only at he
      split at he
      · split at he
        · next hg =>
          cases he
          have ha := hst.2.2.1
          exact ⟨by unfold ts_step; dsimp only; rw [if_pos ⟨hg.1, lt ha, hg.2.2⟩, ← lc_wL ha]; rfl, ⟨hl, hst.2.2.2⟩, hm⟩
        · cases he
      · cases he
    | getfield x =>
      unfold ts_step at he
      dsimp only at he
      split at he
      · split at he
        · next hf =>
          split at he
          · next hg =>
            cases he
            have ha := hst.1
            exact ⟨by unfold ts_step; dsimp only; rw [hf]; dsimp only; rw [if_pos ⟨hg.1, lt ha⟩, lc_gv ha]; rfl, ⟨hl, lc_gvv hm ha, hst.2⟩, hm⟩
          · cases he
        · cases he
      · cases he
    | putfield x =>
      unfold ts_step at he
      dsimp only at he
      split at he
      · next hf =>
        split at he
        · cases he
        · next hn =>
          split at he
          · split at he
            · next hg =>
              cases he
              have ha := hst.2.1
              exact ⟨by unfold ts_step; dsimp only; rw [hf]; dsimp only; rw [if_neg hn, if_pos ⟨hg.1, lt ha, hg.2.2⟩, ← lc_wI ha]; rfl, ⟨hl, hst.2.2⟩, hm⟩
            · cases he
          · split at he
            · next hg =>
              cases he
              have ha := hst.2.1
              exact ⟨by unfold ts_step; dsimp only; rw [hf]; dsimp only; rw [if_neg hn, if_pos ⟨hg.1, lt ha, hg.2.2⟩, ← lc_wR ha]; rfl, ⟨hl, hst.2.2⟩, lc_mR hst.1 hm⟩
            · cases he
          · cases he
      · cases he
    | invokevirtual x =>
      unfold ts_step at he
      dsimp only at he
      split at he
      · next y n z hf =>
        split at he
        · next b r0 hd =>
          split at he
          · next hg =>
            obtain ⟨v, M', h1, rfl, h3⟩ := lc_back he
            have hdr : lc_s L h (.inr (.inr (some b)) :: r0) := by rw [← hd]; exact lc_si.mpr fun u hu => lc_si.mp hst u (List.mem_of_mem_drop hu)
            have hA : lc_s L h (.inr (.inr (some b)) :: (st.take n).reverse) := ⟨hdr.1, lc_si.mpr fun u hu => lc_si.mp hst u (List.mem_of_mem_take (List.mem_reverse.mp hu))⟩
            obtain ⟨g1, g2, g3⟩ := hc y _ M v M' (ts_ni_of hf (by decide)) hA hm h1
            refine ⟨?_, ⟨hl, lc_cs g3 hdr.2⟩, g2⟩
            unfold ts_step
            dsimp only
            rw [hf]
            refine Eq.trans (b := match st.drop n with | .inr (.inr (some b)) :: r => if ts_sh b = (0, ts_cls y) ∧ b < N.2.2.2 ∧ n ≤ st.length ∧ ts_cats r ≤ 8 then ts_back (ts_knd y) (call2 y (.inr (.inr (some b)) :: (st.take n).reverse) (lc_g L h N M)) pc ls r else none | _ => none) rfl ?_
            rw [hd]
            refine (if_pos ⟨hg.1, lt hdr.1, hg.2.2⟩).trans ?_
            rw [g1, h3]
            rfl
          · cases he
        · cases he
      · cases he
    | invokestatic x =>
      unfold ts_step at he
      dsimp only at he
      split at he
      · next hb =>
        split at he
        · split at he
          · next hg =>
            cases he
            exact ⟨by unfold ts_step; dsimp only; rw [hb]; exact if_pos hg, ⟨hl, trivial, hst.2.2⟩, hm⟩
          · cases he
        · cases he
      · next hb =>
        split at he
        · split at he
          · next hg =>
            cases he
            exact ⟨by unfold ts_step; dsimp only; rw [hb]; exact if_pos hg, ⟨hl, trivial, hst.2.2⟩, hm⟩
          · cases he
        · cases he
      · next hb2 hb3 =>
        split at he
        · next y n z hf =>
          split at he
          · next hg =>
            obtain ⟨v, M', h1, rfl, h3⟩ := lc_back he
            have hdr : lc_s L h (st.drop n) := lc_si.mpr fun u hu => lc_si.mp hst u (List.mem_of_mem_drop hu)
            have hA : lc_s L h (st.take n).reverse := lc_si.mpr fun u hu => lc_si.mp hst u (List.mem_of_mem_take (List.mem_reverse.mp hu))
            obtain ⟨g1, g2, g3⟩ := hc y _ M v M' (ts_ni_of hf (by decide)) hA hm h1
            refine ⟨?_, ⟨hl, lc_cs g3 hdr⟩, g2⟩
            unfold ts_step
            dsimp only
            split
            · next q => exact absurd q hb2
            · next q => exact absurd q hb3
            · rw [hf]
              refine (if_pos hg).trans ?_
              rw [g1, h3]
              rfl
          · cases he
        · cases he
    | _ => first | (exact absurd rfl hp) | (cases hci)
end LOC2

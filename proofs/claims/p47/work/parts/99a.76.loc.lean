/-! ===== a run stays among the cells that it is given: what a method does in a part of the memory ===== -/
section LOC
variable {L h : Nat}
def lc_v (L h : Nat) : ts_V → Prop
  | .inr (.inr (some a)) => L ≤ a ∧ a < h
  | _ => True
def lc_s (L h : Nat) : List ts_V → Prop
  | [] => True
  | v :: r => lc_v L h v ∧ lc_s L h r
def lc_l (L h : Nat) (ls : List (Option ts_V)) : Prop := ∀ i v, ts_lget ls i = some v → lc_v L h v
def lc_m (L h : Nat) (M : ts_M) : Prop := ∀ a, L ≤ a → a < h → ∀ k q, M.2.2.1 a k = some q → L ≤ q ∧ q < h
def lc_r (L h : Nat) : ts_F ⊕ ts_R → Prop
  | .inl f => lc_l L h f.2.1 ∧ lc_s L h f.2.2.1
  | .inr r => ∀ v, r.1 = some v → lc_v L h v
/-- the rows of M from L to h, all else of N -/
def lc_g (L h : Nat) (N M : ts_M) : ts_M := (fun a k => if L ≤ a ∧ a < h then M.1 a k else N.1 a k, fun a k => if L ≤ a ∧ a < h then M.2.1 a k else N.2.1 a k, fun a k => if L ≤ a ∧ a < h then M.2.2.1 a k else N.2.2.1 a k, N.2.2.2)
def lc_p (M : ts_M) : ts_F ⊕ ts_R → ts_F ⊕ ts_R
  | .inl f => .inl (f.1, f.2.1, f.2.2.1, M)
  | .inr r => .inr (r.1, M)
def lc_q (L h : Nat) (N : ts_M) : ts_F ⊕ ts_R → ts_F ⊕ ts_R
  | .inl f => .inl (f.1, f.2.1, f.2.2.1, lc_g L h N f.2.2.2)
  | .inr r => .inr (r.1, lc_g L h N r.2)
def lc_mem : ts_F ⊕ ts_R → ts_M
  | .inl f => f.2.2.2
  | .inr r => r.2
/-- instructions that don't look at the memory -/
def lc_pu : Instr → Bool
  | .iaload => false
  | .baload => false
  | .laload => false
  | .aaload => false
  | .iastore => false
  | .bastore => false
  | .lastore => false
  | .aastore => false
  | .arraylength => false
  | .getfield _ => false
  | .putfield _ => false
  | .new _ => false
  | .newarray _ => false
  | .anewarray _ => false
  | .invokevirtual _ => false
  | .invokestatic _ => false
  | .invokespecial _ => false
  | _ => true
theorem lc_to {M1 M2 : ts_M} {pc : Nat} {off : Int} {ls : List (Option ts_V)} {st : List ts_V} : ts_to pc off ls st M2 = (ts_to pc off ls st M1).map (lc_p M2) := by
  unfold ts_to
  split <;> rfl
theorem lc_br {c : Prop} [Decidable c] {M1 M2 : ts_M} {pc : Nat} {off : Int} {ls : List (Option ts_V)} {st : List ts_V} : ts_br c pc off ls st M2 = (ts_br c pc off ls st M1).map (lc_p M2) := by
  unfold ts_br
  split
  · split <;> rfl
  · rfl
theorem lc_put {call1 call2 : ts_C} {Y : ts_Y} {i : Instr} {len pc : Nat} {ls : List (Option ts_V)} {st : List ts_V} {M1 M2 : ts_M} (hp : lc_pu i = true) : ts_step call2 Y i len pc ls st M2 = (ts_step call1 Y i len pc ls st M1).map (lc_p M2) := by
  cases i with
  | if_icmp c off => cases c <;> (unfold ts_step; dsimp only; split <;> first | rfl | exact lc_br)
  | ifCond c off => cases c <;> (unfold ts_step; dsimp only; split <;> first | rfl | exact lc_br)
  | _ => first | (cases hp; done) | (unfold ts_step; dsimp only; first | rfl | exact lc_to | (split <;> first | rfl | exact lc_br | exact lc_to | (split <;> first | rfl | exact lc_br | exact lc_to | (split <;> first | rfl | exact lc_to))))
theorem lc_to_s {pc : Nat} {off : Int} {ls : List (Option ts_V)} {st : List ts_V} {M : ts_M} {r : ts_F ⊕ ts_R} (hl : lc_l L h ls) (hs : lc_s L h st) (he : ts_to pc off ls st M = some r) : lc_r L h r := by
  unfold ts_to at he
  split at he
  · cases he; exact ⟨hl, hs⟩
  · cases he
theorem lc_br_s {c : Prop} [Decidable c] {pc : Nat} {off : Int} {ls : List (Option ts_V)} {st : List ts_V} {M : ts_M} {r : ts_F ⊕ ts_R} (hl : lc_l L h ls) (hs : lc_s L h st) (he : ts_br c pc off ls st M = some r) : lc_r L h r := by
  unfold ts_br at he
  split at he
  · split at he
    · cases he; exact ⟨hl, hs⟩
    · cases he; exact ⟨hl, hs⟩
  · cases he
theorem lc_set {ls : List (Option ts_V)} {i : Nat} {v : ts_V} (hl : lc_l L h ls) (hv : lc_v L h v) : lc_l L h (ts_lset ls i v) := by
  have h0 : ∀ (l : List (Option ts_V)) (k : Nat) (o : Option ts_V), lc_l L h l → (∀ u, o = some u → lc_v L h u) → lc_l L h (l.set k o) := by
    intro l k o hl ho j u hj
    unfold ts_lget at hj
    rw [List.getElem?_set] at hj
    split at hj
    · split at hj
      · exact ho u (by simpa using hj)
      · cases hj
    · exact hl j u hj
  have hn : ∀ u, ts_nol (ts_lget ls (i - 1)) = some u → lc_v L h u := by
    intro u hu
    unfold ts_nol at hu
    split at hu
    · cases hu
    · exact hl _ _ hu
  unfold ts_lset
  split
  · exact h0 _ _ _ (h0 _ _ _ (h0 _ _ _ hl hn) (fun u hu => by cases hu)) (fun u hu => by cases hu; exact hv)
  · exact h0 _ _ _ (h0 _ _ _ hl hn) (fun u hu => by cases hu; exact hv)
theorem lc_pure {call : ts_C} {Y : ts_Y} {i : Instr} {len pc : Nat} {ls : List (Option ts_V)} {st : List ts_V} {M : ts_M} {r : ts_F ⊕ ts_R} (hp : lc_pu i = true) (hl : lc_l L h ls) (hst : lc_s L h st) (he : ts_step call Y i len pc ls st M = some r) : lc_r L h r := by
  cases i with
  | if_icmp c off => cases c <;> (unfold ts_step at he; dsimp only at he; split at he <;> first | exact lc_br_s hl hst.2.2 he | cases he)
  | ifCond c off => cases c <;> (unfold ts_step at he; dsimp only at he; split at he <;> first | exact lc_br_s hl hst.2 he | cases he)
  | _ => first | (cases hp; done) | (unfold ts_step at he; dsimp only at he; repeat' (split at he)); all_goals first | (cases he; done) | (cases he; exact ⟨hl, trivial, hst⟩) | (cases he; exact ⟨hl, trivial, hst.2⟩) | (cases he; exact ⟨hl, trivial, hst.2.2⟩) | (cases he; exact ⟨hl, hst⟩) | (cases he; exact ⟨hl, hst.2⟩) | (cases he; exact ⟨lc_set (v := .inl _) hl trivial, hst⟩) | (cases he; exact ⟨lc_set hl trivial, hst.2⟩) | (cases he; exact ⟨lc_set hl hst.1, hst.2⟩) | (cases he; exact ⟨hl, hl _ _ (by assumption), hst⟩) | (cases he; exact ⟨hl, hst.1, hst.1, hst.2⟩) | (cases he; exact ⟨hl, hst.1, hst.2.1, hst.1, hst.2.2⟩) | (cases he; exact ⟨hl, hst.1, hst.2.1, hst.1, hst.2.1, hst.2.2⟩) | (cases he; exact fun v hv => by cases hv; first | trivial | exact hst.1) | (cases he; exact fun v hv => by cases hv) | exact lc_to_s hl hst he | exact lc_to_s hl hst.2 he
end LOC

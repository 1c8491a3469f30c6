/-! ===== say, as a contract ===== -/
theorem told_0 {S : ST} (h : S.tk = 0) : told S S.tx 0 = S := by
  obtain ⟨N, w, tx, tk, z, D, l, pw, kb, kw⟩ := S
  have h : tk = 0 := h
  subst h
  rfl
theorem c_say (l : Launch) (D D' : va_G) (B : Nat) (cA : Nat → ClassId) (cb : ClassId) {h sz T : Nat} {t : List Nat} {S : ST} {u : lt_m} {vs : List Int32} (h0 : S.tk = 0) (hcp : cP T S vs u) (hlen : t.length ≤ 60) (hc : ∀ j, t.getD j 0 < 128) :
    Met l yL_say (jws Ysay) ({ frames := 13, cells := 0, slots := 0, locals := 530 } : Room) (va_Pc [.ref B, .ref h] (fun U => U.heap.size = sz ∧ ts_St D B cA (ts_fl u) U ∧ va_K D' jcl [(cb, .byte)] U ∧ jZ (sayA B sz) U U.heap ∧ jStr (sayA B sz) h t U U.heap)) (fun _ st o t' => o = .returned none ∧ (∃ (u' : lt_m) (tx : Nat → Nat) (vs' : List Int32), ts_Wd D B cA (ts_fl u') t'.heap ∧ cP T (told S tx t.length) vs' u' ∧ ∀ j, j < t.length → tx j = t.getD j 0) ∧ va_F (sayA B sz) st t') 0 0 (sayA B sz) := by
  refine Met.ofW (cc := cL_say) (maxL := 5) (ret := none) (by decide) rfl ?_
  intro p e s m args below meth c s₁ Bd hml hv
  obtain ⟨rfl, hsz, hSt, hK', hZ, hT⟩ := hv
  subst hsz
  obtain ⟨hWd, hK, hNw, hA4, hA2, hB, hz⟩ := hSt
  have hx := Bd.exec
  have hb := Bd.bytes
  have hret := Bd.returns
  have hlk := Bd.notSynchronized
  have hts := atoms_spec (ws := jws Ysay) Bd.pre
  have hgd : ∀ w, jgd w → w.before #[Value.ref B, Value.ref h] s = true := fun w hw => hts w (List.mem_cons_of_mem _ (List.mem_filter.mpr hw))
  have hwt : ∀ w ∈ ts_ws Ysay, w.before #[Value.ref B, Value.ref h] s = true := by
    intro w hw
    rcases List.mem_cons.mp hw with e | e
    · subst e; exact hts _ List.mem_cons_self
    · have := List.mem_filter.mp e
      exact hgd w ⟨List.mem_append_left _ this.1, this.2⟩
  have hown : s.vm.findClass RL = some m.cls := findClass_of_methodNamed Bd.named
  have hsz : s.heap.size = s.heap.size := rfl
  have C : sayC p (headSpec (jws Ysay) ({ frames := 13, cells := 0, slots := 0, locals := 530 } : Room)).room s m #[Value.ref B, Value.ref h] meth c D D' B cA cb h t :=
    ⟨⟨⟨hx, hb, hml, hown, fun w hw => absurd hw List.not_mem_nil⟩, hgd, hK', by show 9 ≤ 13; decide, by show 400 ≤ 530; decide⟩,
     ⟨hx, hb, hml, hown, hwt, hK, hNw, hA4, hA2, hB, Or.inr rfl, (name_of_methodNamed Bd.named Bd.method).1, rfl, hret, hlk, by show 13 ≤ 13; decide, by show 40 * 12 + 39 ≤ 530; decide, by rw [Nat.sub_self]; exact Nat.zero_le _, by rw [Nat.sub_self]; exact Nat.zero_le _, fun k hk => Or.inl ⟨Nat.le_add_right _ _, Nat.add_lt_add_left hk _⟩, Or.inl rfl⟩, hZ, hT, hlen, hc⟩
  have hS : va_S (sayA B s.heap.size) s.heap s.heap [] := va_S.rf
  have hl := lv_entry ([.ref B, .ref h]) (n := 5) (Nat.le_of_ble_eq_true rfl)
  rw [lg_entry_eq]
  generalize (lg_sl ([.ref B, .ref h]) ++ List.replicate (5 - (lg_sl ([.ref B, .ref h])).length) Slot.unset).toArray = sl at hl ⊢
  have hl : lv_has sl 5 [(0, .ref B), (1, .ref h)] := hl
  refine lv_iconst (v := nI 0) hx hb dL_say_0 (by decide) ?_
  refine lv_istore_n (lv' := [(2, .int (nI 0)), (0, .ref B), (1, .ref h)]) hx hb dL_say_1 rfl hl (by decide) rfl (fun sl hl => ?_)
  have ht : told S S.tx 0 = S := told_0 h0
  refine say_loop C (T := T) (S := S) (fun H1 locs1 u' tx vs' sl1 hW1 hS1 hcp1 htx => ?_) 20 0 _ _ _ u S.tx vs (by omega) (by omega) hWd hS (by rw [ht]; exact hcp) (fun j hj => absurd hj (Nat.not_lt_zero j)) hl
  exact W.vret hx hb hret (fun t9 ht9 hW9 => ⟨rfl, ⟨u', tx, vs', by rw [ht9]; exact hW1, hcp1, htx⟩, hS1.F ht9⟩) hS1.2.2 dL_say_77

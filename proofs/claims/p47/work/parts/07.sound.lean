/-! ===== runs, methods: what one step keeps; the interpreter is sound ===== -/
def ts_ni (y : Nat) : Prop := ∀ q, ts_mL[y]? = some q → ¬ q.1.name = "<init>"
theorem ts_ni_all : ts_cL.all (fun e => decide (2 ≤ e.2.2.2.2.1) || match ts_mL[e.2.2.1]? with | some q => decide (¬ q.1.name = "<init>") | none => true) = true := by decide +kernel
theorem ts_ni_of {o x y n k z : Nat} (h : ts_cal o x = some (y, n, k, z)) (hk : k < 2) : ts_ni y := by
  intro q hq
  have h1 := List.all_eq_true.mp ts_ni_all _ (ts_cal_of h)
  dsimp only at h1
  rw [hq] at h1
  simp only [Bool.or_eq_true, decide_eq_true_eq] at h1
  rcases h1 with h1 | h1
  · omega
  · exact h1
theorem ts_to_M {pc : Nat} {off : Int} {ls : List (Option ts_V)} {st : List ts_V} {M : ts_M} {r : ts_F ⊕ ts_R} (h : ts_to pc off ls st M = some r) : ∃ f : ts_F, r = .inl f ∧ f.2.2.2 = M := by
  unfold ts_to at h
  split at h
  · cases h; exact ⟨_, rfl, rfl⟩
  · cases h
theorem ts_br_M {c : Prop} [Decidable c] {pc : Nat} {off : Int} {ls : List (Option ts_V)} {st : List ts_V} {M : ts_M} {r : ts_F ⊕ ts_R} (h : ts_br c pc off ls st M = some r) : ∃ f : ts_F, r = .inl f ∧ f.2.2.2 = M := by
  unfold ts_br at h
  split at h
  · split at h
    · cases h; exact ⟨_, rfl, rfl⟩
    · cases h; exact ⟨_, rfl, rfl⟩
  · cases h
theorem ts_back_M {k : Nat} {o : Option ts_R} {pc : Nat} {ls : List (Option ts_V)} {st : List ts_V} {r : ts_F ⊕ ts_R} (h : ts_back k o pc ls st = some r) : ∃ (f : ts_F) (v : Option ts_V), r = .inl f ∧ o = some (v, f.2.2.2) := by
  unfold ts_back at h
  split at h <;> first | (split at h <;> first | (cases h; exact ⟨_, _, rfl, rfl⟩) | cases h) | cases h
/-- what any step does to the memory -/
def ts_RL (call : ts_C) (Y : ts_Y) (P : ts_M → ts_M → Prop) : Prop := (∀ M, P M M) ∧ (∀ M a j v, P M (ts_wrI M a j v)) ∧ (∀ M a j v, P M (ts_wrL M a j v)) ∧ (∀ M a c j (v : Nat), ts_sh a = (0, c) → (Y.1.name = "<init>" ∨ ts_mu c j = true) → P M (ts_wrR M a j (some v))) ∧
  (Y.1.name = "<init>" → ∀ M a j (v : Nat), P M (ts_wrR M a j (some v))) ∧ (Y.1.name = "<init>" → ∀ M, P M (ts_new M)) ∧ (∀ y As M v M', ts_ni y → call y As M = some (v, M') → P M M') ∧ (Y.1.name = "<init>" → ∀ y As M v M', call y As M = some (v, M') → P M M')
theorem ts_step_rel {call : ts_C} {Y : ts_Y} {P : ts_M → ts_M → Prop} (hP : ts_RL call Y P) {i : Instr} {len pc : Nat} {ls : List (Option ts_V)} {st : List ts_V} {M : ts_M} {r : ts_F ⊕ ts_R} (hs : ts_step call Y i len pc ls st M = some r) (hci : ts_ci i = true → Y.1.name = "<init>") :
    (∃ f : ts_F, r = .inl f ∧ P M f.2.2.2) ∨ (∃ v, r = .inr (v, M) ∧ (i = .ireturn ∨ i = .lreturn ∨ i = .return_ ∨ i = .areturn)) := by
  obtain ⟨h0, hI, hLo, hR, hRa, hnew, hc1, hc2⟩ := hP
  cases i with
  | iadd =>
    unfold ts_step at hs
    dsimp only at hs
    repeat' (split at hs)
    all_goals first | (obtain ⟨f, rfl, hf⟩ := ts_to_M hs; exact Or.inl ⟨f, rfl, by rw [hf]; exact h0 _⟩) | (obtain ⟨f, rfl, hf⟩ := ts_br_M hs; exact Or.inl ⟨f, rfl, by rw [hf]; exact h0 _⟩) | (cases hs; exact Or.inl ⟨_, rfl, h0 _⟩) | cases hs
  | isub =>
    unfold ts_step at hs
    dsimp only at hs
    repeat' (split at hs)
    all_goals first | (obtain ⟨f, rfl, hf⟩ := ts_to_M hs; exact Or.inl ⟨f, rfl, by rw [hf]; exact h0 _⟩) | (obtain ⟨f, rfl, hf⟩ := ts_br_M hs; exact Or.inl ⟨f, rfl, by rw [hf]; exact h0 _⟩) | (cases hs; exact Or.inl ⟨_, rfl, h0 _⟩) | cases hs
  | imul =>
    unfold ts_step at hs
    dsimp only at hs
    repeat' (split at hs)
    all_goals first | (obtain ⟨f, rfl, hf⟩ := ts_to_M hs; exact Or.inl ⟨f, rfl, by rw [hf]; exact h0 _⟩) | (obtain ⟨f, rfl, hf⟩ := ts_br_M hs; exact Or.inl ⟨f, rfl, by rw [hf]; exact h0 _⟩) | (cases hs; exact Or.inl ⟨_, rfl, h0 _⟩) | cases hs
  | iand =>
    unfold ts_step at hs
    dsimp only at hs
    repeat' (split at hs)
    all_goals first | (obtain ⟨f, rfl, hf⟩ := ts_to_M hs; exact Or.inl ⟨f, rfl, by rw [hf]; exact h0 _⟩) | (obtain ⟨f, rfl, hf⟩ := ts_br_M hs; exact Or.inl ⟨f, rfl, by rw [hf]; exact h0 _⟩) | (cases hs; exact Or.inl ⟨_, rfl, h0 _⟩) | cases hs
  | ior =>
    unfold ts_step at hs
    dsimp only at hs
    repeat' (split at hs)
    all_goals first | (obtain ⟨f, rfl, hf⟩ := ts_to_M hs; exact Or.inl ⟨f, rfl, by rw [hf]; exact h0 _⟩) | (obtain ⟨f, rfl, hf⟩ := ts_br_M hs; exact Or.inl ⟨f, rfl, by rw [hf]; exact h0 _⟩) | (cases hs; exact Or.inl ⟨_, rfl, h0 _⟩) | cases hs
  | ixor =>
    unfold ts_step at hs
    dsimp only at hs
    repeat' (split at hs)
    all_goals first | (obtain ⟨f, rfl, hf⟩ := ts_to_M hs; exact Or.inl ⟨f, rfl, by rw [hf]; exact h0 _⟩) | (obtain ⟨f, rfl, hf⟩ := ts_br_M hs; exact Or.inl ⟨f, rfl, by rw [hf]; exact h0 _⟩) | (cases hs; exact Or.inl ⟨_, rfl, h0 _⟩) | cases hs
  | ishl =>
    unfold ts_step at hs
    dsimp only at hs
    repeat' (split at hs)
    all_goals first | (obtain ⟨f, rfl, hf⟩ := ts_to_M hs; exact Or.inl ⟨f, rfl, by rw [hf]; exact h0 _⟩) | (obtain ⟨f, rfl, hf⟩ := ts_br_M hs; exact Or.inl ⟨f, rfl, by rw [hf]; exact h0 _⟩) | (cases hs; exact Or.inl ⟨_, rfl, h0 _⟩) | cases hs
  | ishr =>
    unfold ts_step at hs
    dsimp only at hs
    repeat' (split at hs)
    all_goals first | (obtain ⟨f, rfl, hf⟩ := ts_to_M hs; exact Or.inl ⟨f, rfl, by rw [hf]; exact h0 _⟩) | (obtain ⟨f, rfl, hf⟩ := ts_br_M hs; exact Or.inl ⟨f, rfl, by rw [hf]; exact h0 _⟩) | (cases hs; exact Or.inl ⟨_, rfl, h0 _⟩) | cases hs
  | lmul =>
    unfold ts_step at hs
    dsimp only at hs
    repeat' (split at hs)
    all_goals first | (obtain ⟨f, rfl, hf⟩ := ts_to_M hs; exact Or.inl ⟨f, rfl, by rw [hf]; exact h0 _⟩) | (obtain ⟨f, rfl, hf⟩ := ts_br_M hs; exact Or.inl ⟨f, rfl, by rw [hf]; exact h0 _⟩) | (cases hs; exact Or.inl ⟨_, rfl, h0 _⟩) | cases hs
  | ladd =>
    unfold ts_step at hs
    dsimp only at hs
    repeat' (split at hs)
    all_goals first | (obtain ⟨f, rfl, hf⟩ := ts_to_M hs; exact Or.inl ⟨f, rfl, by rw [hf]; exact h0 _⟩) | (obtain ⟨f, rfl, hf⟩ := ts_br_M hs; exact Or.inl ⟨f, rfl, by rw [hf]; exact h0 _⟩) | (cases hs; exact Or.inl ⟨_, rfl, h0 _⟩) | cases hs
  | lsub =>
    unfold ts_step at hs
    dsimp only at hs
    repeat' (split at hs)
    all_goals first | (obtain ⟨f, rfl, hf⟩ := ts_to_M hs; exact Or.inl ⟨f, rfl, by rw [hf]; exact h0 _⟩) | (obtain ⟨f, rfl, hf⟩ := ts_br_M hs; exact Or.inl ⟨f, rfl, by rw [hf]; exact h0 _⟩) | (cases hs; exact Or.inl ⟨_, rfl, h0 _⟩) | cases hs
  | iushr =>
    unfold ts_step at hs
    dsimp only at hs
    repeat' (split at hs)
    all_goals first | (obtain ⟨f, rfl, hf⟩ := ts_to_M hs; exact Or.inl ⟨f, rfl, by rw [hf]; exact h0 _⟩) | (obtain ⟨f, rfl, hf⟩ := ts_br_M hs; exact Or.inl ⟨f, rfl, by rw [hf]; exact h0 _⟩) | (cases hs; exact Or.inl ⟨_, rfl, h0 _⟩) | cases hs
  | lcmp =>
    unfold ts_step at hs
    dsimp only at hs
    repeat' (split at hs)
    all_goals first | (obtain ⟨f, rfl, hf⟩ := ts_to_M hs; exact Or.inl ⟨f, rfl, by rw [hf]; exact h0 _⟩) | (obtain ⟨f, rfl, hf⟩ := ts_br_M hs; exact Or.inl ⟨f, rfl, by rw [hf]; exact h0 _⟩) | (cases hs; exact Or.inl ⟨_, rfl, h0 _⟩) | cases hs
  | idiv =>
    unfold ts_step at hs
    dsimp only at hs
    repeat' (split at hs)
    all_goals first | (obtain ⟨f, rfl, hf⟩ := ts_to_M hs; exact Or.inl ⟨f, rfl, by rw [hf]; exact h0 _⟩) | (obtain ⟨f, rfl, hf⟩ := ts_br_M hs; exact Or.inl ⟨f, rfl, by rw [hf]; exact h0 _⟩) | (cases hs; exact Or.inl ⟨_, rfl, h0 _⟩) | cases hs
  | irem =>
    unfold ts_step at hs
    dsimp only at hs
    repeat' (split at hs)
    all_goals first | (obtain ⟨f, rfl, hf⟩ := ts_to_M hs; exact Or.inl ⟨f, rfl, by rw [hf]; exact h0 _⟩) | (obtain ⟨f, rfl, hf⟩ := ts_br_M hs; exact Or.inl ⟨f, rfl, by rw [hf]; exact h0 _⟩) | (cases hs; exact Or.inl ⟨_, rfl, h0 _⟩) | cases hs
  | ldiv =>
    unfold ts_step at hs
    dsimp only at hs
    repeat' (split at hs)
    all_goals first | (obtain ⟨f, rfl, hf⟩ := ts_to_M hs; exact Or.inl ⟨f, rfl, by rw [hf]; exact h0 _⟩) | (obtain ⟨f, rfl, hf⟩ := ts_br_M hs; exact Or.inl ⟨f, rfl, by rw [hf]; exact h0 _⟩) | (cases hs; exact Or.inl ⟨_, rfl, h0 _⟩) | cases hs
  | i2b =>
    unfold ts_step at hs
    dsimp only at hs
    repeat' (split at hs)
    all_goals first | (obtain ⟨f, rfl, hf⟩ := ts_to_M hs; exact Or.inl ⟨f, rfl, by rw [hf]; exact h0 _⟩) | (obtain ⟨f, rfl, hf⟩ := ts_br_M hs; exact Or.inl ⟨f, rfl, by rw [hf]; exact h0 _⟩) | (cases hs; exact Or.inl ⟨_, rfl, h0 _⟩) | cases hs
  | i2l =>
    unfold ts_step at hs
    dsimp only at hs
    repeat' (split at hs)
    all_goals first | (obtain ⟨f, rfl, hf⟩ := ts_to_M hs; exact Or.inl ⟨f, rfl, by rw [hf]; exact h0 _⟩) | (obtain ⟨f, rfl, hf⟩ := ts_br_M hs; exact Or.inl ⟨f, rfl, by rw [hf]; exact h0 _⟩) | (cases hs; exact Or.inl ⟨_, rfl, h0 _⟩) | cases hs
  | l2i =>
    unfold ts_step at hs
    dsimp only at hs
    repeat' (split at hs)
    all_goals first | (obtain ⟨f, rfl, hf⟩ := ts_to_M hs; exact Or.inl ⟨f, rfl, by rw [hf]; exact h0 _⟩) | (obtain ⟨f, rfl, hf⟩ := ts_br_M hs; exact Or.inl ⟨f, rfl, by rw [hf]; exact h0 _⟩) | (cases hs; exact Or.inl ⟨_, rfl, h0 _⟩) | cases hs
  | iconst n =>
    unfold ts_step at hs
    dsimp only at hs
    repeat' (split at hs)
    all_goals first | (obtain ⟨f, rfl, hf⟩ := ts_to_M hs; exact Or.inl ⟨f, rfl, by rw [hf]; exact h0 _⟩) | (obtain ⟨f, rfl, hf⟩ := ts_br_M hs; exact Or.inl ⟨f, rfl, by rw [hf]; exact h0 _⟩) | (cases hs; exact Or.inl ⟨_, rfl, h0 _⟩) | cases hs
  | bipush n =>
    unfold ts_step at hs
    dsimp only at hs
    repeat' (split at hs)
    all_goals first | (obtain ⟨f, rfl, hf⟩ := ts_to_M hs; exact Or.inl ⟨f, rfl, by rw [hf]; exact h0 _⟩) | (obtain ⟨f, rfl, hf⟩ := ts_br_M hs; exact Or.inl ⟨f, rfl, by rw [hf]; exact h0 _⟩) | (cases hs; exact Or.inl ⟨_, rfl, h0 _⟩) | cases hs
  | sipush n =>
    unfold ts_step at hs
    dsimp only at hs
    repeat' (split at hs)
    all_goals first | (obtain ⟨f, rfl, hf⟩ := ts_to_M hs; exact Or.inl ⟨f, rfl, by rw [hf]; exact h0 _⟩) | (obtain ⟨f, rfl, hf⟩ := ts_br_M hs; exact Or.inl ⟨f, rfl, by rw [hf]; exact h0 _⟩) | (cases hs; exact Or.inl ⟨_, rfl, h0 _⟩) | cases hs
  | lconst n =>
    unfold ts_step at hs
    dsimp only at hs
    repeat' (split at hs)
    all_goals first | (obtain ⟨f, rfl, hf⟩ := ts_to_M hs; exact Or.inl ⟨f, rfl, by rw [hf]; exact h0 _⟩) | (obtain ⟨f, rfl, hf⟩ := ts_br_M hs; exact Or.inl ⟨f, rfl, by rw [hf]; exact h0 _⟩) | (cases hs; exact Or.inl ⟨_, rfl, h0 _⟩) | cases hs
  | aconst_null =>
    unfold ts_step at hs
    dsimp only at hs
    repeat' (split at hs)
    all_goals first | (obtain ⟨f, rfl, hf⟩ := ts_to_M hs; exact Or.inl ⟨f, rfl, by rw [hf]; exact h0 _⟩) | (obtain ⟨f, rfl, hf⟩ := ts_br_M hs; exact Or.inl ⟨f, rfl, by rw [hf]; exact h0 _⟩) | (cases hs; exact Or.inl ⟨_, rfl, h0 _⟩) | cases hs
  | ldc x =>
    unfold ts_step at hs
    dsimp only at hs
    repeat' (split at hs)
    all_goals first | (obtain ⟨f, rfl, hf⟩ := ts_to_M hs; exact Or.inl ⟨f, rfl, by rw [hf]; exact h0 _⟩) | (obtain ⟨f, rfl, hf⟩ := ts_br_M hs; exact Or.inl ⟨f, rfl, by rw [hf]; exact h0 _⟩) | (cases hs; exact Or.inl ⟨_, rfl, h0 _⟩) | cases hs
  | ldc_w x =>
    unfold ts_step at hs
    dsimp only at hs
    repeat' (split at hs)
    all_goals first | (obtain ⟨f, rfl, hf⟩ := ts_to_M hs; exact Or.inl ⟨f, rfl, by rw [hf]; exact h0 _⟩) | (obtain ⟨f, rfl, hf⟩ := ts_br_M hs; exact Or.inl ⟨f, rfl, by rw [hf]; exact h0 _⟩) | (cases hs; exact Or.inl ⟨_, rfl, h0 _⟩) | cases hs
  | ldc2_w x =>
    unfold ts_step at hs
    dsimp only at hs
    repeat' (split at hs)
    all_goals first | (obtain ⟨f, rfl, hf⟩ := ts_to_M hs; exact Or.inl ⟨f, rfl, by rw [hf]; exact h0 _⟩) | (obtain ⟨f, rfl, hf⟩ := ts_br_M hs; exact Or.inl ⟨f, rfl, by rw [hf]; exact h0 _⟩) | (cases hs; exact Or.inl ⟨_, rfl, h0 _⟩) | cases hs
  | iload n =>
    unfold ts_step at hs
    dsimp only at hs
    repeat' (split at hs)
    all_goals first | (obtain ⟨f, rfl, hf⟩ := ts_to_M hs; exact Or.inl ⟨f, rfl, by rw [hf]; exact h0 _⟩) | (obtain ⟨f, rfl, hf⟩ := ts_br_M hs; exact Or.inl ⟨f, rfl, by rw [hf]; exact h0 _⟩) | (cases hs; exact Or.inl ⟨_, rfl, h0 _⟩) | cases hs
  | iload_n n =>
    unfold ts_step at hs
    dsimp only at hs
    repeat' (split at hs)
    all_goals first | (obtain ⟨f, rfl, hf⟩ := ts_to_M hs; exact Or.inl ⟨f, rfl, by rw [hf]; exact h0 _⟩) | (obtain ⟨f, rfl, hf⟩ := ts_br_M hs; exact Or.inl ⟨f, rfl, by rw [hf]; exact h0 _⟩) | (cases hs; exact Or.inl ⟨_, rfl, h0 _⟩) | cases hs
  | lload n =>
    unfold ts_step at hs
    dsimp only at hs
    repeat' (split at hs)
    all_goals first | (obtain ⟨f, rfl, hf⟩ := ts_to_M hs; exact Or.inl ⟨f, rfl, by rw [hf]; exact h0 _⟩) | (obtain ⟨f, rfl, hf⟩ := ts_br_M hs; exact Or.inl ⟨f, rfl, by rw [hf]; exact h0 _⟩) | (cases hs; exact Or.inl ⟨_, rfl, h0 _⟩) | cases hs
  | lload_n n =>
    unfold ts_step at hs
    dsimp only at hs
    repeat' (split at hs)
    all_goals first | (obtain ⟨f, rfl, hf⟩ := ts_to_M hs; exact Or.inl ⟨f, rfl, by rw [hf]; exact h0 _⟩) | (obtain ⟨f, rfl, hf⟩ := ts_br_M hs; exact Or.inl ⟨f, rfl, by rw [hf]; exact h0 _⟩) | (cases hs; exact Or.inl ⟨_, rfl, h0 _⟩) | cases hs
  | aload n =>
    unfold ts_step at hs
    dsimp only at hs
    repeat' (split at hs)
    all_goals first | (obtain ⟨f, rfl, hf⟩ := ts_to_M hs; exact Or.inl ⟨f, rfl, by rw [hf]; exact h0 _⟩) | (obtain ⟨f, rfl, hf⟩ := ts_br_M hs; exact Or.inl ⟨f, rfl, by rw [hf]; exact h0 _⟩) | (cases hs; exact Or.inl ⟨_, rfl, h0 _⟩) | cases hs
  | aload_n n =>
    unfold ts_step at hs
    dsimp only at hs
    repeat' (split at hs)
    all_goals first | (obtain ⟨f, rfl, hf⟩ := ts_to_M hs; exact Or.inl ⟨f, rfl, by rw [hf]; exact h0 _⟩) | (obtain ⟨f, rfl, hf⟩ := ts_br_M hs; exact Or.inl ⟨f, rfl, by rw [hf]; exact h0 _⟩) | (cases hs; exact Or.inl ⟨_, rfl, h0 _⟩) | cases hs
  | istore n =>
    unfold ts_step at hs
    dsimp only at hs
    repeat' (split at hs)
    all_goals first | (obtain ⟨f, rfl, hf⟩ := ts_to_M hs; exact Or.inl ⟨f, rfl, by rw [hf]; exact h0 _⟩) | (obtain ⟨f, rfl, hf⟩ := ts_br_M hs; exact Or.inl ⟨f, rfl, by rw [hf]; exact h0 _⟩) | (cases hs; exact Or.inl ⟨_, rfl, h0 _⟩) | cases hs
  | istore_n n =>
    unfold ts_step at hs
    dsimp only at hs
    repeat' (split at hs)
    all_goals first | (obtain ⟨f, rfl, hf⟩ := ts_to_M hs; exact Or.inl ⟨f, rfl, by rw [hf]; exact h0 _⟩) | (obtain ⟨f, rfl, hf⟩ := ts_br_M hs; exact Or.inl ⟨f, rfl, by rw [hf]; exact h0 _⟩) | (cases hs; exact Or.inl ⟨_, rfl, h0 _⟩) | cases hs
  | lstore n =>
    unfold ts_step at hs
    dsimp only at hs
    repeat' (split at hs)
    all_goals first | (obtain ⟨f, rfl, hf⟩ := ts_to_M hs; exact Or.inl ⟨f, rfl, by rw [hf]; exact h0 _⟩) | (obtain ⟨f, rfl, hf⟩ := ts_br_M hs; exact Or.inl ⟨f, rfl, by rw [hf]; exact h0 _⟩) | (cases hs; exact Or.inl ⟨_, rfl, h0 _⟩) | cases hs
  | lstore_n n =>
    unfold ts_step at hs
    dsimp only at hs
    repeat' (split at hs)
    all_goals first | (obtain ⟨f, rfl, hf⟩ := ts_to_M hs; exact Or.inl ⟨f, rfl, by rw [hf]; exact h0 _⟩) | (obtain ⟨f, rfl, hf⟩ := ts_br_M hs; exact Or.inl ⟨f, rfl, by rw [hf]; exact h0 _⟩) | (cases hs; exact Or.inl ⟨_, rfl, h0 _⟩) | cases hs
  | astore n =>
    unfold ts_step at hs
    dsimp only at hs
    repeat' (split at hs)
    all_goals first | (obtain ⟨f, rfl, hf⟩ := ts_to_M hs; exact Or.inl ⟨f, rfl, by rw [hf]; exact h0 _⟩) | (obtain ⟨f, rfl, hf⟩ := ts_br_M hs; exact Or.inl ⟨f, rfl, by rw [hf]; exact h0 _⟩) | (cases hs; exact Or.inl ⟨_, rfl, h0 _⟩) | cases hs
  | astore_n n =>
    unfold ts_step at hs
    dsimp only at hs
    repeat' (split at hs)
    all_goals first | (obtain ⟨f, rfl, hf⟩ := ts_to_M hs; exact Or.inl ⟨f, rfl, by rw [hf]; exact h0 _⟩) | (obtain ⟨f, rfl, hf⟩ := ts_br_M hs; exact Or.inl ⟨f, rfl, by rw [hf]; exact h0 _⟩) | (cases hs; exact Or.inl ⟨_, rfl, h0 _⟩) | cases hs
  | iinc n d2 =>
    unfold ts_step at hs
    dsimp only at hs
    repeat' (split at hs)
    all_goals first | (obtain ⟨f, rfl, hf⟩ := ts_to_M hs; exact Or.inl ⟨f, rfl, by rw [hf]; exact h0 _⟩) | (obtain ⟨f, rfl, hf⟩ := ts_br_M hs; exact Or.inl ⟨f, rfl, by rw [hf]; exact h0 _⟩) | (cases hs; exact Or.inl ⟨_, rfl, h0 _⟩) | cases hs
  | dup =>
    unfold ts_step at hs
    dsimp only at hs
    repeat' (split at hs)
    all_goals first | (obtain ⟨f, rfl, hf⟩ := ts_to_M hs; exact Or.inl ⟨f, rfl, by rw [hf]; exact h0 _⟩) | (obtain ⟨f, rfl, hf⟩ := ts_br_M hs; exact Or.inl ⟨f, rfl, by rw [hf]; exact h0 _⟩) | (cases hs; exact Or.inl ⟨_, rfl, h0 _⟩) | cases hs
  | pop =>
    unfold ts_step at hs
    dsimp only at hs
    repeat' (split at hs)
    all_goals first | (obtain ⟨f, rfl, hf⟩ := ts_to_M hs; exact Or.inl ⟨f, rfl, by rw [hf]; exact h0 _⟩) | (obtain ⟨f, rfl, hf⟩ := ts_br_M hs; exact Or.inl ⟨f, rfl, by rw [hf]; exact h0 _⟩) | (cases hs; exact Or.inl ⟨_, rfl, h0 _⟩) | cases hs
  | dup_x1 =>
    unfold ts_step at hs
    dsimp only at hs
    repeat' (split at hs)
    all_goals first | (obtain ⟨f, rfl, hf⟩ := ts_to_M hs; exact Or.inl ⟨f, rfl, by rw [hf]; exact h0 _⟩) | (obtain ⟨f, rfl, hf⟩ := ts_br_M hs; exact Or.inl ⟨f, rfl, by rw [hf]; exact h0 _⟩) | (cases hs; exact Or.inl ⟨_, rfl, h0 _⟩) | cases hs
  | dup2 =>
    unfold ts_step at hs
    dsimp only at hs
    repeat' (split at hs)
    all_goals first | (obtain ⟨f, rfl, hf⟩ := ts_to_M hs; exact Or.inl ⟨f, rfl, by rw [hf]; exact h0 _⟩) | (obtain ⟨f, rfl, hf⟩ := ts_br_M hs; exact Or.inl ⟨f, rfl, by rw [hf]; exact h0 _⟩) | (cases hs; exact Or.inl ⟨_, rfl, h0 _⟩) | cases hs
  | goto off =>
    unfold ts_step at hs
    dsimp only at hs
    repeat' (split at hs)
    all_goals first | (obtain ⟨f, rfl, hf⟩ := ts_to_M hs; exact Or.inl ⟨f, rfl, by rw [hf]; exact h0 _⟩) | (obtain ⟨f, rfl, hf⟩ := ts_br_M hs; exact Or.inl ⟨f, rfl, by rw [hf]; exact h0 _⟩) | (cases hs; exact Or.inl ⟨_, rfl, h0 _⟩) | cases hs
  | if_icmp op off =>
    cases op with
    | eq =>
      unfold ts_step at hs
      dsimp only at hs
      repeat' (split at hs)
      all_goals first | (obtain ⟨f, rfl, hf⟩ := ts_to_M hs; exact Or.inl ⟨f, rfl, by rw [hf]; exact h0 _⟩) | (obtain ⟨f, rfl, hf⟩ := ts_br_M hs; exact Or.inl ⟨f, rfl, by rw [hf]; exact h0 _⟩) | (cases hs; exact Or.inl ⟨_, rfl, h0 _⟩) | cases hs
    | ne =>
      unfold ts_step at hs
      dsimp only at hs
      repeat' (split at hs)
      all_goals first | (obtain ⟨f, rfl, hf⟩ := ts_to_M hs; exact Or.inl ⟨f, rfl, by rw [hf]; exact h0 _⟩) | (obtain ⟨f, rfl, hf⟩ := ts_br_M hs; exact Or.inl ⟨f, rfl, by rw [hf]; exact h0 _⟩) | (cases hs; exact Or.inl ⟨_, rfl, h0 _⟩) | cases hs
    | lt =>
      unfold ts_step at hs
      dsimp only at hs
      repeat' (split at hs)
      all_goals first | (obtain ⟨f, rfl, hf⟩ := ts_to_M hs; exact Or.inl ⟨f, rfl, by rw [hf]; exact h0 _⟩) | (obtain ⟨f, rfl, hf⟩ := ts_br_M hs; exact Or.inl ⟨f, rfl, by rw [hf]; exact h0 _⟩) | (cases hs; exact Or.inl ⟨_, rfl, h0 _⟩) | cases hs
    | ge =>
      unfold ts_step at hs
      dsimp only at hs
      repeat' (split at hs)
      all_goals first | (obtain ⟨f, rfl, hf⟩ := ts_to_M hs; exact Or.inl ⟨f, rfl, by rw [hf]; exact h0 _⟩) | (obtain ⟨f, rfl, hf⟩ := ts_br_M hs; exact Or.inl ⟨f, rfl, by rw [hf]; exact h0 _⟩) | (cases hs; exact Or.inl ⟨_, rfl, h0 _⟩) | cases hs
    | gt =>
      unfold ts_step at hs
      dsimp only at hs
      repeat' (split at hs)
      all_goals first | (obtain ⟨f, rfl, hf⟩ := ts_to_M hs; exact Or.inl ⟨f, rfl, by rw [hf]; exact h0 _⟩) | (obtain ⟨f, rfl, hf⟩ := ts_br_M hs; exact Or.inl ⟨f, rfl, by rw [hf]; exact h0 _⟩) | (cases hs; exact Or.inl ⟨_, rfl, h0 _⟩) | cases hs
    | le =>
      unfold ts_step at hs
      dsimp only at hs
      repeat' (split at hs)
      all_goals first | (obtain ⟨f, rfl, hf⟩ := ts_to_M hs; exact Or.inl ⟨f, rfl, by rw [hf]; exact h0 _⟩) | (obtain ⟨f, rfl, hf⟩ := ts_br_M hs; exact Or.inl ⟨f, rfl, by rw [hf]; exact h0 _⟩) | (cases hs; exact Or.inl ⟨_, rfl, h0 _⟩) | cases hs
  | ifCond op off =>
    cases op with
    | eq =>
      unfold ts_step at hs
      dsimp only at hs
      repeat' (split at hs)
      all_goals first | (obtain ⟨f, rfl, hf⟩ := ts_to_M hs; exact Or.inl ⟨f, rfl, by rw [hf]; exact h0 _⟩) | (obtain ⟨f, rfl, hf⟩ := ts_br_M hs; exact Or.inl ⟨f, rfl, by rw [hf]; exact h0 _⟩) | (cases hs; exact Or.inl ⟨_, rfl, h0 _⟩) | cases hs
    | ne =>
      unfold ts_step at hs
      dsimp only at hs
      repeat' (split at hs)
      all_goals first | (obtain ⟨f, rfl, hf⟩ := ts_to_M hs; exact Or.inl ⟨f, rfl, by rw [hf]; exact h0 _⟩) | (obtain ⟨f, rfl, hf⟩ := ts_br_M hs; exact Or.inl ⟨f, rfl, by rw [hf]; exact h0 _⟩) | (cases hs; exact Or.inl ⟨_, rfl, h0 _⟩) | cases hs
    | lt =>
      unfold ts_step at hs
      dsimp only at hs
      repeat' (split at hs)
      all_goals first | (obtain ⟨f, rfl, hf⟩ := ts_to_M hs; exact Or.inl ⟨f, rfl, by rw [hf]; exact h0 _⟩) | (obtain ⟨f, rfl, hf⟩ := ts_br_M hs; exact Or.inl ⟨f, rfl, by rw [hf]; exact h0 _⟩) | (cases hs; exact Or.inl ⟨_, rfl, h0 _⟩) | cases hs
    | ge =>
      unfold ts_step at hs
      dsimp only at hs
      repeat' (split at hs)
      all_goals first | (obtain ⟨f, rfl, hf⟩ := ts_to_M hs; exact Or.inl ⟨f, rfl, by rw [hf]; exact h0 _⟩) | (obtain ⟨f, rfl, hf⟩ := ts_br_M hs; exact Or.inl ⟨f, rfl, by rw [hf]; exact h0 _⟩) | (cases hs; exact Or.inl ⟨_, rfl, h0 _⟩) | cases hs
    | gt =>
      unfold ts_step at hs
      dsimp only at hs
      repeat' (split at hs)
      all_goals first | (obtain ⟨f, rfl, hf⟩ := ts_to_M hs; exact Or.inl ⟨f, rfl, by rw [hf]; exact h0 _⟩) | (obtain ⟨f, rfl, hf⟩ := ts_br_M hs; exact Or.inl ⟨f, rfl, by rw [hf]; exact h0 _⟩) | (cases hs; exact Or.inl ⟨_, rfl, h0 _⟩) | cases hs
    | le =>
      unfold ts_step at hs
      dsimp only at hs
      repeat' (split at hs)
      all_goals first | (obtain ⟨f, rfl, hf⟩ := ts_to_M hs; exact Or.inl ⟨f, rfl, by rw [hf]; exact h0 _⟩) | (obtain ⟨f, rfl, hf⟩ := ts_br_M hs; exact Or.inl ⟨f, rfl, by rw [hf]; exact h0 _⟩) | (cases hs; exact Or.inl ⟨_, rfl, h0 _⟩) | cases hs
  | ifnull off =>
    unfold ts_step at hs
    dsimp only at hs
    repeat' (split at hs)
    all_goals first | (obtain ⟨f, rfl, hf⟩ := ts_to_M hs; exact Or.inl ⟨f, rfl, by rw [hf]; exact h0 _⟩) | (obtain ⟨f, rfl, hf⟩ := ts_br_M hs; exact Or.inl ⟨f, rfl, by rw [hf]; exact h0 _⟩) | (cases hs; exact Or.inl ⟨_, rfl, h0 _⟩) | cases hs
  | ifnonnull off =>
    unfold ts_step at hs
    dsimp only at hs
    repeat' (split at hs)
    all_goals first | (obtain ⟨f, rfl, hf⟩ := ts_to_M hs; exact Or.inl ⟨f, rfl, by rw [hf]; exact h0 _⟩) | (obtain ⟨f, rfl, hf⟩ := ts_br_M hs; exact Or.inl ⟨f, rfl, by rw [hf]; exact h0 _⟩) | (cases hs; exact Or.inl ⟨_, rfl, h0 _⟩) | cases hs
  | tableswitch dflt lo hi offs =>
    unfold ts_step at hs
    dsimp only at hs
    repeat' (split at hs)
    all_goals first | (obtain ⟨f, rfl, hf⟩ := ts_to_M hs; exact Or.inl ⟨f, rfl, by rw [hf]; exact h0 _⟩) | (obtain ⟨f, rfl, hf⟩ := ts_br_M hs; exact Or.inl ⟨f, rfl, by rw [hf]; exact h0 _⟩) | (cases hs; exact Or.inl ⟨_, rfl, h0 _⟩) | cases hs
  | getfield x =>
    unfold ts_step at hs
    dsimp only at hs
    repeat' (split at hs)
    all_goals first | (obtain ⟨f, rfl, hf⟩ := ts_to_M hs; exact Or.inl ⟨f, rfl, by rw [hf]; exact h0 _⟩) | (obtain ⟨f, rfl, hf⟩ := ts_br_M hs; exact Or.inl ⟨f, rfl, by rw [hf]; exact h0 _⟩) | (cases hs; exact Or.inl ⟨_, rfl, h0 _⟩) | cases hs
  | putfield x =>
    unfold ts_step at hs
    dsimp only at hs
    split at hs
    · split at hs
      · cases hs
      · split at hs
        · split at hs
          · cases hs; exact Or.inl ⟨_, rfl, hI _ _ _ _⟩
          · cases hs
        · split at hs
          · next hg => cases hs; exact Or.inl ⟨_, rfl, hR _ _ _ _ _ hg.1 hg.2.2.2⟩
          · cases hs
        · cases hs
    · cases hs
  | iaload =>
    unfold ts_step at hs
    dsimp only at hs
    repeat' (split at hs)
    all_goals first | (obtain ⟨f, rfl, hf⟩ := ts_to_M hs; exact Or.inl ⟨f, rfl, by rw [hf]; exact h0 _⟩) | (obtain ⟨f, rfl, hf⟩ := ts_br_M hs; exact Or.inl ⟨f, rfl, by rw [hf]; exact h0 _⟩) | (cases hs; exact Or.inl ⟨_, rfl, h0 _⟩) | cases hs
  | baload =>
    unfold ts_step at hs
    dsimp only at hs
    repeat' (split at hs)
    all_goals first | (obtain ⟨f, rfl, hf⟩ := ts_to_M hs; exact Or.inl ⟨f, rfl, by rw [hf]; exact h0 _⟩) | (obtain ⟨f, rfl, hf⟩ := ts_br_M hs; exact Or.inl ⟨f, rfl, by rw [hf]; exact h0 _⟩) | (cases hs; exact Or.inl ⟨_, rfl, h0 _⟩) | cases hs
  | laload =>
    unfold ts_step at hs
    dsimp only at hs
    repeat' (split at hs)
    all_goals first | (obtain ⟨f, rfl, hf⟩ := ts_to_M hs; exact Or.inl ⟨f, rfl, by rw [hf]; exact h0 _⟩) | (obtain ⟨f, rfl, hf⟩ := ts_br_M hs; exact Or.inl ⟨f, rfl, by rw [hf]; exact h0 _⟩) | (cases hs; exact Or.inl ⟨_, rfl, h0 _⟩) | cases hs
  | iastore =>
    unfold ts_step at hs
    dsimp only at hs
    repeat' (split at hs)
    all_goals first | (obtain ⟨f, rfl, hf⟩ := ts_to_M hs; exact Or.inl ⟨f, rfl, by rw [hf]; exact h0 _⟩) | (obtain ⟨f, rfl, hf⟩ := ts_br_M hs; exact Or.inl ⟨f, rfl, by rw [hf]; exact h0 _⟩) | (cases hs; exact Or.inl ⟨_, rfl, hI _ _ _ _⟩) | cases hs
  | bastore =>
    unfold ts_step at hs
    dsimp only at hs
    repeat' (split at hs)
    all_goals first | (obtain ⟨f, rfl, hf⟩ := ts_to_M hs; exact Or.inl ⟨f, rfl, by rw [hf]; exact h0 _⟩) | (obtain ⟨f, rfl, hf⟩ := ts_br_M hs; exact Or.inl ⟨f, rfl, by rw [hf]; exact h0 _⟩) | (cases hs; exact Or.inl ⟨_, rfl, hI _ _ _ _⟩) | cases hs
  | lastore =>
    unfold ts_step at hs
    dsimp only at hs
    repeat' (split at hs)
    all_goals first | (obtain ⟨f, rfl, hf⟩ := ts_to_M hs; exact Or.inl ⟨f, rfl, by rw [hf]; exact h0 _⟩) | (obtain ⟨f, rfl, hf⟩ := ts_br_M hs; exact Or.inl ⟨f, rfl, by rw [hf]; exact h0 _⟩) | (cases hs; exact Or.inl ⟨_, rfl, hLo _ _ _ _⟩) | cases hs
  | aaload =>
    unfold ts_step at hs
    dsimp only at hs
    repeat' (split at hs)
    all_goals first | (obtain ⟨f, rfl, hf⟩ := ts_to_M hs; exact Or.inl ⟨f, rfl, by rw [hf]; exact h0 _⟩) | (obtain ⟨f, rfl, hf⟩ := ts_br_M hs; exact Or.inl ⟨f, rfl, by rw [hf]; exact h0 _⟩) | (cases hs; exact Or.inl ⟨_, rfl, h0 _⟩) | cases hs
  | aastore =>
    unfold ts_step at hs
    dsimp only at hs
    repeat' (split at hs)
    all_goals first | (obtain ⟨f, rfl, hf⟩ := ts_to_M hs; exact Or.inl ⟨f, rfl, by rw [hf]; exact h0 _⟩) | (obtain ⟨f, rfl, hf⟩ := ts_br_M hs; exact Or.inl ⟨f, rfl, by rw [hf]; exact h0 _⟩) | (cases hs; exact Or.inl ⟨_, rfl, hRa (hci rfl) _ _ _ _⟩) | cases hs
  | arraylength =>
    unfold ts_step at hs
    dsimp only at hs
    repeat' (split at hs)
    all_goals first | (obtain ⟨f, rfl, hf⟩ := ts_to_M hs; exact Or.inl ⟨f, rfl, by rw [hf]; exact h0 _⟩) | (obtain ⟨f, rfl, hf⟩ := ts_br_M hs; exact Or.inl ⟨f, rfl, by rw [hf]; exact h0 _⟩) | (cases hs; exact Or.inl ⟨_, rfl, h0 _⟩) | cases hs
  | invokevirtual x =>
    unfold ts_step at hs
    dsimp only at hs
    repeat' (split at hs)
    all_goals first | (obtain ⟨f, v, rfl, ho⟩ := ts_back_M hs; exact Or.inl ⟨f, rfl, hc1 _ _ _ _ _ (ts_ni_of (by assumption) (by decide)) ho⟩) | (cases hs; exact Or.inl ⟨_, rfl, h0 _⟩) | cases hs
  | invokespecial x =>
    unfold ts_step at hs
    dsimp only at hs
    repeat' (split at hs)
    all_goals first | (obtain ⟨f, v, rfl, ho⟩ := ts_back_M hs; exact Or.inl ⟨f, rfl, hc2 (hci rfl) _ _ _ _ _ ho⟩) | (cases hs; exact Or.inl ⟨_, rfl, h0 _⟩) | cases hs
  | invokestatic x =>
    unfold ts_step at hs
    dsimp only at hs
    repeat' (split at hs)
    all_goals first | (obtain ⟨f, v, rfl, ho⟩ := ts_back_M hs; exact Or.inl ⟨f, rfl, hc1 _ _ _ _ _ (ts_ni_of (by assumption) (by decide)) ho⟩) | (cases hs; exact Or.inl ⟨_, rfl, h0 _⟩) | cases hs
  | new x =>
    unfold ts_step at hs
    dsimp only at hs
    repeat' (split at hs)
    all_goals first | (obtain ⟨f, rfl, hf⟩ := ts_to_M hs; exact Or.inl ⟨f, rfl, by rw [hf]; exact h0 _⟩) | (obtain ⟨f, rfl, hf⟩ := ts_br_M hs; exact Or.inl ⟨f, rfl, by rw [hf]; exact h0 _⟩) | (cases hs; exact Or.inl ⟨_, rfl, hnew (hci rfl) _⟩) | cases hs
  | newarray t =>
    unfold ts_step at hs
    dsimp only at hs
    repeat' (split at hs)
    all_goals first | (obtain ⟨f, rfl, hf⟩ := ts_to_M hs; exact Or.inl ⟨f, rfl, by rw [hf]; exact h0 _⟩) | (obtain ⟨f, rfl, hf⟩ := ts_br_M hs; exact Or.inl ⟨f, rfl, by rw [hf]; exact h0 _⟩) | (cases hs; exact Or.inl ⟨_, rfl, hnew (hci rfl) _⟩) | cases hs
  | anewarray x =>
    unfold ts_step at hs
    dsimp only at hs
    repeat' (split at hs)
    all_goals first | (obtain ⟨f, rfl, hf⟩ := ts_to_M hs; exact Or.inl ⟨f, rfl, by rw [hf]; exact h0 _⟩) | (obtain ⟨f, rfl, hf⟩ := ts_br_M hs; exact Or.inl ⟨f, rfl, by rw [hf]; exact h0 _⟩) | (cases hs; exact Or.inl ⟨_, rfl, hnew (hci rfl) _⟩) | cases hs
  | ireturn =>
    unfold ts_step at hs
    dsimp only at hs
    repeat' (split at hs)
    all_goals first | (obtain ⟨f, rfl, hf⟩ := ts_to_M hs; exact Or.inl ⟨f, rfl, by rw [hf]; exact h0 _⟩) | (obtain ⟨f, rfl, hf⟩ := ts_br_M hs; exact Or.inl ⟨f, rfl, by rw [hf]; exact h0 _⟩) | (cases hs; exact Or.inr ⟨_, rfl, by simp⟩) | cases hs
  | lreturn =>
    unfold ts_step at hs
    dsimp only at hs
    repeat' (split at hs)
    all_goals first | (obtain ⟨f, rfl, hf⟩ := ts_to_M hs; exact Or.inl ⟨f, rfl, by rw [hf]; exact h0 _⟩) | (obtain ⟨f, rfl, hf⟩ := ts_br_M hs; exact Or.inl ⟨f, rfl, by rw [hf]; exact h0 _⟩) | (cases hs; exact Or.inr ⟨_, rfl, by simp⟩) | cases hs
  | return_ =>
    unfold ts_step at hs
    dsimp only at hs
    repeat' (split at hs)
    all_goals first | (obtain ⟨f, rfl, hf⟩ := ts_to_M hs; exact Or.inl ⟨f, rfl, by rw [hf]; exact h0 _⟩) | (obtain ⟨f, rfl, hf⟩ := ts_br_M hs; exact Or.inl ⟨f, rfl, by rw [hf]; exact h0 _⟩) | (cases hs; exact Or.inr ⟨_, rfl, by simp⟩) | cases hs
  | areturn =>
    unfold ts_step at hs
    dsimp only at hs
    repeat' (split at hs)
    all_goals first | (obtain ⟨f, rfl, hf⟩ := ts_to_M hs; exact Or.inl ⟨f, rfl, by rw [hf]; exact h0 _⟩) | (obtain ⟨f, rfl, hf⟩ := ts_br_M hs; exact Or.inl ⟨f, rfl, by rw [hf]; exact h0 _⟩) | (cases hs; exact Or.inr ⟨_, rfl, by simp⟩) | cases hs
  | _ => cases (show (none : Option (ts_F ⊕ ts_R)) = some r from hs)
theorem ts_runN_rel {call : ts_C} {Y : ts_Y} {P : ts_M → ts_M → Prop} (hP : ts_RL call Y P) (ht : ∀ a b c, P a b → P b c → P a c) : ∀ (n : Nat) (f : ts_F) (r : ts_R), ts_runN call Y n f = some r → P f.2.2.2 r.2 := by
  intro n
  induction n with
  | zero => intro f r h; simp [ts_runN] at h
  | succ n ih =>
    intro f r h
    rw [ts_runN] at h
    cases h1 : ts_one call Y f with
    | none => rw [h1] at h; cases h
    | some z =>
      rw [h1] at h
      have h2 := h1
      unfold ts_one at h2
      split at h2
      · next i len hd =>
        split at h2
        · next hg =>
          rcases ts_step_rel hP h2 hg.2 with ⟨f', rfl, hf⟩ | ⟨v, rfl, -⟩
          · exact ht _ _ _ hf (ih f' r h)
          · cases h; exact hP.1 _
        · cases h2
      · cases h2
theorem ts_ev_mono : ∀ (d y : Nat) (As : List ts_V) (M : ts_M) (v : Option ts_V) (M' : ts_M), ts_ev d y As M = some (v, M') → M.2.2.2 ≤ M'.2.2.2 := by
  intro d
  induction d with
  | zero => intro y As M v M' h; simp [ts_ev] at h
  | succ d ih =>
    intro y As M v M' h
    simp only [ts_ev] at h
    split at h
    · next Y hY =>
      split at h
      · obtain ⟨n, hn⟩ := ts_run_ex h
        have := ts_runN_rel (P := fun a b => a.2.2.2 ≤ b.2.2.2) ⟨fun _ => Nat.le_refl _, fun _ _ _ _ => Nat.le_refl _, fun _ _ _ _ => Nat.le_refl _, fun _ _ _ _ _ _ _ => Nat.le_refl _, fun _ _ _ _ _ => Nat.le_refl _, fun _ _ => Nat.le_succ _, fun y As M v M' _ h => ih y As M v M' h, fun _ => ih⟩ (fun _ _ _ => Nat.le_trans) n _ _ hn
        exact this
      · cases h
    · cases h
section SOUND
variable {p : Program} {l : Launch} {e : Env} {R : Room} {s : State} {m : MethodId} {args : Array Value} {below : List Frame} {meth : Method} {c : Code} {H : Heap} {locs : List Loc} {Y : ts_Y} {D : va_G} {B : Nat} {cA : Nat → ClassId} {A : Nat → Prop} {d N0 : Nat}
theorem ts_retW {call : ts_C} {N1 : Nat} (F : ts_Fx p R s m args meth c Y D B cA A d N0 N1 0 0) {i : Instr} {len pc : Nat} {ls : List (Option ts_V)} {st : List ts_V} {M : ts_M} {v : Option ts_V} (hs : ts_step call Y i len pc ls st M = some (.inr (v, M))) (hi : i = .ireturn ∨ i = .lreturn ∨ i = .return_ ∨ i = .areturn) (hdec : decode Y.2.1 pc = .ok (i, len)) (hlen : len = ts_len i len) {sl : Array Slot} (hW : ts_Wd D B cA M H) (hS : va_S A s.heap H locs) :
    W p l e R s m args below meth c H locs (0 + (M.2.2.2 - N0)) (0 + (ts_sz M.2.2.2 - ts_sz N0)) (MQ below (ts_Qc D B cA A v M) args s (M.2.2.2 - N0) (ts_sz M.2.2.2 - ts_sz N0) A) (F0 m pc sl (st.map (ts_val B))) := by
  obtain ⟨hx, hb, hml, hown, hts, hK, hNw, hA4, hA2, hB, hz, hnm, hY, hret, hlk, hRf, hRl, hRc, hRs, hA0, hA1⟩ := F
  rw [Nat.zero_add, Nat.zero_add]
  have hq : ∀ t : State, t.heap = H → s.WarmedH t.vm → ts_Qc D B cA A v M args s (.returned (v.map (ts_val B))) t := fun t ht _ => ⟨rfl, by rw [ht]; exact hW, hS.F ht⟩
  rcases hi with rfl | rfl | rfl | rfl
  · have hlen : len = 1 := hlen
    subst hlen
    unfold ts_step at hs
    dsimp only at hs
    split at hs
    · next x =>
      split at hs
      · next hg =>
        cases hs
        rcases hg with hg | ⟨hg, hx2⟩
        · exact W.zret hx hb (hret.trans hg) rfl hq hS.2.2 hdec
        · exact W.zret hx hb (hret.trans hg) (by rcases hx2 with rfl | rfl <;> rfl) hq hS.2.2 hdec
      · cases hs
    · cases hs
  · have hlen : len = 1 := hlen
    subst hlen
    unfold ts_step at hs
    dsimp only at hs
    split at hs
    · next x =>
      split at hs
      · next hg =>
        cases hs
        exact W.lret hx hb (hret.trans hg) hq hS.2.2 hdec
      · cases hs
    · cases hs
  · have hlen : len = 1 := hlen
    subst hlen
    unfold ts_step at hs
    dsimp only at hs
    split at hs
    · split at hs
      · next hg =>
        cases hs
        exact W.vret hx hb (hret.trans hg) hq hS.2.2 hdec
      · cases hs
    · cases hs
  · have hlen : len = 1 := hlen
    subst hlen
    unfold ts_step at hs
    dsimp only at hs
    split at hs
    · next o =>
      split at hs
      · next n9 hg =>
        cases hs
        exact W.aret hx hb (hret.trans hg) (Or.inl ⟨_, rfl⟩) (va_rf_or _) hq hS.2.2 hdec
      · cases hs
    · cases hs
theorem ts_runW {call : ts_C} {v : Option ts_V} {M' : ts_M} (F : ts_Fx p R s m args meth c Y D B cA A d N0 M'.2.2.2 0 0) (hcall : ∀ (y : Nat) (As : List ts_V) (M : ts_M) (v : Option ts_V) (M' : ts_M), call y As M = some (v, M') → ts_Met l D B cA A d y As M v M' ∧ M.2.2.2 ≤ M'.2.2.2) : ∀ (n : Nat) {pc : Nat} {ls : List (Option ts_V)} {st : List ts_V} {M : ts_M} {H : Heap} {locs : List Loc} {sl : Array Slot}, ts_runN call Y n (pc, ls, st, M) = some (v, M') → N0 ≤ M.2.2.2 → ts_Wd D B cA M H → ts_Lr B Y.2.2.1 ls sl → va_S A s.heap H locs →
    W p l e R s m args below meth c H locs (0 + (M.2.2.2 - N0)) (0 + (ts_sz M.2.2.2 - ts_sz N0)) (MQ below (ts_Qc D B cA A v M') args s (M'.2.2.2 - N0) (ts_sz M'.2.2.2 - ts_sz N0) A) (F0 m pc sl (st.map (ts_val B))) := by
  have hrel : ts_RL call Y (fun a b => a.2.2.2 ≤ b.2.2.2) := ⟨fun _ => Nat.le_refl _, fun _ _ _ _ => Nat.le_refl _, fun _ _ _ _ => Nat.le_refl _, fun _ _ _ _ _ _ _ => Nat.le_refl _, fun _ _ _ _ _ => Nat.le_refl _, fun _ _ => Nat.le_succ _, fun y As M v M' _ h => (hcall y As M v M' h).2, fun _ y As M v M' h => (hcall y As M v M' h).2⟩
  intro n
  induction n with
  | zero => intro pc ls st M H locs sl h; simp [ts_runN] at h
  | succ n ih =>
    intro pc ls st M H locs sl h hN hW hL hS
    rw [ts_runN] at h
    cases h1 : ts_one call Y (pc, ls, st, M) with
    | none => rw [h1] at h; cases h
    | some z =>
      rw [h1] at h
      have h2 := h1
      unfold ts_one at h2
      split at h2
      · next i len hd =>
        split at h2
        · next hg =>
          rcases ts_step_rel hrel h2 hg.2 with ⟨f', rfl, hf⟩ | ⟨v2, rfl, hi⟩
          · obtain ⟨pc', ls', st', M2⟩ := f'
            have hle := ts_runN_rel hrel (fun _ _ _ => Nat.le_trans) n _ _ h
            exact ts_stepW (H0 := s.heap) F.2.2.2.2.2.2.2.2.2.1 F hcall h2 hd hg.1 hN hle hW hL hS (fun H1 locs1 sl1 hW1 hL1 hS1 _ => ih h (Nat.le_trans hN hf) hW1 hL1 hS1)
          · cases h
            exact ts_retW F h2 hi hd hg.1 hW hS
        · cases h2
      · cases h2
theorem ts_ar_len : ∀ As : List ts_V, (lg_sl (As.map (ts_val B))).length = (ts_ar As).length := by
  intro As
  induction As with
  | nil => rfl
  | cons v As ih =>
    have hc := ts_val_cat (B := B) v
    rw [List.map_cons, show lg_sl (ts_val B v :: As.map (ts_val B)) = lg_sl [ts_val B v] ++ lg_sl (As.map (ts_val B)) by simp [lg_sl]]
    unfold ts_ar
    by_cases h : ts_isl (some v) = true
    · rw [if_pos h] at hc ⊢
      simp [lg_sl, hc] at ih ⊢
      omega
    · rw [if_neg h] at hc ⊢
      simp [lg_sl, hc] at ih ⊢
      omega
theorem ts_args_has : ∀ (As : List ts_V) (k i : Nat) (v : ts_V), ts_lget (ts_ar As) i = some v → (k + i, ts_val B v) ∈ lv_args k (As.map (ts_val B)) := by
  intro As
  induction As with
  | nil => intro k i v h; simp [ts_ar, ts_lget] at h
  | cons a As ih =>
    intro k i v h
    have hc := ts_val_cat (B := B) a
    rw [List.map_cons, lv_args]
    unfold ts_ar at h
    by_cases ha : ts_isl (some a) = true
    · rw [if_pos ha] at h hc
      rw [if_pos hc]
      match i, h with
      | 0, h => simp [ts_lget] at h; subst h; exact List.mem_cons_self
      | 1, h => simp [ts_lget] at h
      | i + 2, h =>
        have h : ts_lget (ts_ar As) i = some v := by simpa [ts_lget] using h
        have := ih (k + 2) i v h
        rw [show k + 2 + i = k + (i + 2) by omega] at this
        exact List.mem_cons_of_mem _ this
    · rw [if_neg ha] at h hc
      rw [if_neg (by omega)]
      match i, h with
      | 0, h => simp [ts_lget] at h; subst h; exact List.mem_cons_self
      | i + 1, h =>
        have h : ts_lget (ts_ar As) i = some v := by simpa [ts_lget] using h
        have := ih (k + 1) i v h
        rw [show k + 1 + i = k + (i + 1) by omega] at this
        exact List.mem_cons_of_mem _ this
theorem ts_l0_get {As : List ts_V} {n i : Nat} {v : ts_V} (h : ts_lget (ts_l0 As n) i = some v) : ts_lget (ts_ar As) i = some v := by
  unfold ts_lget ts_l0 at *
  by_cases hi : i < (ts_ar As).length
  · rwa [List.getElem?_append_left hi] at h
  · rw [List.getElem?_append_right (by omega)] at h
    cases hq : (List.replicate (n - (ts_ar As).length) (none : Option ts_V))[i - (ts_ar As).length]? with
    | none => rw [hq] at h; cases h
    | some q => rw [hq, List.eq_of_mem_replicate (List.mem_of_getElem? hq)] at h; cases h
/-- THE INTERPRETER IS SOUND: a run that it makes is a contract of the method -/
theorem ts_sound (l : Launch) (D : va_G) (B : Nat) (cA : Nat → ClassId) (A : Nat → Prop) : ∀ (d y : Nat) (As : List ts_V) (M : ts_M) (v : Option ts_V) (M' : ts_M), ts_ev d y As M = some (v, M') → ts_Met l D B cA A d y As M v M' := by
  intro d
  induction d with
  | zero => intro y As M v M' h; simp [ts_ev] at h
  | succ d ih =>
    intro y As M v M' h hA0 hA1 Y hY
    have hmono := ts_ev_mono _ _ _ _ _ _ h
    simp only [ts_ev] at h
    rw [hY] at h
    dsimp only at h
    split at h
    · next hlen =>
      obtain ⟨n, hn⟩ := ts_run_ex h
      have hYm : Y ∈ ts_mL := List.mem_of_getElem? hY
      obtain ⟨hYc, hYp, -⟩ := ts_okY_of hYm
      refine Met.ofW (cc := Y.2.1) (maxL := Y.2.2.1) (ret := Y.2.2.2.1) hYp rfl ?_
      intro p e s m args below meth c s₁ Bd hml hv
      obtain ⟨rfl, hWd, hK, hNw, hA4, hA2, hB, hz⟩ := hv
      have F : ts_Fx p (headSpec (ts_ws Y) (ts_rm (d + 1) M M')).room s m (As.map (ts_val B)).toArray meth c Y D B cA A d M.2.2.2 M'.2.2.2 0 0 :=
        ⟨Bd.exec, Bd.bytes, hml, findClass_of_methodNamed Bd.named, atoms_spec (ws := ts_ws Y) Bd.pre, hK, hNw, hA4, hA2, hB, hz.imp_left (fun h => ⟨h, rfl⟩), (name_of_methodNamed Bd.named Bd.method).1, hYc, Bd.returns, Bd.notSynchronized, Nat.le_refl _, by show 40 * d + 39 ≤ 40 * (d + 1); omega, by rw [Nat.zero_add]; exact Nat.le_refl _, by rw [Nat.zero_add]; exact Nat.le_refl _, hA0, hA1⟩
      have hl := lv_entry (As.map (ts_val B)) (n := Y.2.2.1) (by rw [ts_ar_len]; exact hlen)
      rw [lg_entry_eq]
      generalize (lg_sl (As.map (ts_val B)) ++ List.replicate (Y.2.2.1 - (lg_sl (As.map (ts_val B))).length) Slot.unset).toArray = sl at hl ⊢
      have hL : ts_Lr B Y.2.2.1 (ts_l0 As Y.2.2.1) sl := ⟨hl.1, hl.2.1, fun i v hi => hl.2.2 (i, ts_val B v) (by have := ts_args_has (B := B) As 0 i v (ts_l0_get hi); rwa [Nat.zero_add] at this)⟩
      have := ts_runW (e := e) (below := below) F (fun y As M v M' h => ⟨ih y As M v M' h, ts_ev_mono _ _ _ _ _ _ h⟩) n hn (Nat.le_refl _) hWd hL (va_S.rf (A := A) (H0 := s.heap))
      rw [Nat.sub_self, Nat.sub_self, Nat.zero_add] at this
      exact this
    · cases h
end SOUND

/-! ===== row, in the reference ===== -/
section ROWR
variable {dist wl : DT} {T : Nat} {m : lt_m}
theorem RR_thr (hr : RR dist wl T m) (v : Int32) : RR dist wl T (lm_i m 711 15 v) := by
  obtain ⟨N, w, vs, hs, hl, hc, hm⟩ := hr
  exact ⟨N, w, vs, RS_fr (same_i (by decide)) hs, hl, rwC_i hc (by decide), rwM_i hm (by decide)⟩
theorem ref_row (d : Nat) (hr : RR dist wl T m) (x : Int32) : ∃ (k : Int32) (v : Int64) (m1 : lt_m), lt_ev (d + 30) 274 [.inr (.inr (some 711)), .inl x] m = some (some (.inr (.inl v)), m1) ∧ lt_ev (d + 30) 178 [.inr (.inr (some 711))] m1 = some (some (.inl k), m1) ∧ RR dist wl T m1 ∧ m1.2 = m.2 ∧ ∃ vs, rwC vs m ∧ vs.length ≤ 12 ∧ ((∃ j u, x = nI j ∧ vs[j]? = some u ∧ k = 0 ∧ v = u.toInt64) ∨ ((x < 0 ∨ nI vs.length ≤ x) ∧ k = 1)) := by
  have hr0 := hr
  obtain ⟨N, w, vs, hs, hl, hc, hm⟩ := hr
  have h14 : (lm_i m 711 15 (0 : Int32)).1 711 14 = nI vs.length := by rw [lm_i_ns (by omega)]; exact hm.1
  have hmod : lt_ev (d + 30) 274 [.inr (.inr (some 711)), .inl x] m = _ := E274 (d + 29) 711 x sy m
  rw [h14, k181n (d + 28) x (n := vs.length) (by omega), lt_cI_s] at hmod
  have bad : (x < 0 ∨ nI vs.length ≤ x) → ∃ (k : Int32) (v : Int64) (m1 : lt_m), lt_ev (d + 30) 274 [.inr (.inr (some 711)), .inl x] m = some (some (.inr (.inl v)), m1) ∧ lt_ev (d + 30) 178 [.inr (.inr (some 711))] m1 = some (some (.inl k), m1) ∧ RR dist wl T m1 ∧ m1.2 = m.2 ∧ ∃ vs, rwC vs m ∧ vs.length ≤ 12 ∧ ((∃ j u, x = nI j ∧ vs[j]? = some u ∧ k = 0 ∧ v = u.toInt64) ∨ ((x < 0 ∨ nI vs.length ≤ x) ∧ k = 1)) := fun hx => by
    refine ⟨1, (0 : Int32).toInt64, lm_i (lm_i m 711 15 0) 711 15 1, ?_, ?_, RR_thr (RR_thr hr0 0) 1, rfl, vs, hc, hl, Or.inr ⟨hx, rfl⟩⟩
    · rw [hmod, sp_i0 (by omega) hx, if_pos rfl, E275 (d + 28) 711 sy _, lt_cI_s]
    · rw [E178 (d + 29) 711 sy _, lm_i_eq]
  rcases pk_ix x (n := vs.length) (by omega) with c | c | ⟨j, hj, rfl⟩
  · exact bad (Or.inl c)
  · exact bad (Or.inr c)
  · have hg : vs[j]? = some vs[j] := List.getElem?_eq_getElem hj
    refine ⟨0, vs[j].toInt64, lm_i m 711 15 0, ?_, ?_, RR_thr hr0 0, rfl, vs, hc, hl, Or.inl ⟨j, vs[j], rfl, hg, rfl, rfl⟩⟩
    · rw [hmod, sp_i1 hj (by omega), if_neg (by decide), lt_gd_t (sp_gd (by omega) (by omega)), nI_clamp (by omega)]
      have := hm.2 j _ hg
      rw [show (lm_i m 711 15 (0 : Int32)).2.1 (711 + 8) j = vs[j].toInt64 from this]
    · rw [E178 (d + 29) 711 sy _, lm_i_eq]
end ROWR

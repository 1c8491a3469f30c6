/-! ===== no instruction of the law writes its local 0 ===== -/
def s0ok (pc : Nat) : Bool := pc == 327 || match decode code pc with | .ok (i, _) => !ts_s0 i | _ => true
theorem lw_s0_0 : (List.range' 0 50).all s0ok = true := by decide +kernel
theorem lw_s0_50 : (List.range' 50 50).all s0ok = true := by decide +kernel
theorem lw_s0_100 : (List.range' 100 50).all s0ok = true := by decide +kernel
theorem lw_s0_150 : (List.range' 150 50).all s0ok = true := by decide +kernel
theorem lw_s0_200 : (List.range' 200 50).all s0ok = true := by decide +kernel
theorem lw_s0_250 : (List.range' 250 50).all s0ok = true := by decide +kernel
theorem lw_s0_300 : (List.range' 300 50).all s0ok = true := by decide +kernel
theorem lw_s0_350 : (List.range' 350 50).all s0ok = true := by decide +kernel
theorem lw_s0_400 : (List.range' 400 50).all s0ok = true := by decide +kernel
theorem lw_s0_450 : (List.range' 450 50).all s0ok = true := by decide +kernel
theorem lw_s0_500 : (List.range' 500 50).all s0ok = true := by decide +kernel
theorem lw_s0_550 : (List.range' 550 50).all s0ok = true := by decide +kernel
theorem lw_s0_600 : (List.range' 600 50).all s0ok = true := by decide +kernel
theorem lw_s0_650 : (List.range' 650 50).all s0ok = true := by decide +kernel
theorem lw_s0_700 : (List.range' 700 50).all s0ok = true := by decide +kernel
theorem lw_s0_750 : (List.range' 750 50).all s0ok = true := by decide +kernel
theorem lw_s0_800 : (List.range' 800 50).all s0ok = true := by decide +kernel
theorem lw_s0_850 : (List.range' 850 50).all s0ok = true := by decide +kernel
theorem lw_s0_900 : (List.range' 900 50).all s0ok = true := by decide +kernel
theorem lw_s0_950 : (List.range' 950 50).all s0ok = true := by decide +kernel
theorem lw_s0_1000 : (List.range' 1000 50).all s0ok = true := by decide +kernel
theorem lw_s0_1050 : (List.range' 1050 50).all s0ok = true := by decide +kernel
theorem lw_s0_1100 : (List.range' 1100 50).all s0ok = true := by decide +kernel
theorem lw_s0_1150 : (List.range' 1150 50).all s0ok = true := by decide +kernel
theorem lw_s0_1200 : (List.range' 1200 50).all s0ok = true := by decide +kernel
theorem lw_s0_1250 : (List.range' 1250 50).all s0ok = true := by decide +kernel
theorem lw_s0_1300 : (List.range' 1300 50).all s0ok = true := by decide +kernel
theorem lw_s0_1350 : (List.range' 1350 50).all s0ok = true := by decide +kernel
theorem lw_s0_1400 : (List.range' 1400 50).all s0ok = true := by decide +kernel
theorem lw_s0_1450 : (List.range' 1450 19).all s0ok = true := by decide +kernel
theorem lw_s0 {pc : Nat} {i : Instr} {len : Nat} (h1 : pc < 1469) (h2 : pc ≠ 327) (h : decode code pc = .ok (i, len)) : ts_s0 i = false := by
  have key : s0ok pc = true := by
    by_cases c0 : pc < 50
    · exact List.all_eq_true.mp lw_s0_0 pc (List.mem_range'_1.mpr ⟨by omega, by omega⟩)
    by_cases c50 : pc < 100
    · exact List.all_eq_true.mp lw_s0_50 pc (List.mem_range'_1.mpr ⟨by omega, by omega⟩)
    by_cases c100 : pc < 150
    · exact List.all_eq_true.mp lw_s0_100 pc (List.mem_range'_1.mpr ⟨by omega, by omega⟩)
    by_cases c150 : pc < 200
    · exact List.all_eq_true.mp lw_s0_150 pc (List.mem_range'_1.mpr ⟨by omega, by omega⟩)
    by_cases c200 : pc < 250
    · exact List.all_eq_true.mp lw_s0_200 pc (List.mem_range'_1.mpr ⟨by omega, by omega⟩)
    by_cases c250 : pc < 300
    · exact List.all_eq_true.mp lw_s0_250 pc (List.mem_range'_1.mpr ⟨by omega, by omega⟩)
    by_cases c300 : pc < 350
    · exact List.all_eq_true.mp lw_s0_300 pc (List.mem_range'_1.mpr ⟨by omega, by omega⟩)
    by_cases c350 : pc < 400
    · exact List.all_eq_true.mp lw_s0_350 pc (List.mem_range'_1.mpr ⟨by omega, by omega⟩)
    by_cases c400 : pc < 450
    · exact List.all_eq_true.mp lw_s0_400 pc (List.mem_range'_1.mpr ⟨by omega, by omega⟩)
    by_cases c450 : pc < 500
    · exact List.all_eq_true.mp lw_s0_450 pc (List.mem_range'_1.mpr ⟨by omega, by omega⟩)
    by_cases c500 : pc < 550
    · exact List.all_eq_true.mp lw_s0_500 pc (List.mem_range'_1.mpr ⟨by omega, by omega⟩)
    by_cases c550 : pc < 600
    · exact List.all_eq_true.mp lw_s0_550 pc (List.mem_range'_1.mpr ⟨by omega, by omega⟩)
    by_cases c600 : pc < 650
    · exact List.all_eq_true.mp lw_s0_600 pc (List.mem_range'_1.mpr ⟨by omega, by omega⟩)
    by_cases c650 : pc < 700
    · exact List.all_eq_true.mp lw_s0_650 pc (List.mem_range'_1.mpr ⟨by omega, by omega⟩)
    by_cases c700 : pc < 750
    · exact List.all_eq_true.mp lw_s0_700 pc (List.mem_range'_1.mpr ⟨by omega, by omega⟩)
    by_cases c750 : pc < 800
    · exact List.all_eq_true.mp lw_s0_750 pc (List.mem_range'_1.mpr ⟨by omega, by omega⟩)
    by_cases c800 : pc < 850
    · exact List.all_eq_true.mp lw_s0_800 pc (List.mem_range'_1.mpr ⟨by omega, by omega⟩)
    by_cases c850 : pc < 900
    · exact List.all_eq_true.mp lw_s0_850 pc (List.mem_range'_1.mpr ⟨by omega, by omega⟩)
    by_cases c900 : pc < 950
    · exact List.all_eq_true.mp lw_s0_900 pc (List.mem_range'_1.mpr ⟨by omega, by omega⟩)
    by_cases c950 : pc < 1000
    · exact List.all_eq_true.mp lw_s0_950 pc (List.mem_range'_1.mpr ⟨by omega, by omega⟩)
    by_cases c1000 : pc < 1050
    · exact List.all_eq_true.mp lw_s0_1000 pc (List.mem_range'_1.mpr ⟨by omega, by omega⟩)
    by_cases c1050 : pc < 1100
    · exact List.all_eq_true.mp lw_s0_1050 pc (List.mem_range'_1.mpr ⟨by omega, by omega⟩)
    by_cases c1100 : pc < 1150
    · exact List.all_eq_true.mp lw_s0_1100 pc (List.mem_range'_1.mpr ⟨by omega, by omega⟩)
    by_cases c1150 : pc < 1200
    · exact List.all_eq_true.mp lw_s0_1150 pc (List.mem_range'_1.mpr ⟨by omega, by omega⟩)
    by_cases c1200 : pc < 1250
    · exact List.all_eq_true.mp lw_s0_1200 pc (List.mem_range'_1.mpr ⟨by omega, by omega⟩)
    by_cases c1250 : pc < 1300
    · exact List.all_eq_true.mp lw_s0_1250 pc (List.mem_range'_1.mpr ⟨by omega, by omega⟩)
    by_cases c1300 : pc < 1350
    · exact List.all_eq_true.mp lw_s0_1300 pc (List.mem_range'_1.mpr ⟨by omega, by omega⟩)
    by_cases c1350 : pc < 1400
    · exact List.all_eq_true.mp lw_s0_1350 pc (List.mem_range'_1.mpr ⟨by omega, by omega⟩)
    by_cases c1400 : pc < 1450
    · exact List.all_eq_true.mp lw_s0_1400 pc (List.mem_range'_1.mpr ⟨by omega, by omega⟩)
    exact List.all_eq_true.mp lw_s0_1450 pc (List.mem_range'_1.mpr ⟨by omega, by omega⟩)
  unfold s0ok at key
  rw [h] at key
  simpa [h2] using key

/-! THE CLAIM -/
theorem sh_len : SH.length ≤ 600000 := by decide +kernel
theorem sh_ns : xns SH ≤ 7302250 := by decide +kernel
theorem x_law_runs : xLawRuns := by
  intro L xs hL
  obtain ⟨σ', h⟩ := lw_runs L xs hL
  exact ⟨101, SH, σ', h, Nat.le_of_ble_eq_true rfl, sh_len, sh_ns⟩
theorem i_vc : Claimed_1_1 ∧ Claimed_1_2 := i_vc_open x_law_runs

/-! THE CLAIM -/
theorem x_law_runs : xLawRuns := by
  intro L xs hL
  obtain ⟨σ', h⟩ := lw_runs L xs hL
  exact ⟨101, SH, σ', h, by decide, by decide, by decide⟩
theorem i_vc : Claimed_1_1 ∧ Claimed_1_2 := i_vc_open x_law_runs

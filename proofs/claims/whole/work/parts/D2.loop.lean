/-! THE LAW'S LOOP -/
section LOOP
variable {X : Nat × (Nat → Int)} {σ : xM} {i : Nat}
theorem lw_sw (hX : ∀ j, X.2 j < 2147483648) (h : Inv σ) (hi : i + 6 ≤ X.1) (hL : X.1 ≤ 3072) : lwT X i 27 σ := by
  have hg := lwG_of hi hL
  have g0 : 0 ≤ (i : Int) ∧ (i : Int) < (X.1 : Int) := by omega
  generalize hv : xand (X.2 ((i : Int)).toNat) 63 = v
  have e : ∀ d, Ev X d 0 27 [some (vc 99), some (vr 0), some (vr 100), some (vi i)] [] SH σ = _ := fun d => b0_27 g0
  simp only [hv] at e
  by_cases z0 : v = 0
  · obtain ⟨τ, a, b⟩ := lw_0 hX h hg
    refine ⟨τ, fun d => ?_, b⟩
    rw [e, if_pos z0]
    exact a d
  simp only [if_neg z0] at e
  by_cases z1 : v = 1
  · obtain ⟨τ, a, b⟩ := lw_1 hX h hg
    refine ⟨τ, fun d => ?_, b⟩
    rw [e, if_pos z1]
    exact a d
  simp only [if_neg z1] at e
  by_cases z2 : v = 2
  · obtain ⟨τ, a, b⟩ := lw_2 hX h hg
    refine ⟨τ, fun d => ?_, b⟩
    rw [e, if_pos z2]
    exact a d
  simp only [if_neg z2] at e
  by_cases z3 : v = 3
  · obtain ⟨τ, a, b⟩ := lw_3 hX h hg
    refine ⟨τ, fun d => ?_, b⟩
    rw [e, if_pos z3]
    exact a d
  simp only [if_neg z3] at e
  by_cases z4 : v = 4
  · obtain ⟨τ, a, b⟩ := lw_4 hX h hg
    refine ⟨τ, fun d => ?_, b⟩
    rw [e, if_pos z4]
    exact a d
  simp only [if_neg z4] at e
  by_cases z5 : v = 5
  · obtain ⟨τ, a, b⟩ := lw_5 hX h hg
    refine ⟨τ, fun d => ?_, b⟩
    rw [e, if_pos z5]
    exact a d
  simp only [if_neg z5] at e
  by_cases z6 : v = 6
  · obtain ⟨τ, a, b⟩ := lw_6 hX h hg
    refine ⟨τ, fun d => ?_, b⟩
    rw [e, if_pos z6]
    exact a d
  simp only [if_neg z6] at e
  by_cases z7 : v = 7
  · obtain ⟨τ, a, b⟩ := lw_7 hX h hg
    refine ⟨τ, fun d => ?_, b⟩
    rw [e, if_pos z7]
    exact a d
  simp only [if_neg z7] at e
  by_cases z8 : v = 8
  · obtain ⟨τ, a, b⟩ := lw_8 hX h hg
    refine ⟨τ, fun d => ?_, b⟩
    rw [e, if_pos z8]
    exact a d
  simp only [if_neg z8] at e
  by_cases z9 : v = 9
  · obtain ⟨τ, a, b⟩ := lw_9 hX h hg
    refine ⟨τ, fun d => ?_, b⟩
    rw [e, if_pos z9]
    exact a d
  simp only [if_neg z9] at e
  by_cases z10 : v = 10
  · obtain ⟨τ, a, b⟩ := lw_10 hX h hg
    refine ⟨τ, fun d => ?_, b⟩
    rw [e, if_pos z10]
    exact a d
  simp only [if_neg z10] at e
  by_cases z11 : v = 11
  · obtain ⟨τ, a, b⟩ := lw_11 hX h hg
    refine ⟨τ, fun d => ?_, b⟩
    rw [e, if_pos z11]
    exact a d
  simp only [if_neg z11] at e
  by_cases z12 : v = 12
  · obtain ⟨τ, a, b⟩ := lw_12 hX h hg
    refine ⟨τ, fun d => ?_, b⟩
    rw [e, if_pos z12]
    exact a d
  simp only [if_neg z12] at e
  by_cases z13 : v = 13
  · obtain ⟨τ, a, b⟩ := lw_13 hX h hg
    refine ⟨τ, fun d => ?_, b⟩
    rw [e, if_pos z13]
    exact a d
  simp only [if_neg z13] at e
  by_cases z14 : v = 14
  · obtain ⟨τ, a, b⟩ := lw_14 hX h hg
    refine ⟨τ, fun d => ?_, b⟩
    rw [e, if_pos z14]
    exact a d
  simp only [if_neg z14] at e
  by_cases z15 : v = 15
  · obtain ⟨τ, a, b⟩ := lw_15 hX h hg
    refine ⟨τ, fun d => ?_, b⟩
    rw [e, if_pos z15]
    exact a d
  simp only [if_neg z15] at e
  by_cases z16 : v = 16
  · obtain ⟨τ, a, b⟩ := lw_16 hX h hg
    refine ⟨τ, fun d => ?_, b⟩
    rw [e, if_pos z16]
    exact a d
  simp only [if_neg z16] at e
  by_cases z17 : v = 17
  · obtain ⟨τ, a, b⟩ := lw_17 hX h hg
    refine ⟨τ, fun d => ?_, b⟩
    rw [e, if_pos z17]
    exact a d
  simp only [if_neg z17] at e
  by_cases z18 : v = 18
  · obtain ⟨τ, a, b⟩ := lw_18 hX h hg
    refine ⟨τ, fun d => ?_, b⟩
    rw [e, if_pos z18]
    exact a d
  simp only [if_neg z18] at e
  by_cases z19 : v = 19
  · obtain ⟨τ, a, b⟩ := lw_19 hX h hg
    refine ⟨τ, fun d => ?_, b⟩
    rw [e, if_pos z19]
    exact a d
  simp only [if_neg z19] at e
  by_cases z20 : v = 20
  · obtain ⟨τ, a, b⟩ := lw_20 hX h hg
    refine ⟨τ, fun d => ?_, b⟩
    rw [e, if_pos z20]
    exact a d
  simp only [if_neg z20] at e
  by_cases z21 : v = 21
  · obtain ⟨τ, a, b⟩ := lw_21 hX h hg
    refine ⟨τ, fun d => ?_, b⟩
    rw [e, if_pos z21]
    exact a d
  simp only [if_neg z21] at e
  by_cases z22 : v = 22
  · obtain ⟨τ, a, b⟩ := lw_22 hX h hg
    refine ⟨τ, fun d => ?_, b⟩
    rw [e, if_pos z22]
    exact a d
  simp only [if_neg z22] at e
  by_cases z23 : v = 23
  · obtain ⟨τ, a, b⟩ := lw_23 hX h hg
    refine ⟨τ, fun d => ?_, b⟩
    rw [e, if_pos z23]
    exact a d
  simp only [if_neg z23] at e
  by_cases z24 : v = 24
  · obtain ⟨τ, a, b⟩ := lw_24 hX h hg
    refine ⟨τ, fun d => ?_, b⟩
    rw [e, if_pos z24]
    exact a d
  simp only [if_neg z24] at e
  by_cases z25 : v = 25
  · obtain ⟨τ, a, b⟩ := lw_25 hX h hg
    refine ⟨τ, fun d => ?_, b⟩
    rw [e, if_pos z25]
    exact a d
  simp only [if_neg z25] at e
  by_cases z26 : v = 26
  · obtain ⟨τ, a, b⟩ := lw_26 hX h hg
    refine ⟨τ, fun d => ?_, b⟩
    rw [e, if_pos z26]
    exact a d
  simp only [if_neg z26] at e
  by_cases z27 : v = 27
  · obtain ⟨τ, a, b⟩ := lw_27 hX h hg
    refine ⟨τ, fun d => ?_, b⟩
    rw [e, if_pos z27]
    exact a d
  simp only [if_neg z27] at e
  by_cases z28 : v = 28
  · obtain ⟨τ, a, b⟩ := lw_28 hX h hg
    refine ⟨τ, fun d => ?_, b⟩
    rw [e, if_pos z28]
    exact a d
  simp only [if_neg z28] at e
  by_cases z29 : v = 29
  · obtain ⟨τ, a, b⟩ := lw_29 hX h hg
    refine ⟨τ, fun d => ?_, b⟩
    rw [e, if_pos z29]
    exact a d
  simp only [if_neg z29] at e
  by_cases z30 : v = 30
  · obtain ⟨τ, a, b⟩ := lw_30 hX h hg
    refine ⟨τ, fun d => ?_, b⟩
    rw [e, if_pos z30]
    exact a d
  simp only [if_neg z30] at e
  by_cases z31 : v = 31
  · obtain ⟨τ, a, b⟩ := lw_31 hX h hg
    refine ⟨τ, fun d => ?_, b⟩
    rw [e, if_pos z31]
    exact a d
  simp only [if_neg z31] at e
  by_cases z32 : v = 32
  · obtain ⟨τ, a, b⟩ := lw_32 hX h hg
    refine ⟨τ, fun d => ?_, b⟩
    rw [e, if_pos z32]
    exact a d
  simp only [if_neg z32] at e
  by_cases z33 : v = 33
  · obtain ⟨τ, a, b⟩ := lw_33 hX h hg
    refine ⟨τ, fun d => ?_, b⟩
    rw [e, if_pos z33]
    exact a d
  simp only [if_neg z33] at e
  by_cases z34 : v = 34
  · obtain ⟨τ, a, b⟩ := lw_34 hX h hg
    refine ⟨τ, fun d => ?_, b⟩
    rw [e, if_pos z34]
    exact a d
  simp only [if_neg z34] at e
  by_cases z35 : v = 35
  · obtain ⟨τ, a, b⟩ := lw_35 hX h hg
    refine ⟨τ, fun d => ?_, b⟩
    rw [e, if_pos z35]
    exact a d
  simp only [if_neg z35] at e
  by_cases z36 : v = 36
  · obtain ⟨τ, a, b⟩ := lw_36 hX h hg
    refine ⟨τ, fun d => ?_, b⟩
    rw [e, if_pos z36]
    exact a d
  simp only [if_neg z36] at e
  by_cases z37 : v = 37
  · obtain ⟨τ, a, b⟩ := lw_37 hX h hg
    refine ⟨τ, fun d => ?_, b⟩
    rw [e, if_pos z37]
    exact a d
  simp only [if_neg z37] at e
  by_cases z38 : v = 38
  · obtain ⟨τ, a, b⟩ := lw_38 hX h hg
    refine ⟨τ, fun d => ?_, b⟩
    rw [e, if_pos z38]
    exact a d
  simp only [if_neg z38] at e
  by_cases z39 : v = 39
  · obtain ⟨τ, a, b⟩ := lw_39 hX h hg
    refine ⟨τ, fun d => ?_, b⟩
    rw [e, if_pos z39]
    exact a d
  simp only [if_neg z39] at e
  exact ⟨σ, fun d => e (d + 101), h⟩
theorem lw_loop (hX : ∀ j, X.2 j < 2147483648) (hL : X.1 ≤ 3072) : ∀ (m i : Nat) (σ : xM), X.1 ≤ i + m → i ≤ 3078 → Inv σ → ∃ σ', ∀ d, Ev X (d + 101) 0 18 [some (vc 99), some (vr 0), some (vr 100), some (vi i)] [] SH σ = some (some (vi 1), SH, σ') := by
  intro m
  induction m using Nat.strongRecOn with
  | _ m ih =>
    intro i σ hm h3 h
    by_cases y : i + 6 ≤ X.1
    · obtain ⟨τ, a, b⟩ := lw_sw hX h y hL
      obtain ⟨σ', c⟩ := ih (m - 6) (by omega) (i + 6) τ (by omega) (by omega) b
      refine ⟨σ', fun d => ?_⟩
      rw [b0_18, if_neg (by rw [xsub_eq (by omega) (by omega)]; omega), a d, b0_1342, xadd_eq (by omega) (by omega)]
      exact c d
    · refine ⟨σ, fun d => ?_⟩
      rw [b0_18, if_pos (by rw [xsub_eq (by omega) (by omega)]; omega), b0_1348]
end LOOP

/-! WANTED: a leaf -/
section WLF
variable {X : Nat × (Nat → Int)} {σ μ : xM} {sg : Int → Bool} {c4 n : Nat} {fl : Int} {tx : Nat → Int}
theorem tk_leaf (hS : RS X sg c4 fl tx n) (hD : RD c4 fl tx n σ μ) (hT : TK tx n sg σ μ) : ∃ c v : Int, (∀ d, Ev X (d + 6) 86 0 [some (vr 10)] [] SH σ = some (some (vi c), SH, σ)) ∧ (∀ d, Ev X (d + 1) 238 0 [some (vr 100)] [] SH μ = some (some (vi v), SH, μ)) ∧ ((σ 1 5 = 2 ∧ c = σ 1 8 ∧ v = -1) ∨ (σ 1 5 = 1 ∧ σ 1 6 + 4 ≤ σ 1 7 ∧ ((c = -1 ∧ v = 1) ∨ (c = -2 ∧ v = 2) ∨ (c = -3 ∧ v = 3) ∨ (c = -4 ∧ v = 4))) ∨ (σ 1 5 ≠ 2 ∧ c = -1000 ∧ v = -1)) := by
  obtain ⟨p, p0, p1, p2, p3⟩ := tk_w (X := X) (k1 := 18) (wd := [108, 101, 102, 116]) (by decide) rfl (by decide) (by decide +kernel) hS hD hT
  obtain ⟨q, q0, q1, q2, q3⟩ := tk_w (X := X) (k1 := 19) (wd := [114, 105, 103, 104, 116]) (by decide) rfl (by decide) (by decide +kernel) hS hD hT
  obtain ⟨r, r0, r1, r2, r3⟩ := tk_w (X := X) (k1 := 20) (wd := [115, 116, 105, 99, 107, 115]) (by decide) rfl (by decide) (by decide +kernel) hS hD hT
  obtain ⟨s, s0, s1, s2, s3⟩ := tk_w (X := X) (k1 := 21) (wd := [102, 105, 103, 117, 114, 101, 115]) (by decide) rfl (by decide) (by decide +kernel) hS hD hT
  have p2 : f205 μ 1818584692 = p := p2
  have q2 : f205 μ 491394656372 = q := q2
  have r2 : f205 μ 126943821523827 = r := r2
  have s2 : f205 μ 28826340697466227 = s := s2
  have cP : ∀ d, σ 1 5 ≠ 2 → Ev X (d + 6) 86 0 [some (vr 10)] [] SH σ = Ev X (d + 6) 86 28 [some (vr 10)] [vi p] SH σ := by
    intro d z
    rw [b86_0, if_pos z]
    refine Eq.trans b86_19 ?_
    refine x_bind (p1 d) ?_
    rfl
  have mP : ∀ d, Ev X (d + 1) 238 0 [some (vr 100)] [] SH μ = Ev X (d + 1) 238 7 [some (vr 100)] [vi p] SH μ := by
    intro d
    refine Eq.trans b238_0 ?_
    refine x_bind s205 ?_
    rw [p2]
    rfl
  rcases p0 with rfl | rfl
  · have cQ : ∀ d, σ 1 5 ≠ 2 → Ev X (d + 6) 86 0 [some (vr 10)] [] SH σ = Ev X (d + 6) 86 42 [some (vr 10)] [vi q] SH σ := by
      intro d z
      rw [cP d z, b86_28, if_pos rfl]
      refine Eq.trans b86_33 ?_
      refine x_bind (q1 d) ?_
      rfl
    have mQ : ∀ d, Ev X (d + 1) 238 0 [some (vr 100)] [] SH μ = Ev X (d + 1) 238 21 [some (vr 100)] [vi q] SH μ := by
      intro d
      rw [mP, b238_7, if_pos rfl]
      refine Eq.trans b238_14 ?_
      refine x_bind s205 ?_
      rw [q2]
      rfl
    rcases q0 with rfl | rfl
    · have cR : ∀ d, σ 1 5 ≠ 2 → Ev X (d + 6) 86 0 [some (vr 10)] [] SH σ = Ev X (d + 6) 86 57 [some (vr 10)] [vi r] SH σ := by
        intro d z
        rw [cQ d z, b86_42, if_pos rfl]
        refine Eq.trans b86_48 ?_
        refine x_bind (r1 d) ?_
        rfl
      have mR : ∀ d, Ev X (d + 1) 238 0 [some (vr 100)] [] SH μ = Ev X (d + 1) 238 35 [some (vr 100)] [vi r] SH μ := by
        intro d
        rw [mQ, b238_21, if_pos rfl]
        refine Eq.trans b238_28 ?_
        refine x_bind s205 ?_
        rw [r2]
        rfl
      rcases r0 with rfl | rfl
      · have cS : ∀ d, σ 1 5 ≠ 2 → Ev X (d + 6) 86 0 [some (vr 10)] [] SH σ = Ev X (d + 6) 86 72 [some (vr 10)] [vi s] SH σ := by
          intro d z
          rw [cR d z, b86_57, if_pos rfl]
          refine Eq.trans b86_63 ?_
          refine x_bind (s1 d) ?_
          rfl
        have mS : ∀ d, Ev X (d + 1) 238 0 [some (vr 100)] [] SH μ = Ev X (d + 1) 238 49 [some (vr 100)] [vi s] SH μ := by
          intro d
          rw [mR, b238_35, if_pos rfl]
          refine Eq.trans b238_42 ?_
          refine x_bind s205 ?_
          rw [s2]
          rfl
        rcases s0 with rfl | rfl
        · by_cases z : σ 1 5 = 2
          · refine ⟨σ 1 8, -1, fun d => ?_, fun d => ?_, Or.inl ⟨z, rfl, rfl⟩⟩
            · rw [b86_0, if_neg (fun w => w z), b86_11]
            · rw [mS, b238_49, if_pos rfl, b238_56, b238_57]
          · refine ⟨-1000, -1, fun d => ?_, fun d => ?_, Or.inr (Or.inr ⟨z, rfl, rfl⟩)⟩
            · rw [cS d z, b86_72, if_pos rfl, b86_80, b86_83]
            · rw [mS, b238_49, if_pos rfl, b238_56, b238_57]
        · have z := (s3 rfl).1
          have z2 := (s3 rfl).2
          simp only [List.length_cons, List.length_nil] at z2
          refine ⟨-4, 4, fun d => ?_, fun d => ?_, Or.inr (Or.inl ⟨z, by omega, by omega⟩)⟩
          · rw [cS d (by omega), b86_72, if_neg (by decide), b86_75, b86_83]
          · rw [mS, b238_49, if_neg (by decide), b238_52, b238_57]
      · have z := (r3 rfl).1
        have z2 := (r3 rfl).2
        simp only [List.length_cons, List.length_nil] at z2
        refine ⟨-3, 3, fun d => ?_, fun d => ?_, Or.inr (Or.inl ⟨z, by omega, by omega⟩)⟩
        · rw [cR d (by omega), b86_57, if_neg (by decide), b86_60]
        · rw [mR, b238_35, if_neg (by decide), b238_38, b238_57]
    · have z := (q3 rfl).1
      have z2 := (q3 rfl).2
      simp only [List.length_cons, List.length_nil] at z2
      refine ⟨-2, 2, fun d => ?_, fun d => ?_, Or.inr (Or.inl ⟨z, by omega, by omega⟩)⟩
      · rw [cQ d (by omega), b86_42, if_neg (by decide), b86_45]
      · rw [mQ, b238_21, if_neg (by decide), b238_24, b238_57]
  · have z := (p3 rfl).1
    have z2 := (p3 rfl).2
    simp only [List.length_cons, List.length_nil] at z2
    refine ⟨-1, 1, fun d => ?_, fun d => ?_, Or.inr (Or.inl ⟨z, by omega, by omega⟩)⟩
    · rw [cP d (by omega), b86_28, if_neg (by decide), b86_31]
    · rw [mP, b238_7, if_neg (by decide), b238_10, b238_57]
end WLF

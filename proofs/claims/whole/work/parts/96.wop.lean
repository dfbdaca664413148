/-! WANTED: the model's isOpen -/
section WOP
variable {X : Nat × (Nat → Int)} {μ : xM} {h : Nat}
theorem it229 (e : μ 100 38 = (h : Int)) (hh : h ≤ 210) : ∀ (m i : Nat) (b : Int), i + m = h → (b = 0 ∨ b = 1) → ((b = 1 ∨ ∃ j, i ≤ j ∧ j < h ∧ μ 120 j = 30) → ∀ d, Ev X d 229 4 [some (vr 100), some (vi b), some (vi i)] [] SH μ = some (some (vi 1), SH, μ)) ∧ (¬ (b = 1 ∨ ∃ j, i ≤ j ∧ j < h ∧ μ 120 j = 30) → ∀ d, Ev X d 229 4 [some (vr 100), some (vi b), some (vi i)] [] SH μ = some (some (vi 0), SH, μ)) := by
  intro m
  induction m with
  | zero =>
    intro i b q hb
    have st : ∀ d, Ev X d 229 4 [some (vr 100), some (vi b), some (vi i)] [] SH μ = some (some (vi b), SH, μ) := by
      intro d
      rw [b229_4, if_pos (by omega), b229_39 hb]
    refine ⟨fun z d => ?_, fun z d => ?_⟩
    · rcases z with z | ⟨j, j1, j2, _⟩
      · rw [st, z]
      · omega
    · rw [st, show b = 0 by
        rcases hb with y | y
        · exact y
        · exact absurd (Or.inl y) z]
  | succ m ih =>
    intro i b q hb
    have xi : xadd (i : Int) 1 = ((i + 1 : Nat) : Int) := xadd_eq (by omega) (by omega)
    by_cases y : b ≠ 0 ∨ μ 120 i = 30
    · have st : ∀ d, Ev X d 229 4 [some (vr 100), some (vi b), some (vi i)] [] SH μ = Ev X d 229 4 [some (vr 100), some (vi 1), some (vi (i + 1 : Nat))] [] SH μ := by
        intro d
        rw [b229_4, if_neg (by omega), b229_12]
        by_cases w : b ≠ 0
        · rw [if_pos w, b229_27, b229_32, xi]
        · have w2 : μ 120 i = 30 := y.resolve_left w
          rw [if_neg w, b229_16 (by omega), Int.toNat_natCast, if_neg (fun g => g w2), b229_27, b229_32, xi]
      refine ⟨fun _ d => (st d).trans ((ih (i + 1) 1 (by omega) (Or.inr rfl)).1 (Or.inl rfl) d), fun z => absurd ?_ z⟩
      rcases y with y | y
      · exact Or.inl (by omega)
      · exact Or.inr ⟨i, Nat.le_refl _, by omega, y⟩
    · have b0 : b = 0 := by omega
      have y2 : μ 120 i ≠ 30 := fun w => y (Or.inr w)
      subst b0
      have st : ∀ d, Ev X d 229 4 [some (vr 100), some (vi 0), some (vi i)] [] SH μ = Ev X d 229 4 [some (vr 100), some (vi 0), some (vi (i + 1 : Nat))] [] SH μ := by
        intro d
        rw [b229_4, if_neg (by omega), b229_12, if_neg (by decide), b229_16 (by omega), Int.toNat_natCast, if_pos y2, b229_31, b229_32, xi]
      obtain ⟨a1, a2⟩ := ih (i + 1) 0 (by omega) (Or.inl rfl)
      refine ⟨fun z d => (st d).trans (a1 ?_ d), fun z d => (st d).trans (a2 ?_ d)⟩
      · rcases z with z | ⟨j, j1, j2, j3⟩
        · exact Or.inl z
        · refine Or.inr ⟨j, ?_, j2, j3⟩
          by_cases w : j = i
          · rw [w] at j3
            exact absurd j3 y2
          · omega
      · intro w
        apply z
        rcases w with w | ⟨j, j1, j2, j3⟩
        · exact Or.inl w
        · exact Or.inr ⟨j, by omega, j2, j3⟩
end WOP

/-! FORMS, on both sides -/
section WFO
variable {X : Nat × (Nat → Int)} {σ μ : xM} {w t : Nat → Int} {n : Nat}
theorem FW_in : ∀ a, a < 10 → ∀ b, b < 10 → FW a = FW b → a = b := by decide
theorem WF_nw (hF : FT σ μ) (hK : FK σ μ) (hh : ¬ hitF σ) : WF (nwF (σ 5)) := by
  have tl : ∀ i, i < 20 → (σ 5 (2 * (i / 2)) = 0 ∧ (i % 2 = 0 → nwF (σ 5) i = FW (i / 2)) ∧ (i % 2 ≠ 0 → nwF (σ 5) i = 0)) ∨ (σ 5 (2 * (i / 2)) ≠ 0 ∧ nwF (σ 5) i = σ 5 i ∧ 0 ≤ σ 5 i ∧ σ 5 i ≤ 127 ∧ (i % 2 = 0 → 1 ≤ σ 5 i)) := by
    intro i hi
    by_cases z : σ 5 (2 * (i / 2)) = 0
    · refine Or.inl ⟨z, fun y => ?_, fun y => ?_⟩
      · unfold nwF
        rw [if_pos z, if_pos y]
      · unfold nwF
        rw [if_pos z, if_neg y]
    · refine Or.inr ⟨z, ?_, ?_⟩
      · unfold nwF
        rw [if_neg z]
      · have k := hK (i / 2) (by omega)
        unfold FK1 at k
        rcases k with k | ⟨k1, k2, k3, k4, k5, k6, k7⟩
        · exact absurd k.2.1 z
        · by_cases y : i % 2 = 0
          · rw [show 2 * (i / 2) = i by omega] at k2 k4 k5
            omega
          · rw [show 2 * (i / 2) + 1 = i by omega] at k3 k6 k7
            omega
  refine ⟨fun i hi => ?_, fun g hg => ?_, fun i j hi hj e e0 => ?_⟩
  · have fr := FW_rg (i / 2) (by omega)
    rcases tl i hi with ⟨_, a, b⟩ | ⟨_, a, b⟩
    · by_cases y : i % 2 = 0
      · rw [a y]; omega
      · rw [b y]; omega
    · omega
  · have fr := FW_rg g hg
    rcases tl (2 * g) (by omega) with ⟨_, a, _⟩ | ⟨_, a, _, _, b⟩
    · rw [a (by omega), show 2 * g / 2 = g by omega]; omega
    · have := b (by omega)
      omega
  · rcases tl i hi with ⟨z, a, b⟩ | ⟨z, a, b⟩
    · have yi : i % 2 = 0 := Decidable.byContradiction (fun y => e0 (b y))
      rw [a yi] at e e0
      rcases tl j hj with ⟨z', a', b'⟩ | ⟨z', a', b'⟩
      · have yj : j % 2 = 0 := Decidable.byContradiction (fun y => by rw [b' y] at e; exact e0 e)
        rw [a' yj] at e
        have := FW_in (i / 2) (by omega) (j / 2) (by omega) e
        omega
      · rw [a'] at e
        exact absurd ⟨i / 2, by omega, z, j, hj, e.symm⟩ hh
    · rw [a] at e e0
      rcases tl j hj with ⟨z', a', b'⟩ | ⟨z', a', b'⟩
      · have yj : j % 2 = 0 := Decidable.byContradiction (fun y => by rw [b' y] at e; exact e0 e)
        rw [a' yj] at e
        exact absurd ⟨j / 2, by omega, z', i, hi, e⟩ hh
      · rw [a'] at e
        exact hF.2 i j hi hj e e0
theorem it196e {a : Int} (hw : ∀ g, g < 10 → w (2 * g) = (if μ 105 g = 0 then μ 104 g else μ 103 (2 * g)) ∧ w (2 * g + 1) = (if μ 105 g = 0 then 0 else μ 103 (2 * g + 1))) : ∀ (m g : Nat) (ν : xM), g + m = 10 → chg [102] [] μ ν → (∀ i, i < 2 * g → ν 102 i = w i) → ∃ ν', (∀ d, Ev X d 196 138 [some (vr 100), some (vi a), some (vi g)] [] SH ν = Ev X d 196 217 [some (vr 100), some (vi a), some (vi 10)] [] SH ν') ∧ chg [102] [] μ ν' ∧ ∀ i, i < 20 → ν' 102 i = w i := by
  intro m
  induction m with
  | zero =>
    intro g ν e c h
    have e : g = 10 := e
    subst e
    refine ⟨ν, fun d => ?_, c, h⟩
    rw [b196_138, if_pos (by decide)]
    rfl
  | succ m ih =>
    intro g ν e c h
    have xg : xadd (g : Int) 1 = ((g + 1 : Nat) : Int) := xadd_eq (by omega) (by omega)
    have xk : xmul 2 (g : Int) = ((2 * g : Nat) : Int) := by
      rw [xmul_eq (by omega) (by omega)]
      omega
    have xk1 : xadd ((2 * g : Nat) : Int) 1 = ((2 * g + 1 : Nat) : Int) := by
      rw [xadd_eq (by omega) (by omega)]
      omega
    obtain ⟨w0, w1⟩ := hw g (by omega)
    have r3 : ν 103 = μ 103 := chg_row c (fun j => rfl) rfl
    have r4 : ν 104 = μ 104 := chg_row c (fun j => rfl) rfl
    have r5 : ν 105 = μ 105 := chg_row c (fun j => rfl) rfl
    obtain ⟨ν', a1, a2, a3⟩ := ih (g + 1) (xwr (xwr ν 102 (2 * g) (w (2 * g))) 102 (2 * g + 1) (w (2 * g + 1))) (by omega) (chg_wr rfl (chg_wr rfl c)) (fun i hi => by
      by_cases y : i = 2 * g + 1
      · rw [y, xwr_eq]
      · rw [xwr_nj y]
        by_cases y2 : i = 2 * g
        · rw [y2, xwr_eq]
        · rw [xwr_nj y2]
          exact h i (by omega))
    refine ⟨ν', fun d => ?_, a2, a3⟩
    refine Eq.trans ?_ (a1 d)
    by_cases z : μ 105 g = 0
    · rw [if_pos z] at w0 w1
      rw [b196_138, if_neg (by omega), b196_144 (by omega), Int.toNat_natCast, r5, if_pos z, b196_171 (by omega), Int.toNat_natCast, r4, b196_177 (by rw [xk]; omega) (by omega), Int.toNat_natCast, r5, if_pos z, b196_209, xk, xk1, b196_210 (by omega), Int.toNat_natCast, Int.toNat_natCast, xg, w0, w1]
    · rw [if_neg z] at w0 w1
      rw [b196_138, if_neg (by omega), b196_144 (by omega), Int.toNat_natCast, r5, if_neg z, b196_160 (by rw [xk]; omega), xk, Int.toNat_natCast, r3, b196_177 (by omega) (by omega), Int.toNat_natCast, r5, if_neg z, xk, xk1, b196_196 (by rw [xk, xk1]; omega), xk, xk1, Int.toNat_natCast, Int.toNat_natCast, xwr_row (by decide), r3, b196_210 (by omega), Int.toNat_natCast, xg, w0, w1]
/-- what the model forgets when forms are told -/
def mclr (ν : xM) : xM := xwr (xwr (xwr (xwr (xwr (xwr (xwr (xwr ν 100 16 0) 100 17 0) 100 59 0) 100 69 0) 100 70 0) 140 0 0) 140 1 0) 140 2 0
theorem s196t {a : Int} : ∀ (d : Nat) (o : Option xV) (ν : xM), Ev X d 196 217 [some (vr 100), some (vi a), o] [] SH ν = some (some (vi a), SH, mclr ν) := by
  intro d o ν
  rw [b196_217, b196_244, if_neg (by decide), b196_249 (by decide), show xadd 0 1 = 1 by decide, b196_244, if_neg (by decide), b196_249 (by decide), show xadd 1 1 = 2 by decide, b196_244, if_neg (by decide), b196_249 (by decide), show xadd 2 1 = 3 by decide, b196_244, if_pos (by decide), b196_262]
  rfl
end WFO

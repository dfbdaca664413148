/-! Forms: choices, their sticks, what they read; what a cell reads -/
/-- a sign by its sticks; its byte -/
def sgIx (b : Int) : Int := if b = 3 then 0 else if b = 1 then 1 else if b = 5 then 2 else if b = 24 then 3 else if b = 16 then 4 else -1
def sgBy (j : Nat) : Int := ([43, 45, 61, 42, 47] : List Int).getD j 0
def f73 (σ : xM) (a1 a2 : Int) : Int := if a1 = 0 then sgIx a2 else if 0 ≤ a2 ∧ a2 < 128 then σ 8 a2.toNat else -1
def f71 (σ : xM) (a1 a2 : Int) : Int := if 0 ≤ a2 ∧ a2 < f72 σ a1 then (if a1 = 0 then xcv 1 a2.toNat else σ 6 a2.toNat) else 0
def f74 (σ : xM) (a1 a2 : Int) : Int := if 0 ≤ a2 ∧ a2 < f72 σ a1 then (if a1 = 0 then sgBy a2.toNat else 48 + σ 7 a2.toNat) else -1
section SYM
variable {X : Nat × (Nat → Int)} {d k : Nat} {σ : xM} {a1 a2 : Int}
theorem it73 {o0 o1 : Option xV} (j : Nat) (hj : j < 5) : Ev X d 73 28 [o0, o1, some (vi a2), some (vi (j : Int))] [] SH σ = if xcv 1 j = a2 then some (some (vi (j : Int)), SH, σ) else Ev X d 73 28 [o0, o1, some (vi a2), some (vi ((j + 1 : Nat) : Int))] [] SH σ := by
  rw [b73_28, if_neg (by omega), b73_33 ⟨by omega, by omega⟩, Int.toNat_natCast]
  by_cases h : xcv 1 j = a2
  · rw [if_neg (fun z => z h), if_pos h, b73_42]
  · rw [if_pos h, if_neg h, b73_44, xadd_eq (by omega) (by omega)]
    rfl
theorem s73 : Ev X d 73 0 [some (vr 3), some (vi a1), some (vi a2), none] [] SH σ = some (some (vi (f73 σ a1 a2)), SH, σ) := by
  unfold f73
  rw [b73_0]
  by_cases h1 : a1 = 0
  · rw [if_pos h1, if_pos h1, b73_26]
    have e0 := it73 (X := X) (d := d) (σ := σ) (a2 := a2) (o0 := some (vr 3)) (o1 := some (vi a1)) 0 (by omega)
    have e1 := it73 (X := X) (d := d) (σ := σ) (a2 := a2) (o0 := some (vr 3)) (o1 := some (vi a1)) 1 (by omega)
    have e2 := it73 (X := X) (d := d) (σ := σ) (a2 := a2) (o0 := some (vr 3)) (o1 := some (vi a1)) 2 (by omega)
    have e3 := it73 (X := X) (d := d) (σ := σ) (a2 := a2) (o0 := some (vr 3)) (o1 := some (vi a1)) 3 (by omega)
    have e4 := it73 (X := X) (d := d) (σ := σ) (a2 := a2) (o0 := some (vr 3)) (o1 := some (vi a1)) 4 (by omega)
    have x0 : xcv 1 0 = 3 := by decide
    have x1 : xcv 1 1 = 1 := by decide
    have x2 : xcv 1 2 = 5 := by decide
    have x3 : xcv 1 3 = 24 := by decide
    have x4 : xcv 1 4 = 16 := by decide
    rw [x0] at e0
    rw [x1] at e1
    rw [x2] at e2
    rw [x3] at e3
    rw [x4] at e4
    unfold sgIx
    refine Eq.trans e0 ?_
    refine x_if (fun c => by rw [if_pos c.symm]; rfl) (fun c => ?_)
    rw [if_neg (fun z => c z.symm)]
    refine Eq.trans e1 ?_
    refine x_if (fun c => by rw [if_pos c.symm]; rfl) (fun c => ?_)
    rw [if_neg (fun z => c z.symm)]
    refine Eq.trans e2 ?_
    refine x_if (fun c => by rw [if_pos c.symm]; rfl) (fun c => ?_)
    rw [if_neg (fun z => c z.symm)]
    refine Eq.trans e3 ?_
    refine x_if (fun c => by rw [if_pos c.symm]; rfl) (fun c => ?_)
    rw [if_neg (fun z => c z.symm)]
    refine Eq.trans e4 ?_
    refine x_if (fun c => by rw [if_pos c.symm]; rfl) (fun c => ?_)
    rw [if_neg (fun z => c z.symm), b73_28, if_pos (by decide), b73_50]
  · rw [if_neg h1, if_neg h1, b73_4]
    by_cases h2 : a2 < 0
    · rw [if_pos h2, if_neg (by omega), b73_24, b73_25]
    · rw [if_neg h2, b73_8]
      by_cases h3 : 128 ≤ a2
      · rw [if_pos h3, if_neg (by omega), b73_24, b73_25]
      · rw [if_neg h3, if_pos (by omega), b73_15 (by omega), b73_25]
theorem s71 (h1 : σ 3 5 ≤ 20) : Ev X (d + 1) 71 0 [some (vr 3), some (vi a1), some (vi a2)] [] SH σ = some (some (vi (f71 σ a1 a2)), SH, σ) := by
  unfold f71
  refine Eq.trans b71_0 ?_
  by_cases h2 : a2 < 0
  · rw [if_pos h2, if_neg (by omega)]
    exact b71_13
  · rw [if_neg h2]
    refine Eq.trans b71_4 ?_
    refine x_bind s72 ?_
    dsimp only
    refine Eq.trans b71_10 ?_
    by_cases h3 : a2 < f72 σ a1
    · rw [if_pos h3, if_pos (by omega)]
      refine Eq.trans b71_15 ?_
      unfold f72 at h3
      by_cases h4 : a1 = 0
      · rw [if_pos h4] at h3
        rw [if_pos h4, if_pos h4, b71_28 (by omega), b71_33]
      · rw [if_neg h4] at h3
        rw [if_neg h4, if_neg h4, b71_19 (by omega), b71_33]
    · rw [if_neg h3, if_neg (by omega)]
      exact b71_13
theorem x45 : xca X 45 = some (3, 5, fun j => ([43, 45, 61, 42, 47] : List Int).getD j 0) := rfl
theorem x45v : ∀ j, j < 5 → xi2c (xand (([43, 45, 61, 42, 47] : List Int).getD j 0) 255) = ([43, 45, 61, 42, 47] : List Int).getD j 0 ∧ 0 ≤ ([43, 45, 61, 42, 47] : List Int).getD j 0 ∧ ([43, 45, 61, 42, 47] : List Int).getD j 0 ≤ 65535 := by decide
theorem s74 (h1 : σ 3 5 ≤ 20) (h7 : ∀ j : Nat, (j : Int) < σ 3 5 → 0 ≤ σ 7 j ∧ σ 7 j ≤ 9) : Ev X (d + 4) 74 0 [some (vr 3), some (vi a1), some (vi a2)] [] SH σ = some (some (vi (f74 σ a1 a2)), SH, σ) := by
  unfold f74
  refine Eq.trans b74_0 ?_
  by_cases h2 : a2 < 0
  · rw [if_pos h2, if_neg (by omega)]
    exact b74_13
  · rw [if_neg h2]
    refine Eq.trans b74_4 ?_
    refine x_bind s72 ?_
    dsimp only
    refine Eq.trans b74_10 ?_
    by_cases h3 : a2 < f72 σ a1
    · rw [if_pos h3, if_pos (by omega)]
      refine Eq.trans b74_15 ?_
      unfold f72 at h3
      by_cases h4 : a1 = 0
      · rw [if_pos h4] at h3
        rw [if_pos h4, if_pos h4]
        refine Eq.trans b74_31 ?_
        have hv := x45v a2.toNat (by omega)
        refine x_bind (s315 (k := 15) (by decide) x45 (by omega) (by omega) hv.1 hv.2) ?_
        dsimp only
        exact b74_37
      · rw [if_neg h4] at h3
        have h8 := h7 a2.toNat (by omega)
        rw [if_neg h4, if_neg h4, b74_19 (by omega), xadd_eq (by omega) (by omega), b74_37]
    · rw [if_neg h3, if_neg (by omega)]
      exact b74_13
/-- what a cell reads -/
def f140 (σ : xM) (k : Nat) (a2 : Int) : Int := if f136 σ k a2 ≠ 0 then f74 σ (σ (k + 1) a2.toNat) (f73 σ (σ (k + 1) a2.toNat) (σ (k + 2) a2.toNat)) else -1
theorem s140 (hk : isRow k) (h1 : σ 3 5 ≤ 20) (h7 : ∀ j : Nat, (j : Int) < σ 3 5 → 0 ≤ σ 7 j ∧ σ 7 j ≤ 9) : Ev X (d + 5) 140 0 [some (vr k), some (vr 3), some (vi a2)] [] SH σ = some (some (vi (f140 σ k a2)), SH, σ) := by
  unfold f140
  refine Eq.trans (b140_0 hk) ?_
  refine x_bind (s136 hk) ?_
  dsimp only
  refine Eq.trans b140_5 ?_
  refine x_if (fun c => ?_) (fun c => ?_)
  · have := p136 c
    rw [if_pos c]
    refine Eq.trans (b140_10 hk (by omega)) ?_
    refine x_bind s73 ?_
    dsimp only
    refine Eq.trans b140_33 ?_
    refine x_bind (s74 h1 h7) ?_
    dsimp only
    exact b140_36
  · rw [if_neg c]
    exact b140_8
end SYM

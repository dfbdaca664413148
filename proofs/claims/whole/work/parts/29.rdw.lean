/-! Reading: is it true, what a side is worth -/
section RDW
variable {X : Nat × (Nat → Int)} {d k : Nat} {σ : xM} {a1 a2 : Int}
/-- the row read up to a place is true: it holds, no side is without worth, left and right are one -/
def trT (σ : xM) (k : Nat) (a1 : Int) : Int := if f127 σ k a1 = 0 then 0 else if lsT (Rd σ k a1.toNat) ≠ 0 then 0 else if Rd σ k a1.toNat 1 ≠ xadd (Rd σ k a1.toNat 2) (clT (Rd σ k a1.toNat)) then 0 else 1
def woT (σ : xM) (k : Nat) (a1 a2 : Int) : Int := if f127 σ k a1 = 0 then -2000000000 else if xand (xshr (lsT (Rd σ k a1.toNat)) a2) 1 ≠ 1 then (if a2 ≠ 0 then xadd (Rd σ k a1.toNat 2) (clT (Rd σ k a1.toNat)) else Rd σ k a1.toNat 1) else -2000000000
theorem s129 (hk : isRdg k) (h0 : 0 ≤ a1) (h1 : a1 < 12) : Ev X (d + 1) 129 0 [some (vr k), some (vi a1)] [] SH σ = some (some (vi (trT σ k a1)), SH, σ) := by
  have g : 0 ≤ a1 ∧ a1 < 12 := ⟨h0, h1⟩
  unfold trT
  refine Eq.trans (b129_0 hk) ?_
  refine x_bind (s127 hk) ?_
  dsimp only
  refine Eq.trans b129_5 ?_
  refine x_if (fun c => ?_) (fun c => ?_)
  · rw [if_pos c, b129_41, b129_42 (Or.inl rfl)]
  · rw [if_neg c]
    refine Eq.trans (b129_8 hk) ?_
    refine x_bind (s126' hk h0 h1) ?_
    dsimp only
    refine Eq.trans b129_13 ?_
    refine x_if (fun c => ?_) (fun c => ?_)
    · rw [if_pos c, b129_41, b129_42 (Or.inl rfl)]
    · rw [if_neg c]
      refine Eq.trans (b129_16 hk g) ?_
      refine x_bind (s125 hk h0 h1) ?_
      dsimp only
      refine Eq.trans b129_33 ?_
      refine x_if (fun c => ?_) (fun c => ?_)
      · rw [if_pos (show Rd σ k a1.toNat 1 ≠ xadd (Rd σ k a1.toNat 2) (clT (Rd σ k a1.toNat)) from c), b129_41, b129_42 (Or.inl rfl)]
      · rw [if_neg (show ¬ Rd σ k a1.toNat 1 ≠ xadd (Rd σ k a1.toNat 2) (clT (Rd σ k a1.toNat)) from c), b129_37, b129_42 (Or.inr rfl)]
theorem s130 (hk : isRdg k) (h0 : 0 ≤ a1) (h1 : a1 < 12) : Ev X (d + 1) 130 0 [some (vr k), some (vi a1), some (vi a2)] [] SH σ = some (some (vi (woT σ k a1 a2)), SH, σ) := by
  have g : 0 ≤ a1 ∧ a1 < 12 := ⟨h0, h1⟩
  unfold woT
  refine Eq.trans (b130_0 hk) ?_
  refine x_bind (s127 hk) ?_
  dsimp only
  refine Eq.trans b130_5 ?_
  refine x_if (fun c => ?_) (fun c => ?_)
  · rw [if_pos c, b130_21]
  · rw [if_neg c]
    refine Eq.trans (b130_8 hk) ?_
    refine x_bind (s126' hk h0 h1) ?_
    dsimp only
    refine Eq.trans b130_13 ?_
    refine x_if (fun c => ?_) (fun c => ?_)
    · rw [if_pos c]
      refine Eq.trans b130_24 ?_
      refine x_if (fun c => ?_) (fun c => ?_)
      · rw [if_pos c]
        refine Eq.trans (b130_37 hk g) ?_
        refine x_bind (s125 hk h0 h1) ?_
        dsimp only
        refine Eq.trans b130_48 ?_
        exact b130_49
      · rw [if_neg c]
        refine Eq.trans (b130_28 hk g) ?_
        exact b130_49
    · rw [if_neg c, b130_21]
end RDW

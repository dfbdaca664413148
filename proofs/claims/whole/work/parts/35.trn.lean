/-! Row.turnBits -/
def tbN (a0 : Int) : Nat := if a0 = 0 then 5 else 7
def tbL (a0 a1 : Int) (t : Nat) : Nat → Int
  | 0 => 0
  | j + 1 => xor' (tbL a0 a1 t j) (xshl (xand (xshr a1 (j : Int)) 1) (xcv (if a0 = 0 then 3 else 2) (t * tbN a0 + j)))
section TRN
variable {X : Nat × (Nat → Int)} {d : Nat} {σ : xM} {a0 a1 : Int}
theorem it146 {t : Nat} (ht : t ≤ 2) : ∀ (q j : Nat) (o6 : Option xV), j + q = tbN a0 → Ev X d 146 17 [some (vi a0), some (vi a1), some (vi t), some (vi (tbN a0 : Nat)), some (vi (tbL a0 a1 t j)), some (vi j), o6] [] SH σ = some (some (vi (tbL a0 a1 t (tbN a0))), SH, σ) := by
  intro q
  induction q with
  | zero =>
    intro j o6 e
    obtain rfl : j = tbN a0 := by omega
    rw [b146_17, if_pos (by omega), b146_81]
  | succ q ih =>
    intro j o6 e
    rw [b146_17, if_neg (by omega), b146_23, if_neg (by omega), b146_27, if_neg (by omega)]
    refine Eq.trans b146_32 ?_
    have hN : tbN a0 ≤ 7 := by
      unfold tbN
      split <;> omega
    have ht3 : t = 0 ∨ t = 1 ∨ t = 2 := by omega
    have e1 : xadd (xmul (t : Int) (tbN a0 : Nat)) j = ((t * tbN a0 + j : Nat) : Int) := by
      rcases ht3 with rfl | rfl | rfl <;> rw [xmul_eq (by omega) (by omega), xadd_eq (by omega) (by omega)] <;> omega
    have n1 : xadd (j : Int) 1 = ((j + 1 : Nat) : Int) := by
      rw [xadd_eq (by omega) (by omega)]
      omega
    have nx := ih (j + 1)
    refine x_if (fun c => ?_) (fun c => ?_)
    · have hN5 : tbN a0 = 5 := by
        unfold tbN
        rw [if_pos c]
      refine Eq.trans (b146_49 (by rw [e1]; rcases ht3 with rfl | rfl | rfl <;> omega)) ?_
      rw [e1, Int.toNat_natCast]
      refine Eq.trans b146_59 ?_
      rw [n1]
      have := nx (some (vi (xcv 3 (t * tbN a0 + j)))) (by omega)
      rw [tbL, if_pos c] at this
      exact this
    · have hN7 : tbN a0 = 7 := by
        unfold tbN
        rw [if_neg c]
      refine Eq.trans (b146_36 (by rw [e1]; rcases ht3 with rfl | rfl | rfl <;> omega)) ?_
      rw [e1, Int.toNat_natCast]
      refine Eq.trans b146_59 ?_
      rw [n1]
      have := nx (some (vi (xcv 2 (t * tbN a0 + j)))) (by omega)
      rw [tbL, if_neg c] at this
      exact this
theorem s146 {t : Nat} (ht : t ≤ 2) : Ev X d 146 0 [some (vi a0), some (vi a1), some (vi t), none, none, none, none] [] SH σ = some (some (vi (tbL a0 a1 t (tbN a0))), SH, σ) := by
  refine Eq.trans b146_0 ?_
  have w := it146 (X := X) (d := d) (σ := σ) (a0 := a0) (a1 := a1) ht (tbN a0) 0 none (by omega)
  refine x_if (fun c => ?_) (fun c => ?_)
  · rw [b146_9]
    refine Eq.trans b146_10 ?_
    have hN5 : tbN a0 = 5 := by
      unfold tbN
      rw [if_pos c]
    rw [hN5] at w ⊢
    exact w
  · rw [b146_4]
    refine Eq.trans b146_10 ?_
    have hN7 : tbN a0 = 7 := by
      unfold tbN
      rw [if_neg c]
    rw [hN7] at w ⊢
    exact w
end TRN

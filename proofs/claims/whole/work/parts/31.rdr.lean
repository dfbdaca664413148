/-! Reading.readRow: a row read symbol by symbol -/
def rdSt (r : Nat → Int) (cs : Nat → Int) : Nat → Nat → Int
  | 0 => r
  | i + 1 => rdN (rdSt r cs i) (cs i)
def setRds (σ : xM) (k m : Nat) (st : Nat → Nat → Int) : xM := fun a b => if k + 1 ≤ a ∧ a ≤ k + 8 ∧ 1 ≤ b ∧ b ≤ m then st b (a - (k + 1)) else σ a b
section RDR
variable {X : Nat × (Nat → Int)} {d k k1 : Nat} {σ : xM} {o4 : Option xV} {st : Nat → Nat → Int}
theorem setRds_zero : setRds σ k 0 st = σ := by
  funext a b
  unfold setRds
  rw [if_neg (by omega)]
theorem setRds_succ {m : Nat} : setRd (setRds σ k m st) k (m + 1) (st (m + 1)) = setRds σ k (m + 1) st := by
  funext a b
  unfold setRd setRds
  by_cases h : k + 1 ≤ a ∧ a ≤ k + 8 ∧ b = m + 1
  · rw [if_pos h, if_pos (by omega), h.2.2]
  · rw [if_neg h]
    by_cases h2 : k + 1 ≤ a ∧ a ≤ k + 8 ∧ 1 ≤ b ∧ b ≤ m
    · rw [if_pos h2, if_pos (by omega)]
    · rw [if_neg h2, if_neg (by omega)]
theorem setRds_out {m a b : Nat} (h : ¬ (k + 1 ≤ a ∧ a ≤ k + 8)) : setRds σ k m st a b = σ a b := by
  unfold setRds
  rw [if_neg (fun z => h ⟨z.1, z.2.1⟩)]
theorem Rd_setRds {m j : Nat} (hj : j < 8) (h : st 0 = Rd σ k 0) : Rd (setRds σ k m st) k m j = st m j := by
  unfold Rd setRds
  cases m with
  | zero =>
    rw [if_neg (by omega), h]
    rfl
  | succ m =>
    rw [if_pos (by omega)]
    rw [show k + 1 + j - (k + 1) = j by omega]
end RDR

/-! two arrays of a row laid cell by cell -/
def lay2 (σ : xM) (k : Nat) (A B : Nat → Int) (m : Nat) : xM := xrow (xrow σ (k + 1) (fun i => if i < m then A i else σ (k + 1) i)) (k + 2) (fun i => if i < m then B i else σ (k + 2) i)
section LAY
variable {X : Nat × (Nat → Int)} {d k k1 : Nat} {σ : xM} {A B : Nat → Int}
theorem lay2_0 : lay2 σ k A B 0 = σ := by
  unfold lay2
  simp only [Nat.not_lt_zero, if_false]
  rw [show (fun i => σ (k + 1) i) = σ (k + 1) from rfl, xrow_self, show (fun i => σ (k + 2) i) = σ (k + 2) from rfl, xrow_self]
theorem lay2_at {n q i : Nat} (h1 : q ≠ k + 1) (h2 : q ≠ k + 2) : lay2 σ k A B n q i = σ q i := by
  unfold lay2
  rw [xrow_ne h2, xrow_ne h1]
theorem lay2_s {n : Nat} : xwr (xwr (lay2 σ k A B n) (k + 1) n (A n)) (k + 2) n (B n) = lay2 σ k A B (n + 1) := by
  funext a b
  unfold lay2 xwr xrow
  by_cases ha2 : a = k + 2
  · subst ha2
    by_cases hb : b = n
    · subst hb
      simp
    · by_cases hb2 : b < n
      · simp [hb, hb2, show b < n + 1 by omega]
      · simp [hb, hb2, show ¬ b < n + 1 by omega]
  · by_cases ha1 : a = k + 1
    · subst ha1
      by_cases hb : b = n
      · subst hb
        simp
      · by_cases hb2 : b < n
        · simp [hb, hb2, show b < n + 1 by omega]
        · simp [hb, hb2, show ¬ b < n + 1 by omega]
    · simp [ha1, ha2]
end LAY

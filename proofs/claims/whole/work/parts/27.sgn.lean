/-! Reading: a sign more -/
/-- what a sign makes of what was read -/
def rdS (r : Nat → Int) (c : Int) : Nat → Int := fun j => match j with
  | 0 => if c = 61 then 1 else r 0
  | 1 => if c = 61 then xadd (r 2) (clT r) else r 1
  | 2 => if c = 61 then 0 else if c = 42 ∨ c = 47 then r 2 else xadd (r 2) (clT r)
  | 3 => if c = 42 ∨ c = 47 then clT r else 0
  | 4 => if c = 61 then 43 else c
  | 5 => 0
  | 6 => 0
  | _ => lsT r
theorem wr8 {σ τ : xM} {k i : Nat} {v : Nat → Int} {v1 v2 v3 v4 v5 v6 v7 v8 : Int} (h : τ = xwr (xwr (xwr (xwr (xwr (xwr (xwr (xwr σ (k + 1) i v1) (k + 2) i v2) (k + 3) i v3) (k + 4) i v4) (k + 5) i v5) (k + 6) i v6) (k + 7) i v7) (k + 8) i v8) (h1 : v1 = v 0) (h2 : v2 = v 1) (h3 : v3 = v 2) (h4 : v4 = v 3) (h5 : v5 = v 4) (h6 : v6 = v 5) (h7 : v7 = v 6) (h8 : v8 = v 7) : τ = setRd σ k i v := by
  subst h h1 h2 h3 h4 h5 h6 h7 h8
  funext a b
  unfold setRd
  by_cases hb : b = i
  · subst hb
    by_cases ha : k + 1 ≤ a ∧ a ≤ k + 8
    · rw [if_pos ⟨ha.1, ha.2, rfl⟩]
      obtain ⟨j, hj, rfl⟩ : ∃ j, j < 8 ∧ a = k + 1 + j := ⟨a - (k + 1), by omega, by omega⟩
      rw [show k + 1 + j - (k + 1) = j by omega]
      have hj8 : j = 0 ∨ j = 1 ∨ j = 2 ∨ j = 3 ∨ j = 4 ∨ j = 5 ∨ j = 6 ∨ j = 7 := by omega
      rcases hj8 with rfl | rfl | rfl | rfl | rfl | rfl | rfl | rfl <;> simp [xwr]
    · rw [if_neg (fun z => ha ⟨z.1, z.2.1⟩)]
      rw [xwr_nk (by omega), xwr_nk (by omega), xwr_nk (by omega), xwr_nk (by omega), xwr_nk (by omega), xwr_nk (by omega), xwr_nk (by omega), xwr_nk (by omega)]
  · rw [if_neg (fun z => hb z.2.2)]
    rw [xwr_nj hb, xwr_nj hb, xwr_nj hb, xwr_nj hb, xwr_nj hb, xwr_nj hb, xwr_nj hb, xwr_nj hb]

/-! Reading: what was read up to a place is eight numbers (0 side, 1 left, 2 sum, 3 term, 4 sign, 5 number, 6 digits, 7 lost) -/
def setRd (σ : xM) (k i : Nat) (v : Nat → Int) : xM := fun a b => if k + 1 ≤ a ∧ a ≤ k + 8 ∧ b = i then v (a - (k + 1)) else σ a b
def Rd (σ : xM) (k i : Nat) : Nat → Int := fun j => σ (k + 1 + j) i
/-- the last number joined to its term -/
def clT (r : Nat → Int) : Int := if r 4 = 42 then xmul (r 3) (r 5) else if r 4 = 45 then xneg (r 5) else if r 4 = 47 then (if r 5 ≠ 0 then xdiv (r 3) (r 5) else 0) else r 5
/-- sides without worth, with the last number -/
def lsT (r : Nat → Int) : Int := if r 4 ≠ 47 then r 7 else if r 5 ≠ 0 then r 7 else xor' (r 7) (xshl 1 (r 0))
/-- a digit more -/
def rdD (r : Nat → Int) (dg : Int) : Nat → Int := fun j => match j with
  | 5 => xadd (xmul (r 5) 10) dg
  | 6 => xadd (r 6) 1
  | j => r j
section RDG
variable {X : Nat × (Nat → Int)} {d k : Nat} {σ : xM} {a1 a2 : Int}
theorem s125 (hk : isRdg k) (h0 : 0 ≤ a1) (h1 : a1 < 12) : Ev X d 125 0 [some (vr k), some (vi a1)] [] SH σ = some (some (vi (clT (Rd σ k a1.toNat))), SH, σ) := by
  have g : 0 ≤ a1 ∧ a1 < 12 := ⟨h0, h1⟩
  unfold clT
  refine Eq.trans (b125_0 hk g) ?_
  refine x_if (fun c => ?_) (fun c => ?_)
  · rw [if_pos (show Rd σ k a1.toNat 4 = 42 from c)]
    exact b125_48 hk g
  · rw [if_neg (show ¬ Rd σ k a1.toNat 4 = 42 from c)]
    refine x_if (fun c => ?_) (fun c => ?_)
    · rw [if_pos (show Rd σ k a1.toNat 4 = 45 from c)]
      exact b125_40 hk g
    · rw [if_neg (show ¬ Rd σ k a1.toNat 4 = 45 from c)]
      refine x_if (fun c => ?_) (fun c => ?_)
      · rw [if_pos (show Rd σ k a1.toNat 4 = 47 from c)]
        refine Eq.trans (b125_62 hk g) ?_
        refine x_if (fun c => ?_) (fun c => ?_)
        · rw [if_pos (show Rd σ k a1.toNat 5 ≠ 0 from c), b125_75 hk g c, b125_88]
          rfl
        · rw [if_neg (show ¬ Rd σ k a1.toNat 5 ≠ 0 from c), b125_71, b125_88]
      · rw [if_neg (show ¬ Rd σ k a1.toNat 4 = 47 from c)]
        exact b125_89 hk g
theorem s126' (hk : isRdg k) (h0 : 0 ≤ a1) (h1 : a1 < 12) : Ev X d 126 0 [some (vr k), some (vi a1)] [] SH σ = some (some (vi (lsT (Rd σ k a1.toNat))), SH, σ) := s126 hk h0 h1
theorem g123_eq (h0 : 0 ≤ a1) (h1 : a1 < 11) (hf : f123 σ k a1 a2 = 1) : g123 σ k a1 a2 = setRd σ k (a1.toNat + 1) (rdD (Rd σ k a1.toNat) a2) := by
  have e : (xadd a1 1).toNat = a1.toNat + 1 := by
    rw [xadd_eq (by omega) (by omega)]
    omega
  have key : ∀ (v1 v2 v3 v4 v5 v6 v7 v8 : Int), v1 = σ (k + 1) a1.toNat → v2 = σ (k + 2) a1.toNat → v3 = σ (k + 3) a1.toNat → v4 = σ (k + 4) a1.toNat → v5 = σ (k + 5) a1.toNat → v6 = xadd (xmul (σ (k + 6) a1.toNat) 10) a2 → v7 = xadd (σ (k + 7) a1.toNat) 1 → v8 = σ (k + 8) a1.toNat → xwr (xwr (xwr (xwr (xwr (xwr (xwr (xwr σ (k + 1) (a1.toNat + 1) v1) (k + 2) (a1.toNat + 1) v2) (k + 3) (a1.toNat + 1) v3) (k + 4) (a1.toNat + 1) v4) (k + 5) (a1.toNat + 1) v5) (k + 6) (a1.toNat + 1) v6) (k + 7) (a1.toNat + 1) v7) (k + 8) (a1.toNat + 1) v8 = setRd σ k (a1.toNat + 1) (rdD (Rd σ k a1.toNat) a2) := by
    intro v1 v2 v3 v4 v5 v6 v7 v8 h1 h2 h3 h4 h5 h6 h7 h8
    subst h1 h2 h3 h4 h5 h6 h7 h8
    funext a b
    unfold setRd
    by_cases hb : b = a1.toNat + 1
    · subst hb
      by_cases ha : k + 1 ≤ a ∧ a ≤ k + 8
      · rw [if_pos ⟨ha.1, ha.2, rfl⟩]
        obtain ⟨j, hj, rfl⟩ : ∃ j, j < 8 ∧ a = k + 1 + j := ⟨a - (k + 1), by omega, by omega⟩
        rw [show k + 1 + j - (k + 1) = j by omega]
        have hj8 : j = 0 ∨ j = 1 ∨ j = 2 ∨ j = 3 ∨ j = 4 ∨ j = 5 ∨ j = 6 ∨ j = 7 := by omega
        rcases hj8 with rfl | rfl | rfl | rfl | rfl | rfl | rfl | rfl <;> simp [xwr, rdD, Rd]
      · rw [if_neg (fun z => ha ⟨z.1, z.2.1⟩)]
        rw [xwr_nk (by omega), xwr_nk (by omega), xwr_nk (by omega), xwr_nk (by omega), xwr_nk (by omega), xwr_nk (by omega), xwr_nk (by omega), xwr_nk (by omega)]
    · rw [if_neg (fun z => hb z.2.2)]
      rw [xwr_nj hb, xwr_nj hb, xwr_nj hb, xwr_nj hb, xwr_nj hb, xwr_nj hb, xwr_nj hb, xwr_nj hb]
  have ne : a1.toNat ≠ a1.toNat + 1 := by omega
  unfold f123 at hf
  unfold g123
  rw [e]
  split at hf
  · cases hf
  · rename_i c1
    rw [if_neg c1]
    have kk := fun v1 v2 v3 v4 v5 v6 v7 v8 => key v1 v2 v3 v4 v5 v6 v7 v8
    have fin : ∀ (τ : xM), τ = setRd σ k (a1.toNat + 1) (rdD (Rd σ k a1.toNat) a2) → τ = setRd σ k (a1.toNat + 1) (rdD (Rd σ k a1.toNat) a2) := fun _ h => h
    split
    · refine key _ _ _ _ _ _ _ _ ?_ ?_ ?_ ?_ ?_ ?_ ?_ ?_ <;> simp [xwr, ne]
    · rename_i c2
      rw [if_neg c2] at hf
      split at hf
      · rename_i c3
        rw [if_pos c3]
        refine key _ _ _ _ _ _ _ _ ?_ ?_ ?_ ?_ ?_ ?_ ?_ ?_ <;> simp [xwr, ne]
      · cases hf
end RDG

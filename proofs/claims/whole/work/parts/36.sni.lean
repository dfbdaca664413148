/-! Row.sticksNotIn -/
def dfR (σ : xM) (k k1 c : Nat) : Int := xand (σ (k + 2) c) (xxor (σ (k1 + 2) c) (-1))
section SNI
variable {X : Nat × (Nat → Int)} {d k k1 : Nat} {σ : xM}
theorem it143 (hk : isRow k) (hk1 : isRow k1) {n : Nat} (hn : σ k 0 = n) (hn2 : n ≤ 11) (hb : ∀ c, c < n → 0 ≤ dfR σ k k1 c ∧ dfR σ k k1 c < 128) : ∀ (m i : Nat), i + m = n → Ev X (d + 1) 143 4 [some (vr k), some (vr k1), some (vi (isum (fun c => pc (dfR σ k k1 c).toNat) i)), some (vi (i : Int))] [] SH σ = some (some (vi (isum (fun c => pc (dfR σ k k1 c).toNat) n)), SH, σ)
  | 0, i, h => by
    have e : i = n := by omega
    subst e
    rw [b143_4 hk, if_pos (by omega), b143_39]
  | m + 1, i, h => by
    have rg := isum_rg (f := fun c => pc (dfR σ k k1 c).toNat) (B := 7) (fun j => pc_rg _) (by omega) i
    have rp := pc_rg (dfR σ k k1 i).toNat
    rw [b143_4 hk, if_neg (by omega)]
    refine Eq.trans (b143_12 hk hk1 ⟨by omega, by omega⟩) ?_
    rw [Int.toNat_natCast]
    refine x_bind s319 ?_
    dsimp only
    refine Eq.trans b143_31 ?_
    rw [← dfR, f319_pc (hb i (by omega)).1 (hb i (by omega)).2]
    have nx := it143 hk hk1 hn hn2 hb m (i + 1) (by omega)
    rw [isum] at nx
    rw [xadd_eq (by omega) (by omega), xadd_eq (by omega) (by omega)]
    exact nx
theorem s143 (hk : isRow k) (hk1 : isRow k1) (h0 : 0 ≤ σ k 0) (h1 : σ k 0 ≤ 11) (hb : ∀ c : Nat, (c : Int) < σ k 0 → 0 ≤ dfR σ k k1 c ∧ dfR σ k k1 c < 128) : Ev X (d + 1) 143 0 [some (vr k), some (vr k1), none, none] [] SH σ = some (some (vi (isum (fun c => pc (dfR σ k k1 c).toNat) (σ k 0).toNat)), SH, σ) := by
  rw [b143_0]
  exact it143 hk hk1 (n := (σ k 0).toNat) (by omega) (by omega) (fun c hc => hb c (by omega)) (σ k 0).toNat 0 (by omega)
end SNI

/-! String: length, charAt, indexOf of the constants -/
/-- the first place from i on, of m, that holds c -/
def sfind (f : Nat → Int) (c : Int) : Nat → Nat → Int
  | _, 0 => -1
  | i, m + 1 => if f i = c then (i : Int) else sfind f c (i + 1) m
section JDK
variable {X : Nat × (Nat → Int)} {d k n1 : Nat} {f1 : Nat → Int} {σ : xM}
theorem s307 (hk : 10 ≤ k ∧ k < 23) : Ev X d 307 0 [some (vc k)] [] SH σ = some (some (vi 1), SH, σ) := by
  rw [b307_0, if_neg (by decide), b307_6 hk, if_neg (by decide), b307_13, b307_18 (by decide)]
theorem s309 (hk : 10 ≤ k ∧ k < 23) : Ev X d 309 0 [some (vc k)] [] SH σ = some (some (vi 0), SH, σ) := by
  rw [b309_0, if_neg (by decide), b309_6 hk, b309_14 (by decide)]
theorem s308 (hk : 10 ≤ k ∧ k < 23) (ha : xca X (k + 30) = some (3, n1, f1)) (hn : n1 ≤ 65535) : Ev X (d + 1) 308 0 [some (vc k)] [] SH σ = some (some (vi (n1 : Int)), SH, σ) := by
  refine Eq.trans (b308_0 hk ha) ?_
  refine x_bind (s309 hk) ?_
  dsimp only
  refine Eq.trans b308_9 ?_
  have e : xshr (n1 : Int) 0 = n1 := by
    have := xshr_eq (a := (n1 : Int)) (k := 0) (by omega) (by omega) (by omega)
    simpa using this
  rw [e]
theorem it314 {o1 o2 : Option xV} {b : Int} {k0 : Nat} (ha : xca X k0 = some (3, n1, f1)) (hn : n1 ≤ 65535) : ∀ (m i : Nat), i + m = n1 → Ev X d 314 7 [some (vc k0), o1, o2, some (vi (n1 : Int)), some (vi b), some (vi (i : Int))] [] SH σ = some (some (vi (sfind f1 b i m)), SH, σ)
  | 0, i, h => by
    rw [b314_7, if_pos (by omega), b314_31]
    rfl
  | m + 1, i, h => by
    rw [b314_7, if_neg (by omega), b314_13 ha ⟨by omega, by omega⟩]
    unfold sfind
    rw [Int.toNat_natCast]
    by_cases hc : f1 i = b
    · rw [if_neg (fun z => z hc), if_pos hc, b314_22]
    · rw [if_pos hc, if_neg hc, b314_25, xadd_eq (by omega) (by omega)]
      exact it314 ha hn m (i + 1) (by omega)
theorem s311b {a0 : Int} (h0 : 0 ≤ a0) (h1 : a0 ≤ 255) : Ev X d 311 0 [some (vi a0)] [] SH σ = some (some (vi 1), SH, σ) := by
  rw [b311_0, if_neg (by omega), b311_4, if_neg (by omega), b311_11, b311_16 (by decide)]
theorem s310 {a1 : Int} {k0 : Nat} (ha : xca X k0 = some (3, n1, f1)) (hn : n1 ≤ 65535) (h0 : 0 ≤ a1) (h1 : a1 ≤ 255) : Ev X (d + 1) 310 0 [some (vc k0), some (vi a1), some (vi 0), some (vi (n1 : Int))] [] SH σ = some (some (vi (sfind f1 (xi2b a1) 0 n1)), SH, σ) := by
  refine Eq.trans b310_0 ?_
  refine x_bind (s311b h0 h1) ?_
  dsimp only
  refine Eq.trans b310_4 ?_
  rw [if_pos (by decide)]
  refine Eq.trans (b310_9 ha) ?_
  have e1 : xmax 0 0 = 0 := by decide
  have e2 : xmin (n1 : Int) (n1 : Int) = n1 := if_neg (by omega)
  rw [e1, e2]
  by_cases hz : n1 = 0
  · subst hz
    rw [if_neg (by decide)]
    refine Eq.trans b310_27 ?_
    rfl
  · rw [if_pos (by omega)]
    refine Eq.trans b310_29 ?_
    refine x_bind (v := (some (vi (sfind f1 (xi2b a1) 0 n1)), SH, σ)) ?_ ?_
    · rw [b314_0]
      exact it314 ha hn n1 0 (by omega)
    · dsimp only
      exact b310_36
theorem s306 {a1 : Int} (hk : 10 ≤ k ∧ k < 23) (ha : xca X (k + 30) = some (3, n1, f1)) (hn : n1 ≤ 65535) (h0 : 0 ≤ a1) (h1 : a1 ≤ 255) : Ev X (d + 2) 306 0 [some (vc k), some (vi a1), some (vi 0)] [] SH σ = some (some (vi (sfind f1 (xi2b a1) 0 n1)), SH, σ) := by
  refine Eq.trans (b306_0 hk) ?_
  refine x_bind (s307 hk) ?_
  dsimp only
  refine Eq.trans b306_4 ?_
  rw [if_neg (by decide)]
  refine Eq.trans (b306_7 hk) ?_
  refine x_bind (s308 hk ha hn) ?_
  dsimp only
  refine Eq.trans b306_17 ?_
  refine x_bind (s310 ha hn h0 h1) ?_
  dsimp only
  exact b306_20
theorem s305 {a1 : Int} (hk : 10 ≤ k ∧ k < 23) (ha : xca X (k + 30) = some (3, n1, f1)) (hn : n1 ≤ 65535) (h0 : 0 ≤ a1) (h1 : a1 ≤ 255) : Ev X (d + 3) 305 0 [some (vc k), some (vi a1)] [] SH σ = some (some (vi (sfind f1 (xi2b a1) 0 n1)), SH, σ) := by
  refine Eq.trans (b305_0 hk) ?_
  refine x_bind (s306 hk ha hn h0 h1) ?_
  dsimp only
  exact b305_6
theorem s318 {a0 a1 : Int} (h0 : 0 ≤ a0) (h1 : a0 < a1) : Ev X d 318 0 [some (vi a0), some (vi a1), some (vc 98)] [] SH σ = some (some (vi a0), SH, σ) := by
  rw [b318_0, if_neg (by omega), b318_4, if_pos h1, b318_16]
theorem s317 {a0 a1 : Int} (h0 : 0 ≤ a0) (h1 : a0 < a1) : Ev X (d + 1) 317 0 [some (vi a0), some (vi a1)] [] SH σ = some (none, SH, σ) := by
  refine Eq.trans b317_0 ?_
  refine x_bind (s318 h0 h1) ?_
  dsimp only
  exact b317_8
theorem s316 {a1 : Int} {k0 : Nat} (ha : xca X k0 = some (3, n1, f1)) (h0 : 0 ≤ a1) (h1 : a1 < n1) (h2 : xi2c (xand (f1 a1.toNat) 255) = f1 a1.toNat) (h3 : 0 ≤ f1 a1.toNat ∧ f1 a1.toNat ≤ 65535) : Ev X (d + 2) 316 0 [some (vc k0), some (vi a1)] [] SH σ = some (some (vi (f1 a1.toNat)), SH, σ) := by
  refine Eq.trans (b316_0 ha) ?_
  refine x_bind (s317 h0 h1) ?_
  dsimp only
  refine Eq.trans (b316_6 ha ⟨h0, h1⟩ (by rw [h2]; exact h3)) ?_
  rw [h2]
theorem s315 {a1 : Int} (hk : 10 ≤ k ∧ k < 23) (ha : xca X (k + 30) = some (3, n1, f1)) (h0 : 0 ≤ a1) (h1 : a1 < n1) (h2 : xi2c (xand (f1 a1.toNat) 255) = f1 a1.toNat) (h3 : 0 ≤ f1 a1.toNat ∧ f1 a1.toNat ≤ 65535) : Ev X (d + 3) 315 0 [some (vc k), some (vi a1)] [] SH σ = some (some (vi (f1 a1.toNat)), SH, σ) := by
  refine Eq.trans (b315_0 hk) ?_
  refine x_bind (s307 hk) ?_
  dsimp only
  refine Eq.trans b315_4 ?_
  rw [if_neg (by decide)]
  refine Eq.trans (b315_7 hk) ?_
  refine x_bind (s316 ha h0 h1 h2 h3) ?_
  dsimp only
  exact b315_15 h3
end JDK

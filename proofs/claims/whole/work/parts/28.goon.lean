/-! Reading.goOn: a symbol more -/
section GOON
variable {X : Nat × (Nat → Int)} {d k : Nat} {σ τ : xM} {a1 a2 t : Int}
theorem s122o (h : a1 < 0 ∨ 11 ≤ a1) : Ev X d 122 0 [some (vr k), some (vi a1), some (vi a2)] [] SH σ = some (some (vi 0), SH, σ) := by
  refine Eq.trans b122_0 ?_
  refine x_if (fun c => ?_) (fun c => ?_)
  · exact b122_10
  · refine Eq.trans b122_4 ?_
    rw [if_neg (by omega)]
    exact b122_10
theorem s122d (hk : isRdg k) (h0 : 0 ≤ a1) (h1 : a1 < 11) (hd : f164 σ a2 ≠ 0) (hf : f123 σ k a1 (xsub a2 48) = 1) : Ev X (d + 1) 122 0 [some (vr k), some (vi a1), some (vi a2)] [] SH σ = some (some (vi 1), SH, setRd σ k (a1.toNat + 1) (rdD (Rd σ k a1.toNat) (xsub a2 48))) := by
  refine Eq.trans b122_0 ?_
  rw [if_neg (by omega), b122_4, if_pos h1]
  refine Eq.trans b122_12 ?_
  refine x_bind s164 ?_
  dsimp only
  refine Eq.trans b122_16 ?_
  rw [if_neg hd]
  refine Eq.trans (b122_19 hk) ?_
  refine x_bind (s123 hk h0 h1) ?_
  dsimp only
  rw [hf, g123_eq h0 h1 hf]
  refine Eq.trans b122_28 ?_
  exact b122_37 (Or.inr rfl)
theorem s122r (hk : isRdg k) (h0 : 0 ≤ a1) (h1 : a1 < 11) (hd : f164 σ a2 ≠ 0) (hf : f123 σ k a1 (xsub a2 48) = 0) : Ev X (d + 1) 122 0 [some (vr k), some (vi a1), some (vi a2)] [] SH σ = some (some (vi 0), SH, g123 σ k a1 (xsub a2 48)) := by
  refine Eq.trans b122_0 ?_
  rw [if_neg (by omega), b122_4, if_pos h1]
  refine Eq.trans b122_12 ?_
  refine x_bind s164 ?_
  dsimp only
  refine Eq.trans b122_16 ?_
  rw [if_neg hd]
  refine Eq.trans (b122_19 hk) ?_
  refine x_bind (s123 hk h0 h1) ?_
  dsimp only
  rw [hf]
  refine Eq.trans b122_28 ?_
  exact b122_37 (Or.inl rfl)
theorem s122s (hk : isRdg k) (h0 : 0 ≤ a1) (h1 : a1 < 11) (hd : f164 σ a2 = 0) (ht : t = 0 ∨ t = 1) (e : Ev X d 124 0 [some (vr k), some (vi a1), some (vi a2), none, none, none, none] [] SH σ = some (some (vi t), SH, τ)) : Ev X (d + 1) 122 0 [some (vr k), some (vi a1), some (vi a2)] [] SH σ = some (some (vi t), SH, τ) := by
  refine Eq.trans b122_0 ?_
  rw [if_neg (by omega), b122_4, if_pos h1]
  refine Eq.trans b122_12 ?_
  refine x_bind s164 ?_
  dsimp only
  refine Eq.trans b122_16 ?_
  rw [if_pos hd]
  refine Eq.trans (b122_31 hk) ?_
  refine x_bind e ?_
  dsimp only
  exact b122_37 ht
end GOON

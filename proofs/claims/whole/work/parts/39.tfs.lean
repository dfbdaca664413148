section TFS
variable {X : Nat × (Nat → Int)} {d k k1 : Nat} {σ : xM}
theorem s145 {t : Nat} (ht : t ≤ 2) (hk : isRow k) (hk1 : isRow k1) (hne : k ≠ k1) (h0 : 0 ≤ σ k1 0) (h1 : σ k1 0 ≤ 11) (hf : ∀ c : Nat, (c : Int) < σ k1 0 → σ (k1 + 1) c = 0 ∨ σ (k1 + 1) c = 1) : Ev X (d + 1) 145 0 [some (vr k), some (vr k1), some (vi t), none, none] [] SH σ = some (none, SH, lay2 (xwr σ k 0 (σ k1 0)) k (tfA (xwr σ k 0 (σ k1 0)) k1 t (σ k1 0).toNat) (tfB (xwr σ k 0 (σ k1 0)) k1 t (σ k1 0).toNat) (σ k1 0).toNat) := by
  have ap := row_apart hk hk1 hne
  rw [b145_0 hk hk1]
  have := it145 (X := X) (d := d) (σ := xwr σ k 0 (σ k1 0)) ht hk hk1 hne (n := (σ k1 0).toNat) (by rw [xwr_eq]; omega) (by omega) (fun c hc => by rw [xwr_nk (by omega)]; exact hf c (by omega)) (σ k1 0).toNat 0 none (by omega)
  rw [lay2_0] at this
  exact this
end TFS

/-! Row.turnFrom -/
def tsI (t n j : Nat) : Nat := if t = 2 then j else n - 1 - j
section TFR
variable {X : Nat × (Nat → Int)} {d k k1 : Nat} {σ : xM}
def tfA (σ : xM) (k1 t n : Nat) : Nat → Int := fun j => σ (k1 + 1) (tsI t n j)
def tfB (σ : xM) (k1 t n : Nat) : Nat → Int := fun j => tbL (σ (k1 + 1) (tsI t n j)) (σ (k1 + 2) (tsI t n j)) t (tbN (σ (k1 + 1) (tsI t n j)))
theorem it145 {t : Nat} (ht : t ≤ 2) (hk : isRow k) (hk1 : isRow k1) (hne : k ≠ k1) {n : Nat} (hn : σ k 0 = n) (hn2 : n ≤ 11) (hf : ∀ c, c < n → σ (k1 + 1) c = 0 ∨ σ (k1 + 1) c = 1) : ∀ (m i : Nat) (o4 : Option xV), i + m = n → Ev X (d + 1) 145 10 [some (vr k), some (vr k1), some (vi t), some (vi (i : Int)), o4] [] SH (lay2 σ k (tfA σ k1 t n) (tfB σ k1 t n) i) = some (none, SH, lay2 σ k (tfA σ k1 t n) (tfB σ k1 t n) n)
  | 0, i, o4, h => by
    have e : i = n := by omega
    subst e
    rw [b145_10 hk, lay2_at (by omega) (by omega), if_pos (by omega), b145_80]
  | m + 1, i, o4, h => by
    have ap := row_apart hk hk1 hne
    have s : Ev X (d + 1) 145 10 [some (vr k), some (vr k1), some (vi t), some (vi (i : Int)), o4] [] SH (lay2 σ k (tfA σ k1 t n) (tfB σ k1 t n) i) = Ev X (d + 1) 145 35 [some (vr k), some (vr k1), some (vi t), some (vi (i : Int)), o4] [vi ((tsI t n i : Nat) : Int)] SH (lay2 σ k (tfA σ k1 t n) (tfB σ k1 t n) i) := by
      rw [b145_10 hk, lay2_at (by omega) (by omega), if_neg (by omega)]
      refine Eq.trans b145_18 ?_
      unfold tsI
      by_cases c : t = 2
      · rw [if_neg (by omega), if_pos c, b145_23]
      · have e1 : xsub (n : Int) 1 = n - 1 := xsub_eq (by omega) (by omega)
        have e2 : xsub ((n : Int) - 1) i = n - 1 - i := xsub_eq (by omega) (by omega)
        rw [if_pos (by omega), if_neg c, b145_27 hk, lay2_at (by omega) (by omega), hn, e1, e2]
        rw [show ((n : Int) - 1 - i) = ((n - 1 - i : Nat) : Int) by omega]
    have hs : tsI t n i < n := by
      unfold tsI
      split <;> omega
    refine Eq.trans s ?_
    refine Eq.trans (b145_35 hk hk1 ⟨by omega, by omega⟩ (by rw [Int.toNat_natCast, lay2_at (by omega) (by omega)]; exact hf _ hs) ⟨by omega, by omega⟩) ?_
    rw [Int.toNat_natCast, Int.toNat_natCast, xwr_nk (show k1 + 1 ≠ k + 1 by omega), xwr_nk (show k1 + 2 ≠ k + 1 by omega), lay2_at (q := k1 + 1) (by omega) (by omega), lay2_at (q := k1 + 2) (by omega) (by omega)]
    refine x_bind (s146 ht) ?_
    dsimp only
    refine Eq.trans (b145_73 hk ⟨by omega, by omega⟩) ?_
    rw [Int.toNat_natCast, xadd_eq (by omega) (by omega)]
    have nx := it145 ht hk hk1 hne hn hn2 hf m (i + 1) (some (vi ((tsI t n i : Nat) : Int))) (by omega)
    rw [← lay2_s] at nx
    exact nx
end TFR

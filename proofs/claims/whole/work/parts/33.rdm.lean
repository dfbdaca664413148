section RDM
variable {X : Nat × (Nat → Int)} {d k k1 n : Nat} {σ : xM} {r : Nat → Int} {cs : Nat → Int}
/-- all symbols taken -/
theorem it128y (hk : isRdg k) (hk1 : isRow k1) (hn : n ≤ 11) (h0 : r = Rd σ k 0) (hl : ∀ m, setRds σ k m (rdSt r cs) k1 0 = n)
    (hc : ∀ (m : Nat) (d : Nat), m < n → Ev X (d + 5) 140 0 [some (vr k1), some (vr 3), some (vi m)] [] SH (setRds σ k m (rdSt r cs)) = some (some (vi (cs m)), SH, setRds σ k m (rdSt r cs)))
    (ok : ∀ m, m < n → cs m ≠ -1 ∧ rdOk (rdSt r cs m) (cs m) = true) : ∀ (q m : Nat) (o4 : Option xV), m + q = n → Ev X (d + 6) 128 2 [some (vr k), some (vr k1), some (vr 3), some (vi m), o4] [] SH (setRds σ k m (rdSt r cs)) = some (some (vi (f127 (setRds σ k n (rdSt r cs)) k n)), SH, setRds σ k n (rdSt r cs)) := by
  intro q
  induction q with
  | zero =>
    intro m o4 e
    obtain rfl : m = n := by omega
    refine Eq.trans (b128_2 hk1) ?_
    rw [hl, if_pos (by omega)]
    refine Eq.trans (b128_42 hk hk1) ?_
    rw [hl]
    refine x_bind (s127 hk) ?_
    dsimp only
    exact b128_50 z127
  | succ q ih =>
    intro m o4 e
    refine Eq.trans (b128_2 hk1) ?_
    rw [hl, if_neg (by omega)]
    refine Eq.trans (b128_10 hk1) ?_
    refine x_bind (hc m d (by omega)) ?_
    dsimp only
    refine Eq.trans b128_16 ?_
    rw [if_neg (ok m (by omega)).1]
    refine Eq.trans (b128_24 hk) ?_
    refine x_bind (s128_step (d := d + 3) hk (by omega) h0 (ok m (by omega)).2) ?_
    dsimp only
    refine Eq.trans b128_31 ?_
    rw [if_pos (by decide)]
    refine Eq.trans b128_36 ?_
    rw [xadd_eq (by omega) (by omega)]
    exact ih (m + 1) _ (by omega)
/-- a symbol refused -/
theorem it128n {p : Nat} (hk : isRdg k) (hk1 : isRow k1) (hn : n ≤ 11) (h0 : r = Rd σ k 0) (hl : ∀ m, setRds σ k m (rdSt r cs) k1 0 = n)
    (hc : ∀ (m : Nat) (d : Nat), m < n → Ev X (d + 5) 140 0 [some (vr k1), some (vr 3), some (vi m)] [] SH (setRds σ k m (rdSt r cs)) = some (some (vi (cs m)), SH, setRds σ k m (rdSt r cs)))
    (hp : p < n) (ok : ∀ m, m < p → cs m ≠ -1 ∧ rdOk (rdSt r cs m) (cs m) = true) (no : cs p = -1 ∨ rdOk (rdSt r cs p) (cs p) = false) : ∀ (q m : Nat) (o4 : Option xV), m + q = p → Ev X (d + 6) 128 2 [some (vr k), some (vr k1), some (vr 3), some (vi m), o4] [] SH (setRds σ k m (rdSt r cs)) = some (some (vi 0), SH, setRds σ k p (rdSt r cs)) := by
  intro q
  induction q with
  | zero =>
    intro m o4 e
    obtain rfl : m = p := by omega
    refine Eq.trans (b128_2 hk1) ?_
    rw [hl, if_neg (by omega)]
    refine Eq.trans (b128_10 hk1) ?_
    refine x_bind (hc m d (by omega)) ?_
    dsimp only
    refine Eq.trans b128_16 ?_
    by_cases c : cs m = -1
    · rw [if_pos c]
      exact b128_34
    · rw [if_neg c]
      have no2 : rdOk (rdSt r cs m) (cs m) = false := by
        rcases no with z | z
        · exact absurd z c
        · exact z
      refine Eq.trans (b128_24 hk) ?_
      refine x_bind (s128_stop (d := d + 3) hk (by omega) h0 no2) ?_
      dsimp only
      refine Eq.trans b128_31 ?_
      rw [if_neg (by decide)]
      exact b128_34
  | succ q ih =>
    intro m o4 e
    refine Eq.trans (b128_2 hk1) ?_
    rw [hl, if_neg (by omega)]
    refine Eq.trans (b128_10 hk1) ?_
    refine x_bind (hc m d (by omega)) ?_
    dsimp only
    refine Eq.trans b128_16 ?_
    rw [if_neg (ok m (by omega)).1]
    refine Eq.trans (b128_24 hk) ?_
    refine x_bind (s128_step (d := d + 3) hk (by omega) h0 (ok m (by omega)).2) ?_
    dsimp only
    refine Eq.trans b128_31 ?_
    rw [if_pos (by decide)]
    refine Eq.trans b128_36 ?_
    rw [xadd_eq (by omega) (by omega)]
    exact ih (m + 1) _ (by omega)
end RDM

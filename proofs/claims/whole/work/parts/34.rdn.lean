/-! Reading.readRow, whole -/
section RDN
variable {X : Nat × (Nat → Int)} {d k k1 n : Nat} {σ τ : xM} {a : Int}
theorem f140_fr (e0 : τ k1 = σ k1) (e1 : τ (k1 + 1) = σ (k1 + 1)) (e2 : τ (k1 + 2) = σ (k1 + 2)) (e3 : τ 3 = σ 3) (e7 : τ 7 = σ 7) (e8 : τ 8 = σ 8) : f140 τ k1 a = f140 σ k1 a := by
  unfold f140 f136 f74 f73 f72
  rw [e0, e1, e2, e3, e7, e8]
theorem setRds_fr {m b : Nat} {st : Nat → Nat → Int} (h : ¬ (k + 1 ≤ b ∧ b ≤ k + 8)) : setRds σ k m st b = σ b := by
  funext j
  exact setRds_out h
/-- the symbols of a row -/
def symR (σ : xM) (k1 : Nat) : Nat → Int := fun m => f140 σ k1 (m : Int)
theorem rdg_rg (hk : isRdg k) : k = 14 ∨ k = 51 ∨ k = 72 := hk
theorem row_rg (hk : isRow k) : k = 23 ∨ k = 26 ∨ k = 29 ∨ k = 32 ∨ k = 35 ∨ k = 38 ∨ k = 90 := hk
theorem h140 (hk : isRdg k) (hk1 : isRow k1) (h1 : σ 3 5 ≤ 20) (h7 : ∀ j : Nat, (j : Int) < σ 3 5 → 0 ≤ σ 7 j ∧ σ 7 j ≤ 9) {st : Nat → Nat → Int} (m d : Nat) : Ev X (d + 5) 140 0 [some (vr k1), some (vr 3), some (vi m)] [] SH (setRds σ k m st) = some (some (vi (symR σ k1 m)), SH, setRds σ k m st) := by
  have r1 := rdg_rg hk
  have r2 := row_rg hk1
  have e : f140 (setRds σ k m st) k1 m = f140 σ k1 m := f140_fr (setRds_fr (by omega)) (setRds_fr (by omega)) (setRds_fr (by omega)) (setRds_fr (by omega)) (setRds_fr (by omega)) (setRds_fr (by omega))
  have e3 : setRds σ k m st 3 = σ 3 := setRds_fr (by omega)
  have e7 : setRds σ k m st 7 = σ 7 := setRds_fr (by omega)
  have w := s140 (X := X) (d := d) (σ := setRds σ k m st) (a2 := (m : Int)) hk1 (by rw [e3]; exact h1) (by rw [e3, e7]; exact h7)
  rw [e] at w
  exact w
theorem s128y (hk : isRdg k) (hk1 : isRow k1) (hn : n ≤ 11) (hl : σ k1 0 = n) (h1 : σ 3 5 ≤ 20) (h7 : ∀ j : Nat, (j : Int) < σ 3 5 → 0 ≤ σ 7 j ∧ σ 7 j ≤ 9)
    (ok : ∀ m, m < n → symR σ k1 m ≠ -1 ∧ rdOk (rdSt (Rd σ k 0) (symR σ k1) m) (symR σ k1 m) = true) : Ev X (d + 6) 128 0 [some (vr k), some (vr k1), some (vr 3), none, none] [] SH σ = some (some (vi (f127 (setRds σ k n (rdSt (Rd σ k 0) (symR σ k1))) k n)), SH, setRds σ k n (rdSt (Rd σ k 0) (symR σ k1))) := by
  have r1 := rdg_rg hk
  have r2 := row_rg hk1
  refine Eq.trans b128_0 ?_
  have w := it128y (X := X) (d := d) (σ := σ) (cs := symR σ k1) hk hk1 hn rfl (fun m => by rw [setRds_out (by omega)]; exact hl) (fun m d _ => h140 hk hk1 h1 h7 m d) ok n 0 none (by omega)
  rw [setRds_zero] at w
  exact w
theorem s128n {p : Nat} (hk : isRdg k) (hk1 : isRow k1) (hn : n ≤ 11) (hl : σ k1 0 = n) (h1 : σ 3 5 ≤ 20) (h7 : ∀ j : Nat, (j : Int) < σ 3 5 → 0 ≤ σ 7 j ∧ σ 7 j ≤ 9)
    (hp : p < n) (ok : ∀ m, m < p → symR σ k1 m ≠ -1 ∧ rdOk (rdSt (Rd σ k 0) (symR σ k1) m) (symR σ k1 m) = true) (no : symR σ k1 p = -1 ∨ rdOk (rdSt (Rd σ k 0) (symR σ k1) p) (symR σ k1 p) = false) : Ev X (d + 6) 128 0 [some (vr k), some (vr k1), some (vr 3), none, none] [] SH σ = some (some (vi 0), SH, setRds σ k p (rdSt (Rd σ k 0) (symR σ k1))) := by
  have r1 := rdg_rg hk
  have r2 := row_rg hk1
  refine Eq.trans b128_0 ?_
  have w := it128n (X := X) (d := d) (σ := σ) (cs := symR σ k1) hk hk1 hn rfl (fun m => by rw [setRds_out (by omega)]; exact hl) (fun m d _ => h140 hk hk1 h1 h7 m d) hp ok no p 0 none (by omega)
  rw [setRds_zero] at w
  exact w
end RDN

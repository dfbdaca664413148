/-! WALKS: the tables are filled -/
def updL (f : Nat → List Nat) (c : Nat) (l : List Nat) : Nat → List Nat := fun j => if j = c then l else f j
/-- sticks of the one that the other lacks -/
def dfN (a b : Int) : Nat := (pc (xand a (xxor b (-1))).toNat).toNat
/-- the forms in the class, as far as walks read them -/
def FRM (σ : xM) : Prop := 0 ≤ σ 3 5 ∧ σ 3 5 ≤ 20 ∧ (∀ j : Nat, (j : Int) < σ 3 5 → 0 ≤ σ 7 j ∧ σ 7 j ≤ 9) ∧ ∀ j : Nat, (j : Int) < σ 3 5 → 0 ≤ σ 6 j ∧ σ 6 j < 128
section CHO
variable {X : Nat × (Nat → Int)} {σ ω τ : xM} {k k1 n : Nat} {op : Nat → List Nat} {ct cl : Nat → Nat → Nat} {sy : Nat → Nat → Int} {wt : Nat → Nat → Nat} {fg : Int}
theorem f71_rg (hF : FRM σ) (a b : Int) : 0 ≤ f71 σ a b ∧ f71 σ a b < 128 := by
  unfold f71
  by_cases y : 0 ≤ b ∧ b < f72 σ a
  · rw [if_pos y]
    unfold f72 at y
    by_cases z : a = 0
    · rw [if_pos z] at y ⊢
      have : ∀ q, q < 5 → 0 ≤ xcv 1 q ∧ xcv 1 q < 128 := by decide
      exact this _ (by omega)
    · rw [if_neg z] at y ⊢
      exact hF.2.2.2 b.toNat (by omega)
  · rw [if_neg y]
    omega
theorem f71_cg (e3 : τ 3 5 = σ 3 5) (e6 : τ 6 = σ 6) (a b : Int) : f71 τ a b = f71 σ a b := by
  unfold f71 f72
  rw [e3, e6]
theorem f74_cg (e3 : τ 3 5 = σ 3 5) (e7 : τ 7 = σ 7) (a b : Int) : f74 τ a b = f74 σ a b := by
  unfold f74 f72
  rw [e3, e7]
/-- choose: one more -/
theorem s176 (hk : isWlk k) (hF : FRM σ) (hW : WKT k n op ct cl sy wt σ) {c i : Nat} (hc : c < n) (hl : (op c).length < 20) (hi : i < 20) (e1 : sy c i = f74 σ fg (i : Int)) (e2 : wt c i = (pc (f71 σ fg (i : Int)).toNat).toNat) (e3 : ct c i ≤ 3 ∧ cl c i ≤ 3) : ∃ τ, (∀ d, Ev X (d + 5) 176 0 [some (vr k), some (vi c), some (vi fg), some (vi i), some (vi ((4 * ct c i + cl c i : Nat) : Int)), none] [] SH σ = some (none, SH, τ)) ∧ (∀ q, ¬ (k + 10 ≤ q ∧ q ≤ k + 14) → τ q = σ q) ∧ WKT k n (updL op c (op c ++ [i])) ct cl sy wt τ := by
  obtain ⟨w1, w2, w3⟩ := hW
  obtain ⟨v1, v2, v3⟩ := w3 c hc
  have k50 : k = 50 ∨ k = 71 := hk
  have rb := f71_rg hF fg (i : Int)
  have rp := pc_rg (f71 σ fg (i : Int)).toNat
  have x14 : xadd (xmul (c : Int) 20) (σ (k + 14) c) = ((20 * c + (op c).length : Nat) : Int) := by
    rw [x20 (by omega), v2, xad (by omega)]
  generalize hA : 20 * c + (op c).length = A at x14
  have r3 : ∀ (j : Nat) (x : Int) (σ' : xM), (∀ q, ¬ (k + 10 ≤ q ∧ q ≤ k + 14) → σ' q = σ q) → FRM σ' := by
    intro j x σ' h
    unfold FRM
    rw [h 3 (by omega), h 6 (by omega), h 7 (by omega)]
    exact hF
  have s1 : ∀ q, ¬ (k + 10 ≤ q ∧ q ≤ k + 14) → (xwr σ (k + 10) A (i : Int)) q = σ q := fun q h => xwr_row (by omega)
  have s2 : ∀ q, ¬ (k + 10 ≤ q ∧ q ≤ k + 14) → (xwr (xwr σ (k + 10) A (i : Int)) (k + 11) A (sy c i)) q = σ q := fun q h => (xwr_row (by omega)).trans (s1 q h)
  have F1 := r3 0 0 _ s1
  have F2 := r3 0 0 _ s2
  generalize hτ : xwr (xwr (xwr (xwr (xwr σ (k + 10) A (i : Int)) (k + 11) A (sy c i)) (k + 12) A (wt c i : Int)) (k + 13) A ((4 * ct c i + cl c i : Nat) : Int)) (k + 14) c (((op c).length + 1 : Nat) : Int) = τ
  have t10 : ∀ j, τ (k + 10) j = if j = A then (i : Int) else σ (k + 10) j := by
    intro j
    rw [← hτ, xwr_row (by omega), xwr_row (by omega), xwr_row (by omega), xwr_row (by omega), xwr_rw]
  have t11 : ∀ j, τ (k + 11) j = if j = A then sy c i else σ (k + 11) j := by
    intro j
    rw [← hτ, xwr_row (by omega), xwr_row (by omega), xwr_row (by omega), xwr_rw, xwr_row (by omega)]
  have t12 : ∀ j, τ (k + 12) j = if j = A then (wt c i : Int) else σ (k + 12) j := by
    intro j
    rw [← hτ, xwr_row (by omega), xwr_row (by omega), xwr_rw, xwr_row (by omega), xwr_row (by omega)]
  have t13 : ∀ j, τ (k + 13) j = if j = A then ((4 * ct c i + cl c i : Nat) : Int) else σ (k + 13) j := by
    intro j
    rw [← hτ, xwr_row (by omega), xwr_rw, xwr_row (by omega), xwr_row (by omega), xwr_row (by omega)]
  have t14 : ∀ j, τ (k + 14) j = if j = c then (((op c).length + 1 : Nat) : Int) else σ (k + 14) j := by
    intro j
    rw [← hτ, xwr_rw, xwr_row (by omega), xwr_row (by omega), xwr_row (by omega), xwr_row (by omega)]
  have tq : ∀ q, ¬ (k + 10 ≤ q ∧ q ≤ k + 14) → τ q = σ q := by
    intro q h
    rw [← hτ, xwr_row (by omega), xwr_row (by omega), xwr_row (by omega), xwr_row (by omega), xwr_row (by omega)]
  refine ⟨τ, fun d => ?_, tq, by rw [tq k (by omega)]; exact w1, w2, fun c' hc' => ?_⟩
  · rw [b176_0, if_neg (by omega), b176_4, if_neg (by omega), b176_10 hk (by omega), Int.toNat_natCast, if_pos (by omega)]
    refine Eq.trans (b176_22 hk (by omega) (by rw [Int.toNat_natCast, x14]; omega)) ?_
    rw [Int.toNat_natCast, x14, Int.toNat_natCast]
    refine x_bind (s74 F1.2.1 F1.2.2.1) ?_
    rw [f74_cg (σ := σ) (by rw [s1 3 (by omega)]) (s1 7 (by omega)), ← e1]
    dsimp only
    refine Eq.trans (b176_58 (t1 := (A : Int)) (t2 := sy c i) hk (by omega)) ?_
    rw [Int.toNat_natCast]
    refine x_bind (s71 F2.2.1) ?_
    rw [f71_cg (σ := σ) (by rw [s2 3 (by omega)]) (s2 6 (by omega))]
    dsimp only
    refine Eq.trans (b176_74 (t1 := (A : Int)) (t2 := f71 σ fg (i : Int))) ?_
    refine x_bind s319 ?_
    rw [f319_pc rb.1 rb.2, show pc (f71 σ fg (i : Int)).toNat = (wt c i : Int) by rw [e2]; omega]
    dsimp only
    refine Eq.trans (b176_77 (t1 := (A : Int)) (t2 := (wt c i : Int)) hk (by omega) (by omega) (by omega)) ?_
    rw [Int.toNat_natCast, Int.toNat_natCast, xwr_nk (by omega), xwr_nk (by omega), xwr_nk (by omega), xwr_nk (by omega), v2, xad1 (by omega), hτ]
  · by_cases y : c' = c
    · subst y
      have ln : (updL op c' (op c' ++ [i]) c').length = (op c').length + 1 := by
        unfold updL
        rw [if_pos rfl, List.length_append, List.length_singleton]
      refine ⟨by omega, by rw [t14, if_pos rfl, ln], fun e he => ?_⟩
      have ge : (updL op c' (op c' ++ [i]) c')[e] = if e = (op c').length then i else (op c').getD e 0 := by
        have : updL op c' (op c' ++ [i]) c' = op c' ++ [i] := if_pos rfl
        simp only [this]
        rw [List.getElem_append]
        by_cases z : e < (op c').length
        · rw [dif_pos z, if_neg (by omega), List.getD_eq_getElem?_getD, List.getElem?_eq_getElem z]
          rfl
        · rw [dif_neg z, if_pos (by omega)]
          simp
      rw [ge, t10, t11, t12, t13]
      by_cases z : e = (op c').length
      · rw [if_pos z, if_pos (by omega), if_pos (by omega), if_pos (by omega), if_pos (by omega)]
        exact ⟨rfl, rfl, rfl, rfl, hi, e3⟩
      · have he' : e < (op c').length := by omega
        rw [if_neg z, if_neg (by omega), if_neg (by omega), if_neg (by omega), if_neg (by omega), List.getD_eq_getElem?_getD, List.getElem?_eq_getElem he']
        exact v3 e he'
    · have u : updL op c (op c ++ [i]) c' = op c' := if_neg y
      obtain ⟨u1, u2, u3⟩ := w3 c' hc'
      simp only [u]
      refine ⟨u1, by rw [t14, if_neg y]; exact u2, fun e he => ?_⟩
      rw [t10, t11, t12, t13, if_neg (by omega), if_neg (by omega), if_neg (by omega), if_neg (by omega)]
      exact u3 e he
end CHO

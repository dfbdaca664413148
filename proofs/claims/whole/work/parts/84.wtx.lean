/-! THE FORMS' TEXT, all its lines -/
section WTX
variable {X : Nat × (Nat → Int)} {sg : Int → Bool} {c4 n : Nat} {fl : Int} {tx : Nat → Int}
theorem TK_end {σ μ : xM} (h : TK tx n sg σ μ) (z : (sg 0) = false) : (σ 1 5 = 0 ↔ μ 100 6 = 0) ∧ (σ 1 5 = 0 → μ 100 7 = n) ∧ σ 1 6 ≤ n ∧ 0 ≤ σ 1 6 ∧ (σ 1 5 ≠ 0 → σ 1 6 < n) := by
  obtain ⟨q, e, h6, h7, h8, hq, he, hT⟩ := h
  refine ⟨?_, by omega, by omega, by omega, by omega⟩
  rcases hT with c | c | c | c | c
  · omega
  · omega
  · omega
  · have := c.2.2.2
    refine ⟨fun w => by omega, fun w => ?_⟩
    rw [w, z] at this
    cases this
  · omega
theorem tk_all (hS : RS X sg c4 fl tx n) : ∀ (m i : Nat) (σ μ : xM), FT σ μ → FK σ μ → RD c4 fl tx n σ μ → TK tx n sg σ μ → μ 100 2 = 0 → (n : Int) - σ 1 6 ≤ m → (i : Int) ≤ σ 1 6 → ∃ (b : Int) (j : Nat) (τ ν : xM), (b = 0 ∨ b = 1) ∧ j ≤ 301 ∧ chg [5] CT σ τ ∧ chg [103, 105, 106] CM μ ν ∧ (∀ d o2, Ev X (d + 4) 196 54 [some (vr 100), some (vi i), o2] [] SH μ = Ev X (d + 4) 196 78 [some (vr 100), some (vi j), o2] [] SH ν) ∧ (b = 1 → (∀ d, Ev X (d + 8) 65 32 [some (vr 3), some (vi i)] [] SH σ = Ev X (d + 8) 65 64 [some (vr 3), some (vi j)] [] SH τ) ∧ FT τ ν ∧ FK τ ν ∧ ν 100 2 = 0 ∧ ν 100 6 = 0 ∧ ν 100 7 = n ∧ KF τ ν) ∧ (b = 0 → (∀ d, Ev X (d + 8) 65 32 [some (vr 3), some (vi i)] [] SH σ = some (some (vi (-1)), SH, τ)) ∧ FL τ ν) := by
  have z0 : sg 0 = false := Bool.eq_false_iff.mpr (fun z => absurd (hS.2.2.1 _ z) (by decide))
  have hn := hS.2.2.2.1
  intro m
  induction m with
  | zero =>
    intro i σ μ hF hK hD hT h2 hm hi
    obtain ⟨k1, k2, k3, k4, k5⟩ := TK_end hT z0
    have y : σ 1 5 = 0 := Decidable.byContradiction (fun z => by have := k5 z; omega)
    refine ⟨1, i, σ, μ, Or.inr rfl, by omega, chg_rf, chg_rf, fun d o2 => ?_, fun _ => ⟨fun d => ?_, hF, hK, h2, k1.mp y, k2 y, TK_kf hT⟩, fun z => absurd z (by decide)⟩
    · rw [b196_54, if_neg (fun z => z h2), b196_61, if_pos (k1.mp y)]
    · rw [b65_32]
      by_cases g : 300 ≤ (i : Int)
      · rw [if_pos g]
      · rw [if_neg g, b65_39, if_pos y]
  | succ m ih =>
    intro i σ μ hF hK hD hT h2 hm hi
    obtain ⟨k1, k2, k3, k4, k5⟩ := TK_end hT z0
    by_cases y : σ 1 5 = 0
    · refine ⟨1, i, σ, μ, Or.inr rfl, by omega, chg_rf, chg_rf, fun d o2 => ?_, fun _ => ⟨fun d => ?_, hF, hK, h2, k1.mp y, k2 y, TK_kf hT⟩, fun z => absurd z (by decide)⟩
      · rw [b196_54, if_neg (fun z => z h2), b196_61, if_pos (k1.mp y)]
      · rw [b65_32]
        by_cases g : 300 ≤ (i : Int)
        · rw [if_pos g]
        · rw [if_neg g, b65_39, if_pos y]
    · have k5 := k5 y
      obtain ⟨b, τ, ν, b0, b1, b2, b3, b4, b5, b6⟩ := tk_line (X := X) hF hK hS hD hT h2
      have xi : xadd (i : Int) 1 = ((i + 1 : Nat) : Int) := xadd_eq (by omega) (by omega)
      have sc : ∀ d, Ev X (d + 8) 65 32 [some (vr 3), some (vi i)] [] SH σ = Ev X (d + 8) 65 53 [some (vr 3), some (vi i)] [vi b] SH τ := by
        intro d
        rw [b65_32, if_neg (by omega), b65_39, if_neg y]
        refine Eq.trans b65_49 ?_
        refine x_bind (b1 d) ?_
        rfl
      have sm : ∀ d o2, Ev X (d + 4) 196 54 [some (vr 100), some (vi i), o2] [] SH μ = Ev X (d + 4) 196 54 [some (vr 100), some (vi (i + 1 : Nat)), o2] [] SH ν := by
        intro d o2
        rw [b196_54, if_neg (fun z => z h2), b196_61, if_neg (fun z => y (k1.mpr z))]
        refine Eq.trans b196_68 ?_
        refine x_bind (b2 d) ?_
        dsimp only
        refine Eq.trans b196_72 ?_
        rw [xi]
      rcases b0 with rfl | rfl
      · have fl := b6 rfl
        refine ⟨0, i + 1, τ, ν, Or.inl rfl, by omega, b3, b4, fun d o2 => ?_, fun z => absurd z (by decide), fun _ => ⟨fun d => ?_, fl⟩⟩
        · have := fl.2.2
          rw [sm, b196_54, if_pos (by omega)]
        · rw [sc, b65_53, if_neg (by decide), b65_56]
      · obtain ⟨t1, t2, t3, t4, t5⟩ := b5 rfl
        obtain ⟨b, j, τ2, ν2, g0, g1, g2, g3, g4, g5, g6⟩ := ih (i + 1) τ ν t3 t4 (RD_chg hD b3 b4) t1 t2 (by omega) (by omega)
        have sc2 : ∀ d, Ev X (d + 8) 65 32 [some (vr 3), some (vi i)] [] SH σ = Ev X (d + 8) 65 32 [some (vr 3), some (vi (i + 1 : Nat))] [] SH τ := by
          intro d
          rw [sc, b65_53, if_pos (by decide), b65_58, xi]
        refine ⟨b, j, τ2, ν2, g0, g1, chg_tr b3 g2, chg_tr b4 g3, fun d o2 => (sm d o2).trans (g4 d o2), fun z => ⟨fun d => (sc2 d).trans ((g5 z).1 d), (g5 z).2⟩, fun z => ⟨fun d => (sc2 d).trans ((g6 z).1 d), (g6 z).2⟩⟩
end WTX

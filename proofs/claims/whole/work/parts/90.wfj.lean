/-! FORMS, on both sides, whole -/
def CTF : List (Nat × Nat) := [(1, 2), (1, 3), (1, 4), (1, 5), (1, 6), (1, 7), (1, 8), (3, 5)]
section WFJ
variable {X : Nat × (Nat → Int)} {σ μ : xM} {n : Nat} {tx : Nat → Int}
theorem s60 {w t : Nat → Int} (W : WF w) (hw : ∀ i, i < 20 → w i = nwF t i) (h5 : σ 5 = t) : ∃ τ, (∀ d, Ev X (d + 2) 60 0 [some (vr 3), none, none] [] SH σ = some (none, SH, τ)) ∧ chg [4, 6, 7, 8, 9] [(3, 5)] σ τ ∧ (∀ i, i < 20 → τ 4 i = w i) ∧ FC w (τ 3 5) (τ 6) (τ 7) (τ 8) ∧ Gru w (τ 9) := by
  obtain ⟨τ1, a1, a2, a3⟩ := it60a (X := X) 128 0 (xwr σ 3 5 0) rfl (fun j z => absurd z (by omega))
  have z35 : τ1 3 5 = 0 := by rw [chg_at a2 rfl rfl, xwr_eq]
  have r5 : τ1 5 = t := by rw [chg_row a2 (fun j => rfl) rfl, xwr_row (by decide)]; exact h5
  obtain ⟨τ2, o, b1, b2, b3, b4⟩ := it60 (X := X) W hw 10 0 τ1 none rfl r5 (fun i hi => absurd hi (by omega)) ⟨by rw [z35]; rfl, fun i hi => absurd hi (by omega), fun b hb _ => a3 b hb⟩
  obtain ⟨τ3, c1, c2, c3⟩ := it62 (X := X) (σ := τ2) W b4 128 0 none none τ2 rfl chg_rf (fun v hv => absurd hv (by omega))
  refine ⟨τ3, fun d => ?_, chg_tr (chg_tr (chg_wr rfl chg_rf) (chg_mo (by decide) a2)) (chg_tr (chg_mo (by decide) b2) (chg_mo (by decide) c1)), ?_, ?_, c2⟩
  · rw [b60_0]
    refine Eq.trans (a1 _ _) ?_
    rw [b60_27]
    refine Eq.trans (b1 (d + 1)) ?_
    refine Eq.trans b60_142 ?_
    refine x_bind (Eq.trans b62_0 (c3 d)) ?_
    exact b60_146
  · intro i hi
    rw [chg_row c1 (fun j => rfl) rfl]
    exact b3 i hi
  · rw [chg_at c1 rfl rfl, chg_row (k := 6) c1 (fun j => rfl) rfl, chg_row (k := 7) c1 (fun j => rfl) rfl, chg_row (k := 8) c1 (fun j => rfl) rfl]
    exact b4
theorem tk_forms (h1 : σ 2 = tx) (h2 : μ 101 = tx) (h3 : σ 1 1 = n) (h4 : μ 100 1 = n) (hn : n ≤ 300) (hb : ∀ i, 0 ≤ tx i ∧ tx i ≤ 255) (h5 : ∀ g, g < 10 → μ 104 g = FW g) : (∃ τ ν, (∀ d, Ev X (d + 8) 65 0 [some (vr 3), none] [] SH σ = some (some (vi (-1)), SH, τ)) ∧ (∀ d, Ev X (d + 4) 196 0 [some (vr 100), none, none] [] SH μ = some (some (vi (-1)), SH, ν)) ∧ chg [5] CTS σ τ ∧ chg [103, 105, 106] CMS μ ν ∧ FL τ ν ∧ ν 100 1 = 0) ∨ (∃ (j : Nat) (τ ν : xM) (w : Nat → Int), j ≤ 301 ∧ (∀ d, Ev X (d + 8) 65 0 [some (vr 3), none] [] SH σ = some (some (vi j), SH, τ)) ∧ (∀ d, Ev X (d + 4) 196 0 [some (vr 100), none, none] [] SH μ = some (some (vi j), SH, mclr ν)) ∧ chg [4, 5, 6, 7, 8, 9] CTF σ τ ∧ chg [102, 103, 105, 106] CMS μ ν ∧ (∀ i, i < 20 → ν 102 i = w i) ∧ ν 100 2 = 0 ∧ ν 100 3 = -1 ∧ ν 100 1 = 0 ∧ (∀ i, i < 20 → τ 4 i = w i) ∧ WF w ∧ FC w (τ 3 5) (τ 6) (τ 7) (τ 8) ∧ Gru w (τ 9) ∧ τ 1 2 = 0 ∧ τ 1 3 = -1) := by
  obtain ⟨τ0, ν0, a1, a2, a3, a4, a5, a6, a7, a8, a9, a10, a11⟩ := tk_st (X := X) h1 h2 h3 h4 hn hb
  have hS : RS X sgF 11 0 tx n := RS_f hn hb
  obtain ⟨b, j, τ1, ν1, b0, b1, b2, b3, b4, b5, b6⟩ := tk_all (X := X) hS n 0 τ0 ν0 a7 a8 a5 a6 a9 (by omega) (by omega)
  have cA : chg [5] CTS σ τ1 := chg_tr a3 (chg_mo (by decide) b2)
  have cB : chg [103, 105, 106] CMS μ ν1 := chg_tr (chg_mo (by decide) a4) (chg_mo (by decide) b3)
  have n1 : ν1 100 1 = 0 := (chg_at b3 rfl rfl).trans a11
  rcases b0 with rfl | rfl
  · obtain ⟨c1, c2⟩ := b6 rfl
    have l0 := c2.2.2
    refine Or.inl ⟨τ1, ν1, fun d => (a1 d).trans (c1 d), fun d => ?_, cA, cB, c2, n1⟩
    refine Eq.trans (a2 d) ?_
    refine Eq.trans (b4 d _) ?_
    rw [b196_78]
    refine Eq.trans (it196d l0 10 0 rfl _) ?_
    rw [b196_127, if_neg (by omega), b196_134]
  · obtain ⟨c1, c2, c3, c4, c5, c6, c7⟩ := b5 rfl
    have m4 : ∀ g, g < 10 → ν1 104 g = FW g := fun g hg => by
      rw [chg_row cB (fun j => rfl) rfl]
      exact h5 g hg
    have s1 : τ1 1 1 = n := (chg_at cA rfl rfl).trans h3
    obtain ⟨k1, k2⟩ := tk_ck (X := X) (σ := τ1) (μ := ν1) (j := j) c4 c5 c6 s1 m4 c2 c3
    by_cases hh : hitF τ1
    · obtain ⟨τ2, ν2, e1, e2, e3, e4, e5⟩ := k1 hh
      refine Or.inl ⟨τ2, ν2, fun d => ((a1 d).trans (c1 d)).trans (e1 d), fun d => ((a2 d).trans (b4 d _)).trans (e2 d _), chg_tr cA (chg_mo (by decide) e3), chg_tr cB (chg_mo (by decide) e4), e5, (chg_at e4 rfl rfl).trans n1⟩
    · obtain ⟨e1, e2⟩ := k2 hh
      have W := WF_nw c2 c3 hh
      obtain ⟨τ2, f1, f2, f3, f4, f5⟩ := s60 (X := X) (σ := τ1) W (fun i _ => rfl) rfl
      obtain ⟨ν2, g1, g2, g3⟩ := it196e (X := X) (μ := ν1) (w := nwF (τ1 5)) (a := (j : Int)) (fun g hg => by
        unfold nwF
        rw [show 2 * g / 2 = g by omega, if_pos (show 2 * g % 2 = 0 by omega), show (2 * g + 1) / 2 = g by omega, if_neg (show ¬ (2 * g + 1) % 2 = 0 by omega), m4 g hg]
        rcases c3 g hg with k | ⟨k1, k2, k3, k4, _⟩
        · rw [if_pos k.2.1, if_pos k.1, if_pos k.2.1, if_pos k.1]
          exact ⟨rfl, rfl⟩
        · rw [if_neg (by omega), if_neg k1, if_neg (by omega), if_neg k1]
          exact ⟨k2, k3⟩) 10 0 ν1 rfl chg_rf (fun i hi => absurd hi (by omega))
      refine Or.inr ⟨j, τ2, ν2, nwF (τ1 5), b1, fun d => ?_, fun d => ?_, chg_tr (chg_mo (by decide) cA) (chg_mo (by decide) f2), chg_tr (chg_mo (by decide) cB) (chg_mo (by decide) g2), g3, (chg_at g2 rfl rfl).trans c4, (chg_at g2 rfl rfl).trans c7.2.2, (chg_at g2 rfl rfl).trans n1, f3, W, f4, f5, (chg_at f2 rfl rfl).trans c7.1, (chg_at f2 rfl rfl).trans c7.2.1⟩
      · refine (((a1 d).trans (c1 d)).trans (e1 d)).trans ?_
        refine Eq.trans b65_89 ?_
        refine x_bind (f1 (d + 5)) ?_
        exact b65_93
      · refine (((a2 d).trans (b4 d _)).trans (e2 d _)).trans ?_
        rw [b196_136]
        refine Eq.trans (g1 _) ?_
        exact s196t _ _ _
end WFJ

/-! THE FORMS' TEXT: ways of figures that are not told -/
section WCK
variable {X : Nat × (Nat → Int)} {σ μ : xM} {n : Nat}
theorem FW_rg : ∀ k, k < 10 → 1 ≤ FW k ∧ FW k ≤ 127 := by decide
theorem it69j {i : Nat} (hi : i < 10) : ∀ (m j : Nat), j + m = 20 → ((σ 5 (2 * i) = 0 ∧ ∃ k, j ≤ k ∧ k < 20 ∧ σ 5 k = FW i) → ∀ d, Ev X d 69 10 [some (vr 3), some (vi i), some (vi j)] [] SH σ = some (some (vi 1), SH, σ)) ∧ (¬ (σ 5 (2 * i) = 0 ∧ ∃ k, j ≤ k ∧ k < 20 ∧ σ 5 k = FW i) → ∃ o2, ∀ d, Ev X d 69 10 [some (vr 3), some (vi i), some (vi j)] [] SH σ = Ev X d 69 49 [some (vr 3), some (vi i), o2] [] SH σ) := by
  have xk : xmul 2 (i : Int) = ((2 * i : Nat) : Int) := by
    rw [xmul_eq (by omega) (by omega)]
    omega
  intro m
  induction m with
  | zero =>
    intro j e
    refine ⟨fun ⟨_, k, h1, h2, _⟩ => by omega, fun _ => ⟨some (vi j), fun d => ?_⟩⟩
    rw [b69_10, if_pos (by omega)]
  | succ m ih =>
    intro j e
    obtain ⟨ih1, ih2⟩ := ih (j + 1) (by omega)
    have xj : xadd (j : Int) 1 = ((j + 1 : Nat) : Int) := xadd_eq (by omega) (by omega)
    have st : ∀ d, Ev X d 69 10 [some (vr 3), some (vi i), some (vi j)] [] SH σ = if σ 5 (2 * i) ≠ 0 then Ev X d 69 49 [some (vr 3), some (vi i), some (vi j)] [] SH σ else if σ 5 j ≠ FW i then Ev X d 69 43 [some (vr 3), some (vi i), some (vi j)] [] SH σ else Ev X d 69 41 [some (vr 3), some (vi i), some (vi j)] [] SH σ := by
      intro d
      rw [b69_10, if_neg (by omega), b69_16 (by rw [xk]; omega), xk, Int.toNat_natCast, b69_27 (by omega) (by omega), Int.toNat_natCast, Int.toNat_natCast]
      rfl
    by_cases z : σ 5 (2 * i) = 0
    · by_cases y : σ 5 j = FW i
      · refine ⟨fun _ d => ?_, fun g => absurd ⟨z, j, Nat.le_refl _, by omega, y⟩ g⟩
        rw [st, if_neg (fun w => w z), if_neg (fun w => w y), b69_41]
      · have s2 : ∀ d, Ev X d 69 10 [some (vr 3), some (vi i), some (vi j)] [] SH σ = Ev X d 69 10 [some (vr 3), some (vi i), some (vi (j + 1 : Nat))] [] SH σ := by
          intro d
          rw [st, if_neg (fun w => w z), if_pos y, b69_43, xj]
        refine ⟨fun ⟨_, k, h1, h2, h3⟩ d => ?_, fun g => ?_⟩
        · rw [s2]
          refine ih1 ⟨z, k, ?_, h2, h3⟩ d
          by_cases w : k = j
          · rw [w] at h3
            exact absurd h3 y
          · omega
        · obtain ⟨o2, w⟩ := ih2 (fun ⟨_, k, h1, h2, h3⟩ => g ⟨z, k, by omega, h2, h3⟩)
          exact ⟨o2, fun d => (s2 d).trans (w d)⟩
    · refine ⟨fun g => absurd g.1 z, fun _ => ⟨some (vi j), fun d => ?_⟩⟩
      rw [st, if_pos z]
theorem it69 : ∀ (m i : Nat) (o2 : Option xV), i + m = 10 → ((∃ g, i ≤ g ∧ g < 10 ∧ σ 5 (2 * g) = 0 ∧ ∃ k, k < 20 ∧ σ 5 k = FW g) → ∀ d, Ev X d 69 2 [some (vr 3), some (vi i), o2] [] SH σ = some (some (vi 1), SH, σ)) ∧ ((¬ ∃ g, i ≤ g ∧ g < 10 ∧ σ 5 (2 * g) = 0 ∧ ∃ k, k < 20 ∧ σ 5 k = FW g) → ∀ d, Ev X d 69 2 [some (vr 3), some (vi i), o2] [] SH σ = some (some (vi 0), SH, σ)) := by
  intro m
  induction m with
  | zero =>
    intro i o2 e
    refine ⟨fun ⟨k, h1, h2, _⟩ => by omega, fun _ d => ?_⟩
    rw [b69_2, if_pos (by omega), b69_55]
  | succ m ih =>
    intro i o2 e
    have xj : xadd (i : Int) 1 = ((i + 1 : Nat) : Int) := xadd_eq (by omega) (by omega)
    obtain ⟨j1, j2⟩ := it69j (X := X) (σ := σ) (i := i) (by omega) 20 0 rfl
    have st : ∀ d, Ev X d 69 2 [some (vr 3), some (vi i), o2] [] SH σ = Ev X d 69 10 [some (vr 3), some (vi i), some (vi 0)] [] SH σ := by
      intro d
      rw [b69_2, if_neg (by omega), b69_8]
    by_cases z : σ 5 (2 * i) = 0 ∧ ∃ k, k < 20 ∧ σ 5 k = FW i
    · refine ⟨fun _ d => ?_, fun g => absurd ⟨i, Nat.le_refl _, by omega, z⟩ g⟩
      rw [st]
      obtain ⟨z1, k, z2, z3⟩ := z
      exact j1 ⟨z1, k, Nat.zero_le _, z2, z3⟩ d
    · obtain ⟨o, w⟩ := j2 (fun ⟨z1, k, _, z2, z3⟩ => z ⟨z1, k, z2, z3⟩)
      obtain ⟨ih1, ih2⟩ := ih (i + 1) o (by omega)
      have s2 : ∀ d, Ev X d 69 2 [some (vr 3), some (vi i), o2] [] SH σ = Ev X d 69 2 [some (vr 3), some (vi (i + 1 : Nat)), o] [] SH σ := by
        intro d
        rw [st]
        refine Eq.trans (w d) ?_
        rw [b69_49, xj]
      refine ⟨fun ⟨g, h1, h2, h3⟩ d => ?_, fun g d => ?_⟩
      · rw [s2]
        refine ih1 ⟨g, ?_, h2, h3⟩ d
        by_cases y : g = i
        · rw [y] at h3
          exact absurd h3 z
        · omega
      · rw [s2]
        exact ih2 (fun ⟨g', h1, h2, h3⟩ => g ⟨g', by omega, h2, h3⟩) d
theorem it196d {a : Int} (h : 0 < μ 100 2) : ∀ (m i : Nat), i + m = 10 → ∀ d, Ev X d 196 80 [some (vr 100), some (vi a), some (vi i)] [] SH μ = Ev X d 196 127 [some (vr 100), some (vi a), some (vi 10)] [] SH μ := by
  intro m
  induction m with
  | zero =>
    intro i e d
    have e : i = 10 := e
    subst e
    rw [b196_80, if_pos (by decide)]
    rfl
  | succ m ih =>
    intro i e d
    have xj : xadd (i : Int) 1 = ((i + 1 : Nat) : Int) := xadd_eq (by omega) (by omega)
    rw [b196_80, if_neg (by omega), b196_86, if_pos (by omega), b196_121, xj]
    exact ih (i + 1) (by omega) d
theorem it196c {a : Int} (h2 : μ 100 2 = 0) (h6 : μ 100 6 = 0) (h4 : ∀ g, g < 10 → μ 104 g = FW g) : ∀ (m i : Nat), i + m = 10 → ((∃ g, i ≤ g ∧ g < 10 ∧ μ 105 g = 0 ∧ μ 106 (FW g).toNat ≠ 0) → ∀ d, Ev X (d + 1) 196 80 [some (vr 100), some (vi a), some (vi i)] [] SH μ = Ev X (d + 1) 196 127 [some (vr 100), some (vi a), some (vi 10)] [] SH (xwr (xwr μ 100 2 5) 100 3 (μ 100 7))) ∧ ((¬ ∃ g, i ≤ g ∧ g < 10 ∧ μ 105 g = 0 ∧ μ 106 (FW g).toNat ≠ 0) → ∀ d, Ev X (d + 1) 196 80 [some (vr 100), some (vi a), some (vi i)] [] SH μ = Ev X (d + 1) 196 127 [some (vr 100), some (vi a), some (vi 10)] [] SH μ) := by
  intro m
  induction m with
  | zero =>
    intro i e
    have e : i = 10 := e
    subst e
    refine ⟨fun ⟨k, h1, h2, _⟩ => by omega, fun _ d => ?_⟩
    rw [b196_80, if_pos (by decide)]
    rfl
  | succ m ih =>
    intro i e
    obtain ⟨ih1, ih2⟩ := ih (i + 1) (by omega)
    have xj : xadd (i : Int) 1 = ((i + 1 : Nat) : Int) := xadd_eq (by omega) (by omega)
    have fr := FW_rg i (by omega)
    have f4 := h4 i (by omega)
    have st : ∀ d, Ev X (d + 1) 196 80 [some (vr 100), some (vi a), some (vi i)] [] SH μ = if μ 105 i ≠ 0 then Ev X (d + 1) 196 121 [some (vr 100), some (vi a), some (vi i)] [] SH μ else if μ 106 (FW i).toNat = 0 then Ev X (d + 1) 196 121 [some (vr 100), some (vi a), some (vi i)] [] SH μ else Ev X (d + 1) 196 116 [some (vr 100), some (vi a), some (vi i)] [] SH μ := by
      intro d
      rw [b196_80, if_neg (by omega), b196_86, if_neg (fun z => z h2), b196_93 (by omega), Int.toNat_natCast, b196_102 (by omega) (by rw [Int.toNat_natCast, f4]; omega), Int.toNat_natCast, f4]
    by_cases z : μ 105 i = 0 ∧ μ 106 (FW i).toNat ≠ 0
    · refine ⟨fun _ d => ?_, fun g => absurd ⟨i, Nat.le_refl _, by omega, z⟩ g⟩
      have gm : g206 μ 5 = xwr (xwr μ 100 2 5) 100 3 (μ 100 7) := by
        unfold g206
        rw [if_pos (by omega), if_pos (by omega)]
      rw [st, if_neg (fun w => w z.1), if_neg z.2]
      refine Eq.trans b196_116 ?_
      refine x_bind s206 ?_
      rw [gm]
      dsimp only
      refine Eq.trans b196_121 ?_
      rw [xj]
      exact it196d (by rw [xwr_nj (by decide), xwr_eq]; decide) m (i + 1) (by omega) _
    · have s2 : ∀ d, Ev X (d + 1) 196 80 [some (vr 100), some (vi a), some (vi i)] [] SH μ = Ev X (d + 1) 196 80 [some (vr 100), some (vi a), some (vi (i + 1 : Nat))] [] SH μ := by
        intro d
        rw [st]
        by_cases y : μ 105 i = 0
        · rw [if_neg (fun w => w y), if_pos (Decidable.byContradiction (fun w => z ⟨y, w⟩)), b196_121, xj]
        · rw [if_pos y, b196_121, xj]
      refine ⟨fun ⟨g, h1, h2, h3⟩ d => ?_, fun g d => ?_⟩
      · rw [s2]
        refine ih1 ⟨g, ?_, h2, h3⟩ d
        by_cases y : g = i
        · rw [y] at h3
          exact absurd h3 z
        · omega
      · rw [s2]
        exact ih2 (fun ⟨g', h1, h2, h3⟩ => g ⟨g', by omega, h2, h3⟩) d
/-- a way of an untold figure was told -/
def hitF (σ : xM) : Prop := ∃ g, g < 10 ∧ σ 5 (2 * g) = 0 ∧ ∃ k, k < 20 ∧ σ 5 k = FW g
theorem tk_ck {j : Nat} (h2 : μ 100 2 = 0) (h6 : μ 100 6 = 0) (h7 : μ 100 7 = n) (h1 : σ 1 1 = n) (h4 : ∀ g, g < 10 → μ 104 g = FW g) (hF : FT σ μ) (hK : FK σ μ) : (hitF σ → ∃ τ ν, (∀ d, Ev X (d + 8) 65 64 [some (vr 3), some (vi j)] [] SH σ = some (some (vi (-1)), SH, τ)) ∧ (∀ d o2, Ev X (d + 4) 196 78 [some (vr 100), some (vi j), o2] [] SH μ = some (some (vi (-1)), SH, ν)) ∧ chg [5] CT σ τ ∧ chg [103, 105, 106] CM μ ν ∧ FL τ ν) ∧ (¬ hitF σ → (∀ d, Ev X (d + 8) 65 64 [some (vr 3), some (vi j)] [] SH σ = Ev X (d + 8) 65 89 [some (vr 3), some (vi j)] [] SH σ) ∧ (∀ d o2, Ev X (d + 4) 196 78 [some (vr 100), some (vi j), o2] [] SH μ = Ev X (d + 4) 196 136 [some (vr 100), some (vi j), some (vi 10)] [] SH μ)) := by
  have lk : ∀ g, g < 10 → ((μ 105 g = 0 ∧ μ 106 (FW g).toNat ≠ 0) ↔ (σ 5 (2 * g) = 0 ∧ ∃ k, k < 20 ∧ σ 5 k = FW g)) := by
    intro g hg
    have fr := FW_rg g hg
    have f1 := hF.1 (FW g).toNat (by omega) (by omega)
    rw [Int.toNat_of_nonneg (by omega)] at f1
    have f2 : μ 105 g = 0 ↔ σ 5 (2 * g) = 0 := by
      rcases hK g hg with c | c
      · omega
      · omega
    rw [f1, f2]
  obtain ⟨c1, c2⟩ := it69 (X := X) (σ := σ) 10 0 none rfl
  obtain ⟨m1, m2⟩ := it196c (X := X) (μ := μ) (a := (j : Int)) h2 h6 h4 10 0 rfl
  refine ⟨fun h => ?_, fun h => ⟨fun d => ?_, fun d o2 => ?_⟩⟩
  · obtain ⟨g, g1, g2⟩ := h
    have m1 := m1 ⟨g, Nat.zero_le _, g1, (lk g g1).mpr g2⟩
    have c1 := c1 ⟨g, Nat.zero_le _, g1, g2⟩
    refine ⟨g169 σ 5 n, xwr (xwr μ 100 2 5) 100 3 (μ 100 7), fun d => ?_, fun d o2 => ?_, ?_, chg_wr rfl (chg_wr rfl chg_rf), ?_, ?_, ?_⟩
    · refine Eq.trans b65_64 ?_
      refine x_bind (Eq.trans b69_0 (c1 _)) ?_
      dsimp only
      refine Eq.trans b65_68 ?_
      rw [if_neg (by decide)]
      refine Eq.trans b65_71 ?_
      rw [h1]
      refine x_bind s169 ?_
      exact b65_86
    · rw [b196_78]
      refine Eq.trans (m1 (d + 3)) ?_
      rw [b196_127, xwr_nj (by decide), xwr_eq, if_neg (by decide), b196_134]
    · unfold g169
      exact chg_wr rfl (chg_wr rfl chg_rf)
    · unfold g169
      rw [xwr_nj (by decide), xwr_eq, xwr_nj (by decide), xwr_eq]
    · unfold g169
      rw [xwr_eq, xwr_eq, h7]
    · rw [xwr_nj (by decide), xwr_eq]; decide
  · have c2 := c2 (fun ⟨g, _, g1, g2⟩ => h ⟨g, g1, g2⟩)
    refine Eq.trans b65_64 ?_
    refine x_bind (Eq.trans b69_0 (c2 _)) ?_
    dsimp only
    refine Eq.trans b65_68 ?_
    rw [if_pos rfl]
  · have m2 := m2 (fun ⟨g, _, g1, g2⟩ => h ⟨g, g1, (lk g g1).mp g2⟩)
    rw [b196_78]
    refine Eq.trans (m2 (d + 3)) ?_
    rw [b196_127, if_pos (by omega)]
end WCK

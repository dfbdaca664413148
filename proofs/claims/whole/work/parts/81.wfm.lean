/-! THE FORMS' TEXT, a line of it -/
/-- the told ways, as the two sides mark them -/
def FT (σ μ : xM) : Prop := (∀ v : Nat, 1 ≤ v → v ≤ 127 → (μ 106 v ≠ 0 ↔ ∃ a, a < 20 ∧ σ 5 a = (v : Int))) ∧ ∀ i j, i < 20 → j < 20 → σ 5 i = σ 5 j → σ 5 i ≠ 0 → i = j
def FK1 (σ μ : xM) (k : Nat) : Prop := (μ 105 k = 0 ∧ σ 5 (2 * k) = 0 ∧ σ 5 (2 * k + 1) = 0) ∨ (μ 105 k ≠ 0 ∧ σ 5 (2 * k) = μ 103 (2 * k) ∧ σ 5 (2 * k + 1) = μ 103 (2 * k + 1) ∧ 1 ≤ μ 103 (2 * k) ∧ μ 103 (2 * k) ≤ 127 ∧ 0 ≤ μ 103 (2 * k + 1) ∧ μ 103 (2 * k + 1) ≤ 127)
def FK (σ μ : xM) : Prop := ∀ k, k < 10 → FK1 σ μ k
section WFM
variable {X : Nat × (Nat → Int)} {σ μ τ ν : xM} {sg : Int → Bool} {c4 n : Nat} {fl : Int} {tx : Nat → Int}
theorem it68 {a : Nat} (ha : a < 20) : ∀ (m i : Nat), i + m = 20 → ((∃ j, i ≤ j ∧ j < 20 ∧ σ 5 j = σ 1 8) → ∀ d, Ev X (d + 1) 68 24 [some (vr 3), some (vi a), some (vi i)] [] SH σ = some (some (vi 0), SH, g169 σ 3 (σ 1 6))) ∧ ((¬ ∃ j, i ≤ j ∧ j < 20 ∧ σ 5 j = σ 1 8) → ∀ d, Ev X (d + 1) 68 24 [some (vr 3), some (vi a), some (vi i)] [] SH σ = Ev X (d + 1) 68 68 [some (vr 3), some (vi a), some (vi 20)] [] SH σ) := by
  intro m
  induction m with
  | zero =>
    intro i e
    have e : i = 20 := e
    subst e
    refine ⟨fun ⟨j, h1, h2, _⟩ => by omega, fun _ d => ?_⟩
    rw [b68_24, if_pos (by decide)]
    rfl
  | succ m ih =>
    intro i e
    obtain ⟨ih1, ih2⟩ := ih (i + 1) (by omega)
    have xi : xadd (i : Int) 1 = ((i + 1 : Nat) : Int) := xadd_eq (by omega) (by omega)
    have st : ∀ d, Ev X (d + 1) 68 24 [some (vr 3), some (vi a), some (vi i)] [] SH σ = if σ 5 i ≠ σ 1 8 then Ev X (d + 1) 68 62 [some (vr 3), some (vi a), some (vi i)] [] SH σ else Ev X (d + 1) 68 46 [some (vr 3), some (vi a), some (vi i)] [] SH σ := by
      intro d
      rw [b68_24, if_neg (by omega), b68_30 (by omega), Int.toNat_natCast]
    by_cases z : σ 5 i = σ 1 8
    · refine ⟨fun _ d => ?_, fun g => absurd ⟨i, Nat.le_refl _, by omega, z⟩ g⟩
      rw [st, if_neg (fun w => w z)]
      refine Eq.trans b68_46 ?_
      refine x_bind s169 ?_
      unfold f169
      exact b68_61 (Or.inl rfl)
    · refine ⟨fun ⟨j, h1, h2, h3⟩ d => ?_, fun g d => ?_⟩
      · rw [st, if_pos z, b68_62, xi]
        refine ih1 ⟨j, ?_, h2, h3⟩ d
        by_cases y : j = i
        · rw [y] at h3
          exact absurd h3 z
        · omega
      · rw [st, if_pos z, b68_62, xi]
        exact ih2 (fun ⟨j, h1, h2, h3⟩ => g ⟨j, by omega, h2, h3⟩) d
/-- a way -/
theorem tk_way {a : Nat} (ha : a < 20) (h0 : σ 5 a = 0) (hS : RS X sg c4 fl tx n) (hD : RD c4 fl tx n σ μ) (hT : TK tx n sg σ μ) (h2 : μ 100 2 = 0) (hF : FT σ μ) : ∃ (b v : Int) (τ ν : xM), (b = 0 ∨ b = 1) ∧ (∀ d, Ev X (d + 6) 68 0 [some (vr 3), some (vi a), none] [] SH σ = some (some (vi b), SH, τ)) ∧ (∀ d, Ev X (d + 2) 208 0 [some (vr 100), none] [] SH μ = some (some (vi v), SH, ν)) ∧ chg [5] CT σ τ ∧ chg [106] CM μ ν ∧ (b = 1 → TK tx n sg τ ν ∧ ν 100 2 = 0 ∧ (∀ j, τ 5 j = if j = a then v else σ 5 j) ∧ 1 ≤ v ∧ v ≤ 127 ∧ FT τ ν ∧ σ 1 6 ≤ τ 1 6) ∧ (b = 0 → FL τ ν) := by
  obtain ⟨b, v, τ, ν, b0, b1, b2, b3, b4, b5, b6⟩ := tk_n (lo := 1) (hi := 127) hS hT h2
  rcases b0 with rfl | rfl
  · have fl := b6 rfl
    refine ⟨0, 0, τ, ν, Or.inl rfl, fun d => ?_, fun d => ?_, chg_mo (by decide) b3, chg_mo (by decide) b4, fun z => absurd z (by decide), fun _ => fl⟩
    · refine Eq.trans b68_0 ?_
      refine x_bind (b1 _) ?_
      dsimp only
      refine Eq.trans b68_7 ?_
      rw [if_pos rfl, b68_20]
    · have := fl.2.2
      refine Eq.trans b208_0 ?_
      refine x_bind (b2 _) ?_
      dsimp only
      refine Eq.trans b208_7 ?_
      rw [if_pos (by omega), b208_29, if_neg (by omega), b208_36]
  · obtain ⟨e1, e2, e3, e4, e5, e6⟩ := b5 rfl
    subst e1 e2
    have w0 : ((v.toNat : Nat) : Int) = v := Int.toNat_of_nonneg (by omega)
    have fv := hF.1 v.toNat (by omega) (by omega)
    rw [w0] at fv
    have i68 := it68 (X := X) (σ := τ) ha 20 0 rfl
    have sc : ∀ d, Ev X (d + 6) 68 0 [some (vr 3), some (vi a), none] [] SH τ = Ev X (d + 6) 68 24 [some (vr 3), some (vi a), some (vi 0)] [] SH τ := by
      intro d
      refine Eq.trans b68_0 ?_
      refine x_bind (b1 _) ?_
      dsimp only
      refine Eq.trans b68_7 ?_
      rw [if_neg (by decide), b68_10, if_neg (by omega), b68_14, if_pos (by omega), b68_22]
    have sm : ∀ d, Ev X (d + 2) 208 0 [some (vr 100), none] [] SH ν = if ν 106 v.toNat = 0 then Ev X (d + 2) 208 29 [some (vr 100), some (vi v)] [] SH ν else Ev X (d + 2) 208 24 [some (vr 100), some (vi v)] [] SH ν := by
      intro d
      refine Eq.trans b208_0 ?_
      refine x_bind (b2 _) ?_
      dsimp only
      refine Eq.trans b208_7 ?_
      rw [if_neg (fun z => z h2), b208_15 (by omega)]
    by_cases y : ∃ j, 0 ≤ j ∧ j < 20 ∧ τ 5 j = τ 1 8
    · have y6 : ν 106 v.toNat ≠ 0 := by
        obtain ⟨j, _, y1, y2⟩ := y
        exact fv.mpr ⟨j, y1, by rw [y2, e4]⟩
      have p : τ 1 6 = ν 100 7 := by
        obtain ⟨q, e, h6, h7, h8⟩ := hT
        rw [h6, h7]
      have m3 : ν 100 6 ≠ 3 := by
        obtain ⟨q, e, h6, h7, h8, hq, he, hT⟩ := hT
        omega
      have gm : g206 ν 3 = xwr (xwr ν 100 2 3) 100 3 (ν 100 7) := by
        unfold g206
        rw [if_pos (by omega), if_pos m3]
      refine ⟨0, 0, g169 τ 3 (τ 1 6), xwr (xwr ν 100 2 3) 100 3 (ν 100 7), Or.inl rfl, fun d => ?_, fun d => ?_, ?_, ?_, fun z => absurd z (by decide), fun _ => ⟨?_, ?_, ?_⟩⟩
      · rw [sc]
        exact i68.1 y (d + 5)
      · rw [sm, if_neg y6]
        refine Eq.trans b208_24 ?_
        refine x_bind s206 ?_
        rw [gm]
        dsimp only
        refine Eq.trans b208_29 ?_
        rw [xwr_nj (by decide), xwr_eq, if_neg (by decide), b208_36]
      · unfold g169
        exact chg_wr rfl (chg_wr rfl chg_rf)
      · exact chg_wr rfl (chg_wr rfl chg_rf)
      · unfold g169
        rw [xwr_nj (by decide), xwr_eq, xwr_nj (by decide), xwr_eq]
      · unfold g169
        rw [xwr_eq, xwr_eq, p]
      · rw [xwr_nj (by decide), xwr_eq]; decide
    · have y6 : ν 106 v.toNat = 0 := by
        refine Decidable.byContradiction (fun z => ?_)
        obtain ⟨j, y1, y2⟩ := fv.mp z
        exact y ⟨j, Nat.zero_le _, y1, by rw [y2, e4]⟩
      obtain ⟨e, n1, n2, n3, n4⟩ := TK_nx hT (by omega)
      have hD' : RD c4 fl tx n (xwr τ 5 a v) (xwr ν 106 v.toNat 1) := RD_chg hD (chg_wr rfl chg_rf) (chg_wr rfl chg_rf)
      obtain ⟨τ', ν', t1, t2, t3, t4, t5, t6⟩ := tk_adv (e := e) hS hD' (by rw [xwr_nk (by decide)]; exact n1) (by rw [xwr_nk (by decide)]; exact n2) n3 ⟨(xwr_nk (by decide)).trans (TK_kf hT).1, (xwr_nk (by decide)).trans (TK_kf hT).2.1, (xwr_nk (by decide)).trans (TK_kf hT).2.2⟩
      have r5 : τ' 5 = (xwr τ 5 a v) 5 := chg_row t3 (fun j => rfl) rfl
      have r6 : ν' 106 = (xwr ν 106 v.toNat 1) 106 := chg_row t4 (fun j => rfl) rfl
      have r5j : ∀ j, τ' 5 j = if j = a then v else τ 5 j := by
        intro j
        rw [r5, xwr_rw]
      refine ⟨1, v, τ', ν', Or.inr rfl, fun d => ?_, fun d => ?_, chg_tr (chg_wr rfl chg_rf) (chg_mo (by decide) t3), chg_tr (chg_wr rfl chg_rf) (chg_mo (by decide) t4), fun _ => ⟨t5, ?_, r5j, e5, e6, ?_, by omega⟩, fun z => absurd z (by decide)⟩
      · rw [sc]
        refine Eq.trans (i68.2 y (d + 5)) ?_
        refine Eq.trans (b68_68 (by omega)) ?_
        rw [Int.toNat_natCast, ← e4]
        refine x_bind (t1 _) ?_
        exact b68_88
      · rw [sm, if_pos y6, b208_29, if_pos (by omega)]
        refine Eq.trans (b208_38 (by omega)) ?_
        refine x_bind (t2 _) ?_
        exact b208_49
      · rw [chg_at t4 rfl rfl, xwr_nk (by decide)]
        exact h2
      · refine ⟨?_, fun i j hi hj => ?_⟩
        rotate_left
        · rw [r5j, r5j]
          by_cases gi : i = a
          · by_cases gj : j = a
            · intro _ _
              omega
            · rw [if_pos gi, if_neg gj]
              intro z _
              exact absurd ⟨j, Nat.zero_le _, hj, by rw [← z, e4]⟩ y
          · by_cases gj : j = a
            · rw [if_neg gi, if_pos gj]
              intro z _
              exact absurd ⟨i, Nat.zero_le _, hi, by rw [z, e4]⟩ y
            · rw [if_neg gi, if_neg gj]
              exact hF.2 i j hi hj
        intro w w1 w2
        rw [r6, xwr_rw]
        dsimp only
        by_cases g : w = v.toNat
        · rw [if_pos g]
          refine ⟨fun _ => ⟨a, ha, ?_⟩, fun _ => by decide⟩
          rw [r5j, if_pos rfl, g, w0]
        · rw [if_neg g, hF.1 w w1 w2]
          refine ⟨fun ⟨j, j1, j2⟩ => ⟨j, j1, ?_⟩, fun ⟨j, j1, j2⟩ => ⟨j, j1, ?_⟩⟩
          · rw [r5j, if_neg]
            · exact j2
            · intro z
              rw [z, h0] at j2
              omega
          · rw [r5j] at j2
            by_cases z : j = a
            · rw [if_pos z] at j2
              omega
            · rw [if_neg z] at j2
              exact j2
end WFM

/-! THE FORMS' TEXT: its start -/
def CTS : List (Nat × Nat) := [(1, 2), (1, 3), (1, 4), (1, 5), (1, 6), (1, 7), (1, 8)]
def CMS : List (Nat × Nat) := [(100, 1), (100, 2), (100, 3), (100, 4), (100, 5), (100, 6), (100, 7), (100, 8), (100, 9), (100, 10)]
def sgF : Int → Bool := fun c => decide (c = 59)
section WST
variable {X : Nat × (Nat → Int)} {c4 n : Nat} {fl : Int} {tx : Nat → Int}
theorem sf59 : ∀ c, c < 256 → (0 ≤ sfind (fun j => ([59] : List Int).getD j 0) (xi2b (xi2c ((c : Nat) : Int))) 0 1 ↔ c = 59) := by decide +kernel
theorem x41' : xca X (11 + 30) = some (3, 1, fun j => ([59] : List Int).getD j 0) := rfl
theorem RS_f (hn : n ≤ 300) (hb : ∀ i, 0 ≤ tx i ∧ tx i ≤ 255) : RS X sgF 11 0 tx n := by
  refine ⟨⟨by decide, fun c h0 h1 => ⟨sfind (fun j => ([59] : List Int).getD j 0) (xi2b (xi2c c)) 0 1, ?_, fun τ d => ?_⟩⟩, fun ρ c h => ?_, fun c h => ?_, hn, hb⟩
  · have := sf59 c.toNat (by omega)
    rw [Int.toNat_of_nonneg h0] at this
    rw [this]
    unfold sgF
    rw [decide_eq_true_iff]
    omega
  · have e : xi2c c = c := by
      have := xi2c_255 c.toNat (by omega)
      rw [Int.toNat_of_nonneg h0] at this
      exact this
    rw [e]
    have := s305 (X := X) (d := d) (σ := τ) (k := 11) (a1 := c) (by decide) x41' (by decide) h0 h1
    exact this
  · unfold f202 sgF
    rw [if_pos h]
    by_cases y : c = 59
    · rw [if_neg (fun z => z y), if_pos (decide_eq_true y)]
    · rw [if_pos y, if_neg (fun z => y (of_decide_eq_true z))]
  · have := of_decide_eq_true h
    omega
theorem it65 : ∀ (m i : Nat) (σ : xM), i + m = 20 → (∀ j, j < i → σ 5 j = 0) → ∃ τ, (∀ d, Ev X d 65 2 [some (vr 3), some (vi i)] [] SH σ = Ev X d 65 21 [some (vr 3), some (vi 20)] [] SH τ) ∧ chg [5] [] σ τ ∧ ∀ j, j < 20 → τ 5 j = 0 := by
  intro m
  induction m with
  | zero =>
    intro i σ e h
    have e : i = 20 := e
    subst e
    refine ⟨σ, fun d => ?_, chg_rf, h⟩
    rw [b65_2, if_pos (by decide)]
    rfl
  | succ m ih =>
    intro i σ e h
    have xi : xadd (i : Int) 1 = ((i + 1 : Nat) : Int) := xadd_eq (by omega) (by omega)
    obtain ⟨τ, t1, t2, t3⟩ := ih (i + 1) (xwr σ 5 i 0) (by omega) (fun j hj => by
      rw [xwr_rw]
      by_cases y : j = i
      · exact if_pos y
      · exact (if_neg y).trans (h j (by omega)))
    refine ⟨τ, fun d => ?_, chg_tr (chg_wr rfl chg_rf) t2, t3⟩
    rw [b65_2, if_neg (by omega), b65_8 (by omega), xi, Int.toNat_natCast]
    exact t1 d
theorem it196a {o2 : Option xV} : ∀ (m i : Nat) (σ : xM), i + m = 10 → (∀ j, j < i → σ 105 j = 0) → ∃ τ, (∀ d, Ev X d 196 7 [some (vr 100), some (vi i), o2] [] SH σ = Ev X d 196 26 [some (vr 100), some (vi 10), o2] [] SH τ) ∧ chg [105] [] σ τ ∧ ∀ j, j < 10 → τ 105 j = 0 := by
  intro m
  induction m with
  | zero =>
    intro i σ e h
    have e : i = 10 := e
    subst e
    refine ⟨σ, fun d => ?_, chg_rf, h⟩
    rw [b196_7, if_pos (by decide)]
    rfl
  | succ m ih =>
    intro i σ e h
    have xi : xadd (i : Int) 1 = ((i + 1 : Nat) : Int) := xadd_eq (by omega) (by omega)
    obtain ⟨τ, t1, t2, t3⟩ := ih (i + 1) (xwr σ 105 i 0) (by omega) (fun j hj => by
      rw [xwr_rw]
      by_cases y : j = i
      · exact if_pos y
      · exact (if_neg y).trans (h j (by omega)))
    refine ⟨τ, fun d => ?_, chg_tr (chg_wr rfl chg_rf) t2, t3⟩
    rw [b196_7, if_neg (by omega), b196_13 (by omega), xi, Int.toNat_natCast]
    exact t1 d
theorem it196b {o2 : Option xV} : ∀ (m i : Nat) (σ : xM), i + m = 128 → (∀ j, j < i → σ 106 j = 0) → ∃ τ, (∀ d, Ev X d 196 28 [some (vr 100), some (vi i), o2] [] SH σ = Ev X d 196 48 [some (vr 100), some (vi 128), o2] [] SH τ) ∧ chg [106] [] σ τ ∧ ∀ j, j < 128 → τ 106 j = 0 := by
  intro m
  induction m with
  | zero =>
    intro i σ e h
    have e : i = 128 := e
    subst e
    refine ⟨σ, fun d => ?_, chg_rf, h⟩
    rw [b196_28, if_pos (by decide)]
    rfl
  | succ m ih =>
    intro i σ e h
    have xi : xadd (i : Int) 1 = ((i + 1 : Nat) : Int) := xadd_eq (by omega) (by omega)
    obtain ⟨τ, t1, t2, t3⟩ := ih (i + 1) (xwr σ 106 i 0) (by omega) (fun j hj => by
      rw [xwr_rw]
      by_cases y : j = i
      · exact if_pos y
      · exact (if_neg y).trans (h j (by omega)))
    refine ⟨τ, fun d => ?_, chg_tr (chg_wr rfl chg_rf) t2, t3⟩
    rw [b196_28, if_neg (by omega), b196_35 (by omega), xi, Int.toNat_natCast]
    exact t1 d
theorem tk_st {σ μ : xM} (h1 : σ 2 = tx) (h2 : μ 101 = tx) (h3 : σ 1 1 = n) (h4 : μ 100 1 = n) (hn : n ≤ 300) (hb : ∀ i, 0 ≤ tx i ∧ tx i ≤ 255) : ∃ τ ν, (∀ d, Ev X (d + 8) 65 0 [some (vr 3), none] [] SH σ = Ev X (d + 8) 65 32 [some (vr 3), some (vi 0)] [] SH τ) ∧ (∀ d, Ev X (d + 4) 196 0 [some (vr 100), none, none] [] SH μ = Ev X (d + 4) 196 54 [some (vr 100), some (vi 0), none] [] SH ν) ∧ chg [5] CTS σ τ ∧ chg [105, 106] CMS μ ν ∧ RD 11 0 tx n τ ν ∧ TK tx n sgF τ ν ∧ FT τ ν ∧ FK τ ν ∧ ν 100 2 = 0 ∧ 0 ≤ τ 1 6 ∧ ν 100 1 = 0 := by
  obtain ⟨τ1, a1, a2, a3⟩ := it65 (X := X) 20 0 σ rfl (fun j z => absurd z (by omega))
  have g1 : g197 μ 0 = xwr (xwr (xwr (xwr (xwr (xwr μ 100 10 0) 100 5 (n : Int)) 100 1 0) 100 4 0) 100 2 0) 100 3 (-1) := by
    unfold g197
    rw [h4]
  generalize hμ : xwr (xwr (xwr (xwr (xwr (xwr μ 100 10 0) 100 5 (n : Int)) 100 1 0) 100 4 0) 100 2 0) 100 3 (-1) = μ1 at g1
  have u10 : μ1 100 10 = 0 := by rw [← hμ, xwr_nj (by decide), xwr_nj (by decide), xwr_nj (by decide), xwr_nj (by decide), xwr_nj (by decide), xwr_eq]
  have u5 : μ1 100 5 = n := by rw [← hμ, xwr_nj (by decide), xwr_nj (by decide), xwr_nj (by decide), xwr_nj (by decide), xwr_eq]
  have u4 : μ1 100 4 = 0 := by rw [← hμ, xwr_nj (by decide), xwr_nj (by decide), xwr_eq]
  have u2 : μ1 100 2 = 0 := by rw [← hμ, xwr_nj (by decide), xwr_eq]
  have u3' : μ1 100 3 = -1 := by rw [← hμ, xwr_eq]
  have u1 : μ1 100 1 = 0 := by rw [← hμ, xwr_nj (by decide), xwr_nj (by decide), xwr_nj (by decide), xwr_eq]
  have ut : μ1 101 = tx := by rw [← hμ, xwr_row (by decide), xwr_row (by decide), xwr_row (by decide), xwr_row (by decide), xwr_row (by decide), xwr_row (by decide)]; exact h2
  have cu : chg [105, 106] CMS μ μ1 := by
    rw [← hμ]
    exact chg_wr rfl (chg_wr rfl (chg_wr rfl (chg_wr rfl (chg_wr rfl (chg_wr rfl chg_rf)))))
  clear hμ
  obtain ⟨ν1, c1, c2, c3⟩ := it196a (X := X) (o2 := none) 10 0 μ1 rfl (fun j z => absurd z (by omega))
  obtain ⟨ν2, e1, e2, e3⟩ := it196b (X := X) (o2 := none) 128 0 ν1 rfl (fun j z => absurd z (by omega))
  have w10 : ν2 100 10 = 0 := by rw [chg_at e2 rfl rfl, chg_at c2 rfl rfl]; exact u10
  have w5 : ν2 100 5 = n := by rw [chg_at e2 rfl rfl, chg_at c2 rfl rfl]; exact u5
  have w4 : ν2 100 4 = 0 := by rw [chg_at e2 rfl rfl, chg_at c2 rfl rfl]; exact u4
  have w2 : ν2 100 2 = 0 := by rw [chg_at e2 rfl rfl, chg_at c2 rfl rfl]; exact u2
  have u3 : ν2 100 3 = -1 := by rw [chg_at e2 rfl rfl, chg_at c2 rfl rfl]; exact u3'
  have wt : ν2 101 = tx := by rw [chg_row e2 (fun j => rfl) rfl, chg_row c2 (fun j => rfl) rfl]; exact ut
  have cw : chg [105, 106] CMS μ ν2 := chg_tr cu (chg_tr (chg_mo (by decide) c2) (chg_mo (by decide) e2))
  have v1 : ∀ j, j < 10 → ν2 105 j = 0 := fun j hj => by rw [chg_row e2 (fun j => rfl) rfl]; exact c3 j hj
  generalize hσ : xwr (xwr (xwr (xwr τ1 1 2 0) 1 3 (-1)) 1 4 ((11 : Nat) : Int)) 1 7 0 = σ1
  have s4 : σ1 1 4 = ((11 : Nat) : Int) := by rw [← hσ, xwr_nj (by decide), xwr_eq]
  have s7 : σ1 1 7 = ((0 : Nat) : Int) := by rw [← hσ, xwr_eq]; rfl
  have s1 : σ1 1 1 = n := by rw [← hσ, xwr_nj (by decide), xwr_nj (by decide), xwr_nj (by decide), xwr_nj (by decide), chg_at a2 rfl rfl]; exact h3
  have f2 : σ1 1 2 = 0 := by rw [← hσ, xwr_nj (by decide), xwr_nj (by decide), xwr_nj (by decide), xwr_eq]
  have f3 : σ1 1 3 = -1 := by rw [← hσ, xwr_nj (by decide), xwr_nj (by decide), xwr_eq]
  have s2 : σ1 2 = tx := by rw [← hσ, xwr_row (by decide), xwr_row (by decide), xwr_row (by decide), xwr_row (by decide), chg_row a2 (fun j => rfl) rfl]; exact h1
  have s5 : σ1 5 = τ1 5 := by rw [← hσ, xwr_row (by decide), xwr_row (by decide), xwr_row (by decide), xwr_row (by decide)]
  have cs : chg [5] CTS σ σ1 := by
    rw [← hσ]
    exact chg_wr rfl (chg_wr rfl (chg_wr rfl (chg_wr rfl (chg_mo (by decide) a2))))
  obtain ⟨τ, ν, t1, t2, t3, t4, t5, t6⟩ := tk_adv (X := X) (σ := σ1) (μ := ν2) (e := 0) (RS_f hn hb) ⟨s2, wt, s1, w5, s4, w10⟩ s7 w4 (Nat.zero_le _) ⟨f2, f3, u3⟩
  have r5 : ∀ j, j < 20 → τ 5 j = 0 := fun j hj => by rw [chg_row t3 (fun j => rfl) rfl, s5]; exact a3 j hj
  have r6 : ∀ j, j < 128 → ν 106 j = 0 := fun j hj => by rw [chg_row t4 (fun j => rfl) rfl]; exact e3 j hj
  have r7 : ∀ j, j < 10 → ν 105 j = 0 := fun j hj => by rw [chg_row t4 (fun j => rfl) rfl]; exact v1 j hj
  refine ⟨τ, ν, fun d => ?_, fun d => ?_, chg_tr cs (chg_mo (by decide) t3), chg_tr cw (chg_mo (by decide) t4), RD_chg ⟨s2, wt, s1, w5, s4, w10⟩ (chg_mo (by decide) t3) (chg_mo (by decide) t4), t5, ⟨fun v g1 g2 => ⟨fun z => absurd (r6 v (by omega)) z, fun ⟨a, z1, z2⟩ => ?_⟩, fun i j hi hj _ z => absurd (r5 i hi) z⟩, fun k hk => Or.inl ⟨r7 k hk, r5 _ (by omega), r5 _ (by omega)⟩, ?_, t6, ?_⟩
  · rw [b65_0]
    refine Eq.trans (a1 _) ?_
    refine Eq.trans b65_21 ?_
    have p : ∀ d, Ev X (d + 7) 157 0 [some (vr 1), some (vc 11)] [] SH τ1 = some (none, SH, τ) := by
      intro d
      refine Eq.trans b157_0 ?_
      refine x_bind s158 ?_
      dsimp only
      refine Eq.trans b157_4 ?_
      unfold g158
      rw [hσ]
      refine x_bind (t1 (d + 1)) ?_
      exact b157_18
    refine x_bind (p d) ?_
    dsimp only
    exact b65_30
  · refine Eq.trans b196_0 ?_
    refine x_bind (s197 (Or.inl rfl)) ?_
    rw [g1]
    dsimp only
    refine Eq.trans b196_5 ?_
    refine Eq.trans (c1 _) ?_
    refine Eq.trans b196_26 ?_
    refine Eq.trans (e1 _) ?_
    refine Eq.trans b196_48 ?_
    refine x_bind (t2 (d + 2)) ?_
    rfl
  · rw [r5 a z1] at z2
    omega
  · rw [chg_at t4 rfl rfl]
    exact w2
  · rw [chg_at t4 rfl rfl, chg_at e2 rfl rfl, chg_at c2 rfl rfl]
    exact u1
end WST

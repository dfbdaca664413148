/-! WANTED: its start on both sides -/
/-- what a token is beside TK: it has bytes, and a number is told in four digits -/
def XT (σ : xM) : Prop := (σ 1 5 = 0 ∨ σ 1 5 = 4 ∨ σ 1 6 < σ 1 7) ∧ (σ 1 5 = 2 → 0 ≤ σ 1 8 ∧ σ 1 8 ≤ 9999)
section WXT
variable {X : Nat × (Nat → Int)} {σ μ τ ν : xM} {sg : Int → Bool} {c4 n q : Nat} {fl : Int} {tx : Nat → Int}
theorem dval_bd {q : Nat} : ∀ k, k ≤ 4 → (∀ i, i < k → isDg (tx (q + i)) = true) → 0 ≤ dval tx q k ∧ dval tx q k < 10 ^ k
  | 0, _, _ => by
    rw [dval]
    decide
  | k + 1, hk, h => by
    obtain ⟨a, b⟩ := dval_bd k (by omega) (fun i hi => h i (by omega))
    have c := of_decide_eq_true (h k (by omega))
    have p : (10 : Int) ^ k ≤ 1000 := by
      have : k = 0 ∨ k = 1 ∨ k = 2 ∨ k = 3 := by omega
      rcases this with r | r | r | r <;> subst r <;> decide
    rw [dval, Int.pow_succ, xmul_eq (by omega) (by omega), xadd_eq (by omega) (by omega), xsub_eq (by omega) (by omega)]
    omega
theorem runE_st {P : Int → Bool} {k p : Nat} (h : P (tx p) = true) (hk : 0 < k) : p < runE P tx k p := by
  cases k with
  | zero => omega
  | succ k =>
    rw [runE, if_pos h]
    have := runE_rg (P := P) (tx := tx) k (p + 1)
    omega
theorem TkC_x (h : TkC tx n sg σ q) : XT σ := by
  obtain ⟨h6, h⟩ := h
  rcases h with ⟨a1, a2, a3⟩ | ⟨a1, a2, a3, a4⟩ | ⟨a1, a2, a3, a4, a5⟩ | ⟨a1, a2, a3, a4, a5, a6⟩
  · exact ⟨Or.inl a2, fun z => by omega⟩
  · have := runE_st (P := isLt) (tx := tx) (k := n - q) a2 (by omega)
    refine ⟨Or.inr (Or.inr (by omega)), fun z => ?_⟩
    rw [a4] at z
    split at z <;> omega
  · have := runE_st (P := isDg) (tx := tx) (k := n - q) a2 (by omega)
    have ri := runE_in (P := isDg) (tx := tx) (n - q) q
    refine ⟨Or.inr (Or.inr (by omega)), fun z => ?_⟩
    rw [a4] at z
    unfold nKd at z
    split at z
    · rename_i y
      obtain ⟨u1, u2⟩ := dval_bd (tx := tx) (q := q) (runE isDg tx (n - q) q - q) y.1 (fun i hi => ri (q + i) (by omega) (by omega))
      have p : (10 : Int) ^ (runE isDg tx (n - q) q - q) ≤ 10000 := by
        have y1 := y.1
        generalize runE isDg tx (n - q) q - q = k at y1
        have : k = 0 ∨ k = 1 ∨ k = 2 ∨ k = 3 ∨ k = 4 := by omega
        rcases this with r | r | r | r | r <;> subst r <;> decide
      rw [a5]
      omega
    · omega
  · refine ⟨Or.inr (Or.inr (by omega)), fun z => ?_⟩
    rw [a6] at z
    split at z <;> omega
theorem tk_ad2 (hS : RS X sg c4 fl tx n) (hD : RD c4 fl tx n σ μ) {e : Nat} (h7 : σ 1 7 = e) (h4 : μ 100 4 = e) (he : e ≤ n) (hf : KF σ μ) : ∃ τ ν, (∀ d, Ev X (d + 5) 159 0 [some (vr 1), none] [] SH σ = some (none, SH, τ)) ∧ (∀ d, Ev X (d + 1) 198 0 [some (vr 100), none, none] [] SH μ = some (none, SH, ν)) ∧ chg [] CT0 σ τ ∧ chg [] CM0 μ ν ∧ TK tx n sg τ ν ∧ (e : Int) ≤ τ 1 6 ∧ XT τ := by
  obtain ⟨a1, a2, a3, a4, a5⟩ := hS
  obtain ⟨d1, d2, d3, d4, d5, d6⟩ := hD
  obtain ⟨τ, t1, t2, t3⟩ := s159 (X := X) (σ := σ) a1 d5 d3 a4 (by rw [d1]; exact a5) h7 he
  obtain ⟨ν, v1, v2, v3⟩ := s198 (X := X) (μ := μ) (sg := sg) (by rw [d6]; exact a2) (Bool.eq_false_iff.mpr (fun z => absurd (a3 _ z) (by decide))) d4 a4 (by rw [d2]; exact a5) h4 he
  rw [d1] at t3
  rw [d2] at v3
  have rg := runE_rg (P := isBl) (tx := tx) (n - e) e
  exact ⟨τ, ν, t1, v1, t2, v2, TK_of (by omega) ⟨(chg_at t2 rfl rfl).trans hf.1, (chg_at t2 rfl rfl).trans hf.2.1, (chg_at v2 rfl rfl).trans hf.2.2⟩ t3 v3, by rw [t3.1]; omega, TkC_x t3⟩
end WXT
def sgN : Int → Bool := fun c => decide (c = 40 ∨ c = 41 ∨ c = 60 ∨ c = 62 ∨ c = 61 ∨ c = 43 ∨ c = 45 ∨ c = 42)
section WWS
variable {X : Nat × (Nat → Int)} {n : Nat} {tx : Nat → Int}
theorem sfW : ∀ c, c < 256 → (0 ≤ sfind (fun j => ([40, 41, 60, 62, 61, 43, 45, 42] : List Int).getD j 0) (xi2b (xi2c ((c : Nat) : Int))) 0 8 ↔ (c = 40 ∨ c = 41 ∨ c = 60 ∨ c = 62 ∨ c = 61 ∨ c = 43 ∨ c = 45 ∨ c = 42)) := by decide +kernel
theorem x46' : xca X (16 + 30) = some (3, 8, fun j => ([40, 41, 60, 62, 61, 43, 45, 42] : List Int).getD j 0) := rfl
theorem RS_w (hn : n ≤ 300) (hb : ∀ i, 0 ≤ tx i ∧ tx i ≤ 255) : RS X sgN 16 1 tx n := by
  refine ⟨⟨by decide, fun c h0 h1 => ⟨sfind (fun j => ([40, 41, 60, 62, 61, 43, 45, 42] : List Int).getD j 0) (xi2b (xi2c c)) 0 8, ?_, fun τ d => ?_⟩⟩, fun ρ c h => ?_, fun c h => ?_, hn, hb⟩
  · have := sfW c.toNat (by omega)
    rw [Int.toNat_of_nonneg h0] at this
    rw [this]
    unfold sgN
    rw [decide_eq_true_iff]
    omega
  · have e : xi2c c = c := by
      have := xi2c_255 c.toNat (by omega)
      rw [Int.toNat_of_nonneg h0] at this
      exact this
    rw [e]
    have := s305 (X := X) (d := d) (σ := τ) (k := 16) (a1 := c) (by decide) x46' (by decide) h0 h1
    exact this
  · unfold f202 sgN
    rw [if_neg (by omega)]
    by_cases y : c = 40 ∨ c = 41 ∨ c = 60 ∨ c = 62 ∨ c = 61 ∨ c = 43 ∨ c = 45 ∨ c = 42
    · rw [if_pos (decide_eq_true y)]
      repeat' split
      all_goals first
        | rfl
        | omega
    · rw [if_neg (fun z => y (of_decide_eq_true z))]
      repeat' split
      all_goals first
        | rfl
        | omega
  · have := of_decide_eq_true h
    omega
/-- both sides stand at the first token -/
theorem tk_sw {σ μ : xM} (h1 : σ 2 = tx) (h2 : μ 101 = tx) (h3 : σ 1 1 = n) (h4 : μ 100 1 = n) (hn : n ≤ 300) (hb : ∀ i, 0 ≤ tx i ∧ tx i ≤ 255) : ∃ τ ν, (∀ d, Ev X (d + 8) 77 0 [some (vr 10), none] [] SH σ = Ev X (d + 8) 77 19 [some (vr 10), none] [] SH τ) ∧ (∀ d, Ev X (d + 4) 228 13 [some (vr 100), none, none, none] [] SH μ = Ev X (d + 4) 228 42 [some (vr 100), none, none, none] [] SH ν) ∧ chg [] [(1, 2), (1, 3), (1, 4), (1, 5), (1, 6), (1, 7), (1, 8), (10, 5), (10, 6)] σ τ ∧ chg [] [(100, 1), (100, 2), (100, 3), (100, 4), (100, 5), (100, 6), (100, 7), (100, 8), (100, 9), (100, 10), (100, 34), (100, 36), (100, 38), (100, 39)] μ ν ∧ RD 16 1 tx n τ ν ∧ TK tx n sgN τ ν ∧ ν 100 2 = 0 ∧ 0 ≤ τ 1 6 ∧ ν 100 1 = 0 ∧ τ 10 5 = 0 ∧ τ 10 6 = 0 ∧ ν 100 34 = 0 ∧ ν 100 36 = 0 ∧ ν 100 38 = 0 ∧ ν 100 39 = 0 ∧ XT τ := by
  have g1 : g197 μ 1 = xwr (xwr (xwr (xwr (xwr (xwr μ 100 10 1) 100 5 (n : Int)) 100 1 0) 100 4 0) 100 2 0) 100 3 (-1) := by
    unfold g197
    rw [h4]
  generalize hμ : xwr (xwr (xwr (xwr (xwr (xwr (xwr (xwr (xwr (xwr μ 100 10 1) 100 5 (n : Int)) 100 1 0) 100 4 0) 100 2 0) 100 3 (-1)) 100 34 0) 100 36 0) 100 38 0) 100 39 0 = μ1
  have u10 : μ1 100 10 = 1 := by rw [← hμ]; simp (disch := decide) only [xwr_nj, xwr_eq]
  have u5 : μ1 100 5 = n := by rw [← hμ]; simp (disch := decide) only [xwr_nj, xwr_eq]
  have u4 : μ1 100 4 = ((0 : Nat) : Int) := by rw [← hμ]; simp (disch := decide) only [xwr_nj, xwr_eq]; rfl
  have u2 : μ1 100 2 = 0 := by rw [← hμ]; simp (disch := decide) only [xwr_nj, xwr_eq]
  have u3 : μ1 100 3 = -1 := by rw [← hμ]; simp (disch := decide) only [xwr_nj, xwr_eq]
  have u1 : μ1 100 1 = 0 := by rw [← hμ]; simp (disch := decide) only [xwr_nj, xwr_eq]
  have u34 : μ1 100 34 = 0 := by rw [← hμ]; simp (disch := decide) only [xwr_nj, xwr_eq]
  have u36 : μ1 100 36 = 0 := by rw [← hμ]; simp (disch := decide) only [xwr_nj, xwr_eq]
  have u38 : μ1 100 38 = 0 := by rw [← hμ]; simp (disch := decide) only [xwr_nj, xwr_eq]
  have u39 : μ1 100 39 = 0 := by rw [← hμ, xwr_eq]
  have ut : μ1 101 = tx := by rw [← hμ]; simp (disch := decide) only [xwr_row]; exact h2
  have cu : chg [] [(100, 1), (100, 2), (100, 3), (100, 4), (100, 5), (100, 6), (100, 7), (100, 8), (100, 9), (100, 10), (100, 34), (100, 36), (100, 38), (100, 39)] μ μ1 := by
    rw [← hμ]
    exact chg_wr rfl (chg_wr rfl (chg_wr rfl (chg_wr rfl (chg_wr rfl (chg_wr rfl (chg_wr rfl (chg_wr rfl (chg_wr rfl (chg_wr rfl chg_rf)))))))))
  generalize hσ : xwr (xwr (xwr (xwr (xwr (xwr σ 10 5 0) 10 6 0) 1 2 0) 1 3 (-1)) 1 4 ((16 : Nat) : Int)) 1 7 0 = σ1
  have s4 : σ1 1 4 = ((16 : Nat) : Int) := by rw [← hσ, xwr_nj (by decide), xwr_eq]
  have s7 : σ1 1 7 = ((0 : Nat) : Int) := by rw [← hσ, xwr_eq]; rfl
  have s1 : σ1 1 1 = n := by rw [← hσ]; simp (disch := decide) only [xwr_nj, xwr_nk]; exact h3
  have f2 : σ1 1 2 = 0 := by rw [← hσ]; simp (disch := decide) only [xwr_nj, xwr_eq]
  have f3 : σ1 1 3 = -1 := by rw [← hσ]; simp (disch := decide) only [xwr_nj, xwr_eq]
  have z5 : σ1 10 5 = 0 := by rw [← hσ]; simp (disch := decide) only [xwr_nj, xwr_nk, xwr_eq]
  have z6 : σ1 10 6 = 0 := by rw [← hσ]; simp (disch := decide) only [xwr_nj, xwr_nk, xwr_eq]
  have s2 : σ1 2 = tx := by rw [← hσ]; simp (disch := decide) only [xwr_row]; exact h1
  have cs : chg [] [(1, 2), (1, 3), (1, 4), (1, 5), (1, 6), (1, 7), (1, 8), (10, 5), (10, 6)] σ σ1 := by
    rw [← hσ]
    exact chg_wr rfl (chg_wr rfl (chg_wr rfl (chg_wr rfl (chg_wr rfl (chg_wr rfl chg_rf)))))
  obtain ⟨τ, ν, t1, t2, t3, t4, t5, t6, t7⟩ := tk_ad2 (X := X) (σ := σ1) (μ := μ1) (e := 0) (RS_w hn hb) ⟨s2, ut, s1, u5, s4, u10⟩ s7 u4 (Nat.zero_le _) ⟨f2, f3, u3⟩
  refine ⟨τ, ν, fun d => ?_, fun d => ?_, chg_tr cs (chg_mo (by decide) t3), chg_tr cu (chg_mo (by decide) t4), RD_chg ⟨s2, ut, s1, u5, s4, u10⟩ (chg_mo (by decide) t3) (chg_mo (by decide) t4), t5, (chg_at t4 rfl rfl).trans u2, t6, (chg_at t4 rfl rfl).trans u1, (chg_at t3 rfl rfl).trans z5, (chg_at t3 rfl rfl).trans z6, (chg_at t4 rfl rfl).trans u34, (chg_at t4 rfl rfl).trans u36, (chg_at t4 rfl rfl).trans u38, (chg_at t4 rfl rfl).trans u39, t7⟩
  · refine Eq.trans b77_0 ?_
    have p : ∀ d, Ev X (d + 7) 157 0 [some (vr 1), some (vc 16)] [] SH (xwr (xwr σ 10 5 0) 10 6 0) = some (none, SH, τ) := by
      intro d
      refine Eq.trans b157_0 ?_
      refine x_bind s158 ?_
      dsimp only
      refine Eq.trans b157_4 ?_
      unfold g158
      rw [hσ]
      refine x_bind (t1 (d + 1)) ?_
      exact b157_18
    refine x_bind (p d) ?_
    rfl
  · refine Eq.trans b228_13 ?_
    refine x_bind (s197 (Or.inr rfl)) ?_
    rw [g1]
    dsimp only
    refine Eq.trans b228_18 ?_
    rw [hμ]
    refine x_bind (t2 (d + 2)) ?_
    rfl
end WWS

/-! READING, on both sides -/
def CT0 : List (Nat × Nat) := [(1, 5), (1, 6), (1, 7), (1, 8)]
def CM0 : List (Nat × Nat) := [(100, 4), (100, 6), (100, 7), (100, 8), (100, 9)]
def CT : List (Nat × Nat) := [(1, 2), (1, 3), (1, 5), (1, 6), (1, 7), (1, 8)]
def CM : List (Nat × Nat) := [(100, 2), (100, 3), (100, 4), (100, 6), (100, 7), (100, 8), (100, 9)]
theorem chg_at {CA : List Nat} {CS : List (Nat × Nat)} {σ τ : xM} {k j : Nat} (h : chg CA CS σ τ) (a : pin CA CS k j = false) (b : rdC k = false) : τ k j = σ k j := h k j a (fun z => by rw [b] at z; cases z)
/-- what stays as it is while a text is read -/
def RS (X : Nat × (Nat → Int)) (sg : Int → Bool) (c4 : Nat) (fl : Int) (tx : Nat → Int) (n : Nat) : Prop := sgS X c4 sg ∧ (∀ (ρ : xM) (c : Int), ρ 100 10 = fl → f202 ρ c = if sg c = true then 1 else 0) ∧ (∀ c, sg c = true → 4 ≤ c) ∧ n ≤ 300 ∧ ∀ i, 0 ≤ tx i ∧ tx i ≤ 255
def RD (c4 : Nat) (fl : Int) (tx : Nat → Int) (n : Nat) (σ μ : xM) : Prop := σ 2 = tx ∧ μ 101 = tx ∧ σ 1 1 = n ∧ μ 100 5 = n ∧ σ 1 4 = c4 ∧ μ 100 10 = fl
/-- one fault on both sides -/
def FL (τ ν : xM) : Prop := τ 1 2 = ν 100 2 ∧ τ 1 3 = ν 100 3 ∧ 0 < ν 100 2
section RDR
variable {X : Nat × (Nat → Int)} {σ μ τ ν : xM} {sg : Int → Bool} {c4 n : Nat} {fl : Int} {tx : Nat → Int}
theorem RD_chg (h : RD c4 fl tx n σ μ) (a : chg [5] CT σ τ) (b : chg [103, 105, 106] CM μ ν) : RD c4 fl tx n τ ν := by
  obtain ⟨h1, h2, h3, h4, h5, h6⟩ := h
  refine ⟨?_, ?_, ?_, ?_, ?_, ?_⟩
  · rw [← h1]
    exact chg_row a (fun j => rfl) rfl
  · rw [← h2]
    exact chg_row b (fun j => rfl) rfl
  · rw [← h3]; exact chg_at a rfl rfl
  · rw [← h4]; exact chg_at b rfl rfl
  · rw [← h5]; exact chg_at a rfl rfl
  · rw [← h6]; exact chg_at b rfl rfl
theorem tk_adv (hS : RS X sg c4 fl tx n) (hD : RD c4 fl tx n σ μ) {e : Nat} (h7 : σ 1 7 = e) (h4 : μ 100 4 = e) (he : e ≤ n) (hf : KF σ μ) : ∃ τ ν, (∀ d, Ev X (d + 5) 159 0 [some (vr 1), none] [] SH σ = some (none, SH, τ)) ∧ (∀ d, Ev X (d + 1) 198 0 [some (vr 100), none, none] [] SH μ = some (none, SH, ν)) ∧ chg [] CT0 σ τ ∧ chg [] CM0 μ ν ∧ TK tx n sg τ ν ∧ (e : Int) ≤ τ 1 6 := by
  obtain ⟨a1, a2, a3, a4, a5⟩ := hS
  obtain ⟨d1, d2, d3, d4, d5, d6⟩ := hD
  obtain ⟨τ, t1, t2, t3⟩ := s159 (X := X) (σ := σ) a1 d5 d3 a4 (by rw [d1]; exact a5) h7 he
  obtain ⟨ν, v1, v2, v3⟩ := s198 (X := X) (μ := μ) (sg := sg) (by rw [d6]; exact a2) (Bool.eq_false_iff.mpr (fun z => absurd (a3 _ z) (by decide))) d4 a4 (by rw [d2]; exact a5) h4 he
  rw [d1] at t3
  rw [d2] at v3
  have rg := runE_rg (P := isBl) (tx := tx) (n - e) e
  exact ⟨τ, ν, t1, v1, t2, v2, TK_of (by omega) ⟨(chg_at t2 rfl rfl).trans hf.1, (chg_at t2 rfl rfl).trans hf.2.1, (chg_at v2 rfl rfl).trans hf.2.2⟩ t3 v3, by rw [t3.1]; omega⟩
theorem tk_w {k1 : Nat} {wd : List Int} (hk : 10 ≤ k1 ∧ k1 < 23) (ha : xca X (k1 + 30) = some (3, wd.length, fun j => wd.getD j 0)) (hl : wd.length ≤ 7) (hv : ∀ i, i < wd.length → xi2c (xand (wd.getD i 0) 255) = wd.getD i 0 ∧ 97 ≤ wd.getD i 0 ∧ wd.getD i 0 ≤ 122) (hS : RS X sg c4 fl tx n) (hD : RD c4 fl tx n σ μ) (hT : TK tx n sg σ μ) : ∃ b : Int, (b = 0 ∨ b = 1) ∧ (∀ d, Ev X (d + 5) 167 0 [some (vr 1), some (vc k1), none] [] SH σ = some (some (vi b), SH, σ)) ∧ f205 μ (pkN (fun i => wd.getD i 0) 0 wd.length : Nat) = b ∧ (b = 1 → σ 1 5 = 1 ∧ σ 1 7 = σ 1 6 + wd.length) := by
  obtain ⟨a1, a2, a3, a4, a5⟩ := hS
  obtain ⟨d1, d2, d3, d4, d5, d6⟩ := hD
  obtain ⟨q, e, h6, h7, h8, hq, he, hT⟩ := hT
  have s := s167 (X := X) (τ := σ) (q := q) (e := e) hk ha (by omega) (fun i z => ⟨(hv i z).1, by have := (hv i z).2; omega, by have := (hv i z).2; omega⟩) d3 a4 h6 h8 hq.1 he.1
  rw [d1] at s
  have z0 : ∀ i, (fun i => wd.getD i 0) (0 + i) = wd.getD i 0 := fun i => by rw [Nat.zero_add]
  by_cases w : wdC tx n σ q wd
  · refine ⟨1, Or.inr rfl, s.1 w, ?_, fun _ => ⟨w.1, by rw [w.2.1, h6]; omega⟩⟩
    obtain ⟨w1, w2, w3⟩ := w
    have ee : e - q = wd.length := by omega
    have t : μ 100 6 = 1 ∧ μ 100 9 = pk tx q (e - q) := by
      rcases hT with c | ⟨c1, c2, c3, c4, c5, c6⟩ | c | c | c
      · omega
      · exact ⟨c2, c6⟩
      · omega
      · omega
      · omega
    have pe : pk tx q (e - q) = ((pkN (fun i => wd.getD i 0) 0 wd.length : Nat) : Int) := by
      rw [ee, pkq _ (by omega) (fun i z => by rw [w3 i z]; have := (hv i z).2; omega), pkN_cg (g := fun i => wd.getD i 0) (q := 0) wd.length (fun i z => by rw [w3 i z]; exact (z0 i).symm)]
    unfold f205 lcmp'
    rw [if_neg (fun z => z t.1), t.2, pe, if_neg (fun z => z (by rw [if_neg (Int.lt_irrefl _), if_pos rfl]))]
  · refine ⟨0, Or.inl rfl, s.2 w, ?_, fun z => absurd z (by decide)⟩
    unfold f205
    by_cases m : μ 100 6 ≠ 1
    · rw [if_pos m]
    · rw [if_neg m]
      have m1 : μ 100 6 = 1 := Decidable.not_not.mp m
      have t : σ 1 5 = 1 ∧ e - q ≤ 8 ∧ (∀ i, i < e - q → 97 ≤ tx (q + i) ∧ tx (q + i) ≤ 122) ∧ μ 100 9 = pk tx q (e - q) := by
        rcases hT with c | ⟨c1, c2, c3, c4, c5, c6⟩ | c | c | c
        · omega
        · exact ⟨c1, c4, c5, c6⟩
        · omega
        · have := a3 _ c.2.2.2
          omega
        · omega
      obtain ⟨t1, t2, t3, t4⟩ := t
      rw [if_pos]
      intro y
      apply w
      have y2 : pk tx q (e - q) = ((pkN (fun i => wd.getD i 0) 0 wd.length : Nat) : Int) := by
        unfold lcmp' at y
        rw [t4] at y
        by_cases g : pk tx q (e - q) < ((pkN (fun i => wd.getD i 0) 0 wd.length : Nat) : Int)
        · rw [if_pos g] at y
          exact absurd y (by decide)
        · rw [if_neg g] at y
          by_cases g2 : pk tx q (e - q) = ((pkN (fun i => wd.getD i 0) 0 wd.length : Nat) : Int)
          · exact g2
          · rw [if_neg g2] at y
            exact absurd y (by decide)
      rw [pkq _ t2 (fun i z => by have := t3 i z; omega)] at y2
      obtain ⟨r1, r2⟩ := pkN_in (f := tx) (g := fun i => wd.getD i 0) (p := q) (q := 0) (e - q) wd.length (fun i z => by have := t3 i z; omega) (fun i z => by rw [Nat.zero_add]; have := (hv i z).2; omega) (by omega)
      refine ⟨t1, by rw [h8]; omega, fun i z => ?_⟩
      rw [r2 i (by omega)]
      exact z0 i
theorem tk_rf (hS : RS X sg c4 fl tx n) (hT : TK tx n sg σ μ) (h2 : μ 100 2 = 0) : f168 σ = 0 ∧ FL (g168 σ) (g206 μ 2) ∧ chg [] CT σ (g168 σ) ∧ chg [] CM μ (g206 μ 2) := by
  obtain ⟨a1, a2, a3, a4, a5⟩ := hS
  obtain ⟨q, e, h6, h7, h8, hq, he, hT⟩ := hT
  have t : σ 1 5 = 4 ↔ μ 100 6 = 3 := by
    rcases hT with c | c | c | c | c
    · omega
    · omega
    · omega
    · have := a3 _ c.2.2.2
      omega
    · omega
  unfold f168 g168 g206 f169 g169
  rw [if_pos (show μ 100 2 ≤ 0 by omega)]
  by_cases y : σ 1 5 = 4
  · rw [if_neg (fun z => z y), if_neg (fun z => z y), if_neg (fun z => z (t.mp y))]
    refine ⟨rfl, ⟨?_, ?_, ?_⟩, chg_wr rfl (chg_wr rfl chg_rf), chg_wr rfl (chg_wr rfl chg_rf)⟩
    · rw [xwr_nj (by decide), xwr_eq, xwr_nj (by decide), xwr_eq]
    · rw [xwr_eq, xwr_eq, h6, h7]
    · rw [xwr_nj (by decide), xwr_eq]; decide
  · rw [if_pos y, if_pos y, if_pos (fun z => y (t.mpr z))]
    refine ⟨rfl, ⟨?_, ?_, ?_⟩, chg_wr rfl (chg_wr rfl chg_rf), chg_wr rfl (chg_wr rfl chg_rf)⟩
    · rw [xwr_nj (by decide), xwr_eq, xwr_nj (by decide), xwr_eq]
    · rw [xwr_eq, xwr_eq, h6, h7]
    · rw [xwr_nj (by decide), xwr_eq]; decide
theorem chgT (h : chg [] CT0 σ τ) : chg [] CT σ τ := chg_mo (by decide) h
theorem chgM (h : chg [] CM0 μ ν) : chg [] CM μ ν := chg_mo (by decide) h
theorem TK_kf (hT : TK tx n sg σ μ) : KF σ μ := by
  obtain ⟨q, e, h6, h7, h8, hq, he, hT⟩ := hT
  exact he.2
/-- where the next token starts -/
theorem TK_nx (hT : TK tx n sg σ μ) (h : σ 1 5 ≠ 4) : ∃ e : Nat, σ 1 7 = e ∧ μ 100 4 = e ∧ e ≤ n ∧ σ 1 6 ≤ e := by
  obtain ⟨q, e, h6, h7, h8, hq, he, hT⟩ := hT
  refine ⟨e, h8, ?_, he.1, by omega⟩
  rcases hT with c | c | c | c | c
  · exact c.2.2
  · exact c.2.2.1
  · exact c.2.2.1
  · exact c.2.2.1
  · exact absurd c.1 h
/-- a word is wanted -/
theorem tk_p {k1 : Nat} {wd : List Int} {K : Int} (hk : 10 ≤ k1 ∧ k1 < 23) (ha : xca X (k1 + 30) = some (3, wd.length, fun j => wd.getD j 0)) (hl : wd.length ≤ 7) (hv : ∀ i, i < wd.length → xi2c (xand (wd.getD i 0) 255) = wd.getD i 0 ∧ 97 ≤ wd.getD i 0 ∧ wd.getD i 0 ≤ 122) (hK : K = (pkN (fun i => wd.getD i 0) 0 wd.length : Nat)) (hS : RS X sg c4 fl tx n) (hD : RD c4 fl tx n σ μ) (hT : TK tx n sg σ μ) (h2 : μ 100 2 = 0) : ∃ (b : Int) (τ ν : xM), (b = 0 ∨ b = 1) ∧ (∀ d, Ev X (d + 6) 166 0 [some (vr 1), some (vc k1)] [] SH σ = some (some (vi b), SH, τ)) ∧ (∀ d, Ev X (d + 2) 204 0 [some (vr 100), some (vl K), none] [] SH μ = some (none, SH, ν)) ∧ chg [] CT σ τ ∧ chg [] CM μ ν ∧ (b = 1 → TK tx n sg τ ν ∧ ν 100 2 = 0 ∧ σ 1 6 + wd.length ≤ τ 1 6) ∧ (b = 0 → FL τ ν) := by
  obtain ⟨b, b1, b2, b3, b4⟩ := tk_w hk ha hl hv hS hD hT
  rw [← hK] at b3
  have st : ∀ d, Ev X (d + 2) 204 0 [some (vr 100), some (vl K), none] [] SH μ = Ev X (d + 2) 204 13 [some (vr 100), some (vl K), none] [vi b] SH μ := by
    intro d
    rw [b204_0, if_pos (by omega)]
    refine Eq.trans b204_8 ?_
    refine x_bind s205 ?_
    rw [b3]
    rfl
  have sc : ∀ d, Ev X (d + 6) 166 0 [some (vr 1), some (vc k1)] [] SH σ = Ev X (d + 6) 166 5 [some (vr 1), some (vc k1)] [vi b] SH σ := by
    intro d
    refine Eq.trans b166_0 ?_
    refine x_bind (b2 _) ?_
    rfl
  rcases b1 with rfl | rfl
  · obtain ⟨r1, r2, r3, r4⟩ := tk_rf hS hT h2
    refine ⟨0, g168 σ, g206 μ 2, Or.inl rfl, fun d => ?_, fun d => ?_, r3, r4, fun z => absurd z (by decide), fun _ => r2⟩
    · rw [sc, b166_5, if_neg (by decide)]
      refine Eq.trans b166_8 ?_
      refine x_bind s168 ?_
      rw [r1]
      exact b166_12 (Or.inl rfl)
    · rw [st, b204_13, if_neg (by decide)]
      refine Eq.trans b204_16 ?_
      refine x_bind s206 ?_
      dsimp only
      refine Eq.trans b204_21 ?_
      exact b204_28
  · obtain ⟨b5, b6⟩ := b4 rfl
    obtain ⟨e, e1, e2, e3, e4⟩ := TK_nx hT (by omega)
    obtain ⟨τ, ν, t1, t2, t3, t4, t5, t6⟩ := tk_adv hS hD e1 e2 e3 (TK_kf hT)
    refine ⟨1, τ, ν, Or.inr rfl, fun d => ?_, fun d => ?_, chgT t3, chgM t4, fun _ => ⟨t5, ?_, by omega⟩, fun z => absurd z (by decide)⟩
    · rw [sc, b166_5, if_pos (by decide)]
      refine Eq.trans b166_13 ?_
      refine x_bind (t1 _) ?_
      exact b166_17
    · rw [st, b204_13, if_pos (by decide)]
      refine Eq.trans b204_24 ?_
      refine x_bind (t2 _) ?_
      exact b204_28
    · rw [← h2]
      exact chg_at t4 rfl rfl
/-- a number is wanted -/
theorem tk_n {lo hi : Int} (hS : RS X sg c4 fl tx n) (hT : TK tx n sg σ μ) (h2 : μ 100 2 = 0) : ∃ (b v : Int) (τ ν : xM), (b = 0 ∨ b = 1) ∧ (∀ d, Ev X (d + 2) 67 0 [some (vr 3), some (vi lo), some (vi hi)] [] SH σ = some (some (vi b), SH, τ)) ∧ (∀ d, Ev X (d + 1) 207 0 [some (vr 100), some (vi lo), some (vi hi)] [] SH μ = some (some (vi v), SH, ν)) ∧ chg [] CT σ τ ∧ chg [] CM μ ν ∧ (b = 1 → τ = σ ∧ ν = μ ∧ σ 1 5 = 2 ∧ v = σ 1 8 ∧ lo ≤ v ∧ v ≤ hi) ∧ (b = 0 → FL τ ν) := by
  have t : σ 1 5 = 2 ↔ μ 100 6 = 2 := by
    obtain ⟨a1, a2, a3, a4, a5⟩ := hS
    obtain ⟨q, e, h6, h7, h8, hq, he, hT⟩ := hT
    rcases hT with c | c | c | c | c
    · omega
    · omega
    · omega
    · have := a3 _ c.2.2.2
      omega
    · omega
  have p : σ 1 6 = μ 100 7 := by
    obtain ⟨q, e, h6, h7, h8⟩ := hT
    rw [h6, h7]
  have v8 : σ 1 5 = 2 → σ 1 8 = μ 100 8 := by
    intro z
    obtain ⟨q, e, h6, h7, h8, hq, he, hT⟩ := hT
    rcases hT with c | c | c | c | c
    · omega
    · omega
    · exact c.2.2.2
    · omega
    · omega
  have lz : μ 100 2 ≤ 0 := by omega
  by_cases y : σ 1 5 = 2
  · have y' := t.mp y
    have y3 : μ 100 6 ≠ 3 := by omega
    by_cases g : lo ≤ σ 1 8 ∧ σ 1 8 ≤ hi
    · have g1 : ¬ σ 1 8 < lo := by omega
      refine ⟨1, σ 1 8, σ, μ, Or.inr rfl, fun d => ?_, fun d => ?_, chg_rf, chg_rf, fun _ => ⟨rfl, rfl, y, rfl, g.1, g.2⟩, fun z => absurd z (by decide)⟩
      · rw [s67]
        unfold f67 g67
        rw [if_pos y, if_pos y, if_neg g1, if_neg g1, if_pos g.2, if_pos g.2]
      · rw [s207]
        unfold f207 g207
        rw [← v8 y, if_pos lz, if_pos lz, if_pos y', if_pos y', if_neg g1, if_neg g1, if_pos g.2, if_pos g.2]
    · have fm : g207 μ lo hi = g206 μ 4 := by
        unfold g207
        rw [← v8 y, if_pos lz, if_pos y']
        by_cases g1 : σ 1 8 < lo
        · rw [if_pos g1]
        · rw [if_neg g1, if_neg (by omega)]
      have fc : f67 σ lo hi = 0 ∧ g67 σ lo hi = g169 σ 4 (σ 1 6) := by
        unfold f67 g67 f169
        rw [if_pos y, if_pos y]
        by_cases g1 : σ 1 8 < lo
        · rw [if_pos g1, if_pos g1]; exact ⟨rfl, rfl⟩
        · rw [if_neg g1, if_neg g1, if_neg (by omega), if_neg (by omega)]; exact ⟨rfl, rfl⟩
      have gm : g206 μ 4 = xwr (xwr μ 100 2 4) 100 3 (μ 100 7) := by
        unfold g206
        rw [if_pos lz, if_pos y3]
      refine ⟨0, f207 μ lo hi, g169 σ 4 (σ 1 6), xwr (xwr μ 100 2 4) 100 3 (μ 100 7), Or.inl rfl, fun d => ?_, fun d => ?_, ?_, ?_, fun z => absurd z (by decide), fun _ => ⟨?_, ?_, ?_⟩⟩
      · rw [s67, fc.1, fc.2]
      · rw [s207, fm, gm]
      · unfold g169
        exact chg_wr rfl (chg_wr rfl chg_rf)
      · exact chg_wr rfl (chg_wr rfl chg_rf)
      · unfold g169
        rw [xwr_nj (by decide), xwr_eq, xwr_nj (by decide), xwr_eq]
      · unfold g169
        rw [xwr_eq, xwr_eq, p]
      · rw [xwr_nj (by decide), xwr_eq]; decide
  · have y' : ¬ μ 100 6 = 2 := fun z => y (t.mpr z)
    obtain ⟨r1, r2, r3, r4⟩ := tk_rf hS hT h2
    refine ⟨0, f207 μ lo hi, g168 σ, g206 μ 2, Or.inl rfl, fun d => ?_, fun d => ?_, r3, r4, fun z => absurd z (by decide), fun _ => r2⟩
    · rw [s67]
      unfold f67 g67
      rw [if_neg y, if_neg y, r1]
    · rw [s207]
      unfold g207
      rw [if_pos lz, if_neg y']
end RDR

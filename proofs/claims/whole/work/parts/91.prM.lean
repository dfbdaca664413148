/-! FORMS: the pair -/
section PRM
variable {X : Nat × (Nat → Int)} {σ τ : xM}
theorem dtr {o o' : Option (Option xV × List xSh × xM)} {a b : Int} {ρ : xM} (e : o = some (some (vi a), SH, τ)) (e' : o = some (some (vi b), SH, ρ)) : a = b ∧ τ = ρ := by
  have h := e.symm.trans e'
  injection h with h
  injection h with h1 h2
  injection h2 with h2 h3
  injection h1 with h1
  injection h1 with h1
  injection h1 with h1
  exact ⟨h1, h3⟩
theorem nz_cg {w v : Nat → Int} (e : ∀ i, i < 20 → w i = v i) : ∀ k, k ≤ 20 → nz w k = nz v k
  | 0, _ => rfl
  | k + 1, hk => by
    rw [nz, nz, nz_cg e k (by omega), e k (by omega)]
theorem WF_cg {w v : Nat → Int} (e : ∀ i, i < 20 → w i = v i) (h : WF w) : WF v := by
  refine ⟨fun i hi => ?_, fun g hg => ?_, fun i j hi hj => ?_⟩
  · rw [← e i hi]
    exact h.1 i hi
  · rw [← e _ (by omega)]
    exact h.2.1 g hg
  · rw [← e i hi, ← e j hj]
    exact h.2.2 i j hi hj
theorem FC_cg {w v ls dg ix : Nat → Int} {cnt : Int} (e : ∀ i, i < 20 → w i = v i) (h : FC w cnt ls dg ix) : FC v cnt ls dg ix := by
  obtain ⟨h1, h2, h3⟩ := h
  refine ⟨by rw [h1, nz_cg e 20 (by omega)], fun i hi => ?_, fun b hb hn => h3 b hb (fun i hi => by rw [e i hi]; exact hn i hi)⟩
  rw [← e i hi, ← nz_cg e i (by omega)]
  exact h2 i hi
theorem Gru_cg {w v g : Nat → Int} (e : ∀ i, i < 20 → w i = v i) (h : Gru w g) : Gru v g := by
  have k : isWy w = isWy v := funext (fun b => propext ⟨fun ⟨a, i, b, c⟩ => ⟨a, i, b, by rw [← e i b]; exact c⟩, fun ⟨a, i, b, c⟩ => ⟨a, i, b, by rw [e i b]; exact c⟩⟩)
  unfold Gru at h ⊢
  rw [← k]
  exact h
theorem RW_0 {cn cn' : Int} {fg bt fg' bt' : Nat → Int} (e : cn = 0) (e' : cn' = 0) : RW cn fg bt cn' fg' bt' := ⟨by omega, by omega, by omega, fun c hc => by omega⟩
theorem pr_forms (h : Core σ) : Pair X 4 196 [some (vr 0), none] [some (vr 100), none, none] σ (Post σ) := by
  have h' := h
  obtain ⟨⟨t1, t2, t3, t4, t5, t6, t7⟩, h2, h3, h4, h5, h6, h7, h8, h9, h10⟩ := h'
  obtain ⟨n, hn⟩ : ∃ n : Nat, σ 1 1 = n := ⟨(σ 1 1).toNat, by omega⟩
  have fk := fun (μ : xM) (q1 : μ 101 = σ 101) (q2 : μ 100 1 = σ 100 1) (q3 : μ 104 = σ 104) => tk_forms (X := X) (σ := σ) (μ := μ) (n := n) (tx := σ 2) rfl (by rw [q1, t1]) hn (by rw [q2, t5, hn]) (by omega) t2 (by rw [q3]; exact h10.2)
  rcases fk σ rfl rfl rfl with ⟨τ, _, a1, _, a3, _⟩ | ⟨j, τ, _, w, a0, a1, _, a3, _, _, _, _, _, a4, a5, a6, a7, a8, a9⟩
  · have c1 : chg [5, 103, 105, 106] [(1, 1), (1, 2), (1, 3), (1, 4), (1, 5), (1, 6), (1, 7), (1, 8), (100, 1), (100, 2), (100, 3), (100, 4), (100, 5), (100, 6), (100, 7), (100, 8), (100, 9), (100, 10)] σ (xwr τ 1 1 0) := chg_wr rfl (chg_mo (by decide) a3)
    rcases fk (xwr τ 1 1 0) (by rw [xwr_row (by decide), chg_row a3 (fun _ => rfl) rfl]) (by rw [xwr_nk (by decide), chg_at a3 rfl rfl]) (by rw [xwr_row (by decide), chg_row a3 (fun _ => rfl) rfl]) with ⟨τ', ν, b1, b2, b3, b4, b5, b6⟩ | ⟨j, τ', ν, w, b0, b1, _⟩
    · obtain ⟨_, rfl⟩ := dtr (o' := none) (a1 0) (b1 0)
      have c : chg [5, 103, 105, 106] [(1, 1), (1, 2), (1, 3), (1, 4), (1, 5), (1, 6), (1, 7), (1, 8), (100, 1), (100, 2), (100, 3), (100, 4), (100, 5), (100, 6), (100, 7), (100, 8), (100, 9), (100, 10)] σ ν := chg_tr c1 (chg_mo (by decide) b4)
      refine ⟨-1, xwr τ 1 1 0, ν, fun d => ?_, fun d => b2 (d + 96), Core_chg h c (Or.inr ?_) (Or.inl rfl) (Or.inl rfl) (Or.inl rfl) (Or.inl rfl) (Or.inl rfl) (Or.inl rfl) (Or.inl rfl) (Or.inl rfl) (Or.inl rfl), Or.inl (eqp_ok rfl c), Or.inl (eqp_ok rfl c)⟩
      · refine Eq.trans b4_0 ?_
        refine x_bind (a1 (d + 91)) ?_
        dsimp only
        refine Eq.trans b4_7 ?_
        rw [if_neg (by decide), b4_21]
      · unfold Ctape
        have d1 : ν 1 1 = 0 := by rw [chg_at b4 rfl rfl, xwr_eq]
        have d2 : ν 1 2 = τ 1 2 := by rw [chg_at b4 rfl rfl, xwr_nj (by decide)]
        have d3 : ν 1 3 = τ 1 3 := by rw [chg_at b4 rfl rfl, xwr_nj (by decide)]
        rw [chg_row c (k := 2) (fun _ => rfl) rfl, chg_row c (k := 101) (fun _ => rfl) rfl, d1, d2, d3, b6, b5.1, b5.2.1]
        exact ⟨t1, t2, by omega, by omega, rfl, rfl, rfl⟩
    · have := (dtr (o' := none) (a1 0) (b1 0)).1
      omega
  · have e3 := s5' (X := X) (σ := xwr (xwr (xwr (xwr (xwr (xwr τ 1 1 0) 23 0 0) 26 0 0) 32 0 0) 35 0 0) 38 0 0)
    generalize hσ1 : xwr (xwr (xwr (xwr (xwr (xwr (xwr (xwr (xwr (xwr (xwr (xwr (xwr τ 1 1 0) 23 0 0) 26 0 0) 32 0 0) 35 0 0) 38 0 0) 47 1 0) 47 2 0) 41 1 0) 49 3 (-1)) 49 7 0) 70 6 0) 70 9 (-1) = σ1 at e3
    have cS : chg [] [(1, 1), (23, 0), (26, 0), (32, 0), (35, 0), (38, 0), (47, 1), (47, 2), (41, 1), (49, 3), (49, 7), (70, 6), (70, 9)] τ σ1 := by
      rw [← hσ1]
      exact chg_wr rfl (chg_wr rfl (chg_wr rfl (chg_wr rfl (chg_wr rfl (chg_wr rfl (chg_wr rfl (chg_wr rfl (chg_wr rfl (chg_wr rfl (chg_wr rfl (chg_wr rfl (chg_wr rfl chg_rf))))))))))))
    have v11 : σ1 1 1 = 0 := by rw [← hσ1]; simp (disch := decide) only [xwr_nk, xwr_nj, xwr_eq]
    have v23 : σ1 23 0 = 0 := by rw [← hσ1]; simp (disch := decide) only [xwr_nk, xwr_nj, xwr_eq]
    have v26 : σ1 26 0 = 0 := by rw [← hσ1]; simp (disch := decide) only [xwr_nk, xwr_nj, xwr_eq]
    have v32 : σ1 32 0 = 0 := by rw [← hσ1]; simp (disch := decide) only [xwr_nk, xwr_nj, xwr_eq]
    have v35 : σ1 35 0 = 0 := by rw [← hσ1]; simp (disch := decide) only [xwr_nk, xwr_nj, xwr_eq]
    have v38 : σ1 38 0 = 0 := by rw [← hσ1]; simp (disch := decide) only [xwr_nk, xwr_nj, xwr_eq]
    have v41 : σ1 41 1 = 0 := by rw [← hσ1]; simp (disch := decide) only [xwr_nk, xwr_nj, xwr_eq]
    have v471 : σ1 47 1 = 0 := by rw [← hσ1]; simp (disch := decide) only [xwr_nk, xwr_nj, xwr_eq]
    have v472 : σ1 47 2 = 0 := by rw [← hσ1]; simp (disch := decide) only [xwr_nk, xwr_nj, xwr_eq]
    have v493 : σ1 49 3 = -1 := by rw [← hσ1]; simp (disch := decide) only [xwr_nk, xwr_nj, xwr_eq]
    have v497 : σ1 49 7 = 0 := by rw [← hσ1]; simp (disch := decide) only [xwr_nk, xwr_nj, xwr_eq]
    have v706 : σ1 70 6 = 0 := by rw [← hσ1]; simp (disch := decide) only [xwr_nk, xwr_nj, xwr_eq]
    have v709 : σ1 70 9 = -1 := by rw [← hσ1, xwr_eq]
    rcases fk σ1 (by rw [chg_row cS (fun _ => rfl) rfl, chg_row a3 (fun _ => rfl) rfl]) (by rw [chg_at cS rfl rfl, chg_at a3 rfl rfl]) (by rw [chg_row cS (fun _ => rfl) rfl, chg_row a3 (fun _ => rfl) rfl]) with ⟨τ', ν, b1, _⟩ | ⟨j', τ', ν, w', b0, b1, b2, b3, b4, b5, b6, b7, b8, b9, b10, b11, b12, b13, b14⟩
    · have := (dtr (o' := none) (a1 0) (b1 0)).1
      omega
    · obtain ⟨jj, rfl⟩ := dtr (o' := none) (a1 0) (b1 0)
      have cm : chg [140] [(100, 16), (100, 17), (100, 59), (100, 69), (100, 70)] ν (mclr ν) := by
        unfold mclr
        exact chg_wr rfl (chg_wr rfl (chg_wr rfl (chg_wr rfl (chg_wr rfl (chg_wr rfl (chg_wr rfl (chg_wr rfl chg_rf)))))))
      have m16 : mclr ν 100 16 = 0 := by unfold mclr; simp (disch := decide) only [xwr_nk, xwr_nj, xwr_eq]
      have m17 : mclr ν 100 17 = 0 := by unfold mclr; simp (disch := decide) only [xwr_nk, xwr_nj, xwr_eq]
      have m59 : mclr ν 100 59 = 0 := by unfold mclr; simp (disch := decide) only [xwr_nk, xwr_nj, xwr_eq]
      have m69 : mclr ν 100 69 = 0 := by unfold mclr; simp (disch := decide) only [xwr_nk, xwr_nj, xwr_eq]
      have m70 : mclr ν 100 70 = 0 := by unfold mclr; simp (disch := decide) only [xwr_nk, xwr_nj, xwr_eq]
      have m0 : mclr ν 140 0 = 0 := by unfold mclr; simp (disch := decide) only [xwr_nk, xwr_nj, xwr_eq]
      have m1 : mclr ν 140 1 = 0 := by unfold mclr; simp (disch := decide) only [xwr_nk, xwr_nj, xwr_eq]
      have m2 : mclr ν 140 2 = 0 := by unfold mclr; simp (disch := decide) only [xwr_nk, xwr_nj, xwr_eq]
      have cf : chg [102, 103, 105, 106, 140] [(100, 1), (100, 2), (100, 3), (100, 4), (100, 5), (100, 6), (100, 7), (100, 8), (100, 9), (100, 10), (100, 16), (100, 17), (100, 59), (100, 69), (100, 70)] σ1 (mclr ν) := chg_tr (chg_mo (by decide) b4) (chg_mo (by decide) cm)
      have c : chg [4, 5, 6, 7, 8, 9, 102, 103, 105, 106, 140] [(1, 2), (1, 3), (1, 4), (1, 5), (1, 6), (1, 7), (1, 8), (3, 5), (1, 1), (23, 0), (26, 0), (32, 0), (35, 0), (38, 0), (47, 1), (47, 2), (41, 1), (49, 3), (49, 7), (70, 6), (70, 9), (100, 1), (100, 2), (100, 3), (100, 4), (100, 5), (100, 6), (100, 7), (100, 8), (100, 9), (100, 10), (100, 16), (100, 17), (100, 59), (100, 69), (100, 70)] σ (mclr ν) := chg_tr (chg_mo (by decide) a3) (chg_tr (chg_mo (by decide) cS) (chg_mo (by decide) cf))
      have f102 : mclr ν 102 = ν 102 := chg_row cm (fun _ => rfl) rfl
      refine ⟨j, σ1, mclr ν, fun d => ?_, fun d => by rw [jj]; exact b2 (d + 96), ?_, Or.inr ?_, Or.inr ?_⟩
      · refine Eq.trans b4_0 ?_
        refine x_bind (a1 (d + 91)) ?_
        dsimp only
        refine Eq.trans b4_7 ?_
        rw [if_pos (by omega)]
        refine Eq.trans b4_23 ?_
        refine x_bind (e3 (d + 97)) ?_
        exact b4_67
      · refine Core_chg h c (Or.inr ?_) (Or.inr ?_) (Or.inl rfl) (Or.inr ?_) (Or.inr ?_) (Or.inr ?_) (Or.inr ?_) (Or.inr ?_) (Or.inl rfl) (Or.inl rfl)
        · unfold Ctape
          have d1 : mclr ν 1 1 = 0 := by rw [chg_at cf rfl rfl]; exact v11
          have d2 : mclr ν 1 2 = 0 := by rw [chg_at cf rfl rfl, chg_at cS rfl rfl]; exact b13
          have d3 : mclr ν 1 3 = -1 := by rw [chg_at cf rfl rfl, chg_at cS rfl rfl]; exact b14
          rw [chg_row c (k := 2) (fun _ => rfl) rfl, chg_row c (k := 101) (fun _ => rfl) rfl, d1, d2, d3, chg_at cm (k := 100) (j := 1) rfl rfl, chg_at cm (k := 100) (j := 2) rfl rfl, chg_at cm (k := 100) (j := 3) rfl rfl, b6, b7, b8]
          exact ⟨t1, t2, by omega, by omega, rfl, rfl, rfl⟩
        · unfold Cform
          have r : ∀ i, i < 20 → w' i = mclr ν 102 i := fun i hi => by rw [f102, b5 i hi]
          have k4 : mclr ν 4 = τ 4 := by rw [chg_row cf (fun _ => rfl) rfl, chg_row cS (fun _ => rfl) rfl]
          have k6 : mclr ν 6 = τ 6 := by rw [chg_row cf (fun _ => rfl) rfl, chg_row cS (fun _ => rfl) rfl]
          have k7 : mclr ν 7 = τ 7 := by rw [chg_row cf (fun _ => rfl) rfl, chg_row cS (fun _ => rfl) rfl]
          have k8 : mclr ν 8 = τ 8 := by rw [chg_row cf (fun _ => rfl) rfl, chg_row cS (fun _ => rfl) rfl]
          have k9 : mclr ν 9 = τ 9 := by rw [chg_row cf (fun _ => rfl) rfl, chg_row cS (fun _ => rfl) rfl]
          have k35 : mclr ν 3 5 = τ 3 5 := by rw [chg_at cf rfl rfl, chg_at cS rfl rfl]
          rw [k4, k6, k7, k8, k9, k35]
          exact ⟨fun i hi => (b9 i hi).trans (r i hi), WF_cg r b10, FC_cg r b11, Gru_cg r b12⟩
        · exact RW_0 ((chg_at cf rfl rfl).trans v23) m16
        · exact RW_0 ((chg_at cf rfl rfl).trans v26) m17
        · exact ⟨RW_0 ((chg_at cf rfl rfl).trans v32) m0, RW_0 ((chg_at cf rfl rfl).trans v35) m1, RW_0 ((chg_at cf rfl rfl).trans v38) m2⟩
        · obtain ⟨s1, s2, s3, s4⟩ := h7
          have z1 : mclr ν 41 1 = 0 := (chg_at cf rfl rfl).trans v41
          unfold Csee
          rw [chg_at c (k := 41) (j := 0) rfl rfl, chg_at c (k := 100) (j := 60) rfl rfl, z1, m59]
          exact ⟨s1, s2, s3, by omega, by omega, rfl, fun i hi => by omega⟩
        · have z1 : mclr ν 47 1 = 0 := (chg_at cf rfl rfl).trans v471
          have z2 : mclr ν 47 2 = 0 := (chg_at cf rfl rfl).trans v472
          unfold Cact
          rw [z1, z2, m69, m70]
          exact ⟨by omega, by omega, by omega, rfl, by omega, fun i hi => by omega⟩
      · exact ⟨(chg_at cf rfl rfl).trans v493, (chg_at cf rfl rfl).trans v497⟩
      · exact ⟨(chg_at cf rfl rfl).trans v706, (chg_at cf rfl rfl).trans v709⟩
end PRM

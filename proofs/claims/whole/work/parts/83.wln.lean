/-! THE FORMS' TEXT, line by line -/
section WLN
variable {X : Nat × (Nat → Int)} {σ μ τ ν : xM} {sg : Int → Bool} {c4 n : Nat} {fl : Int} {tx : Nat → Int} {o1 : Option xV}
theorem TK_cm {k j : Nat} {x : Int} (hk : 100 ≠ k) (h : TK tx n sg σ μ) : TK tx n sg σ (xwr μ k j x) := by
  unfold TK KF at h ⊢
  simp only [xwr_nk hk]
  exact h
/-- what a line leaves behind, from the figure's number on -/
theorem tk_fig {k : Nat} (hk : k < 10) (z5 : σ 5 (2 * k) = 0) (z6 : σ 5 (2 * k + 1) = 0) (hF : FT σ μ) (hS : RS X sg c4 fl tx n) (hD : RD c4 fl tx n σ μ) (hT : TK tx n sg σ μ) (h2 : μ 100 2 = 0) : ∃ (b v w : Int) (τ ν : xM), (b = 0 ∨ b = 1) ∧ (∀ d, Ev X (d + 7) 66 76 [some (vr 3), some (vi k)] [] SH σ = some (some (vi b), SH, τ)) ∧ (∀ d, Ev X (d + 3) 203 48 [some (vr 100), some (vi k)] [] SH μ = some (none, SH, ν)) ∧ chg [5] CT σ τ ∧ chg [103, 105, 106] CM μ ν ∧ (b = 1 → TK tx n sg τ ν ∧ ν 100 2 = 0 ∧ FT τ ν ∧ (1 ≤ v ∧ v ≤ 127) ∧ (0 ≤ w ∧ w ≤ 127) ∧ (∀ j, τ 5 j = if j = 2 * k + 1 then w else if j = 2 * k then v else σ 5 j) ∧ (∀ j, ν 103 j = if j = 2 * k + 1 then w else if j = 2 * k then v else μ 103 j) ∧ (∀ j, ν 105 j = if j = k then 1 else μ 105 j) ∧ σ 1 6 ≤ τ 1 6) ∧ (b = 0 → FL τ ν) := by
  have xk : xmul 2 (k : Int) = ((2 * k : Nat) : Int) := by
    rw [xmul_eq (by omega) (by omega)]
    omega
  have xk1 : xadd ((2 * k : Nat) : Int) 1 = ((2 * k + 1 : Nat) : Int) := by
    rw [xadd_eq (by omega) (by omega)]
    omega
  have hT1 : TK tx n sg σ (xwr μ 105 k 1) := TK_cm (by decide) hT
  have hD1 : RD c4 fl tx n σ (xwr μ 105 k 1) := RD_chg hD chg_rf (chg_wr rfl chg_rf)
  have h21 : (xwr μ 105 k 1) 100 2 = 0 := by rw [xwr_nk (by decide)]; exact h2
  obtain ⟨b, τ, ν, b0, b1, b2, b3, b4, b5, b6⟩ := tk_p (X := X) (k1 := 13) (wd := [97, 115]) (K := 24947) (by decide) rfl (by decide) (by decide +kernel) rfl hS hD1 hT1 h21
  have sc : ∀ d, Ev X (d + 7) 66 76 [some (vr 3), some (vi k)] [] SH σ = Ev X (d + 7) 66 85 [some (vr 3), some (vi k)] [vi b] SH τ := by
    intro d
    refine Eq.trans b66_76 ?_
    refine x_bind (b1 d) ?_
    rfl
  have sm : ∀ d, Ev X (d + 3) 203 48 [some (vr 100), some (vi k)] [] SH μ = Ev X (d + 3) 203 62 [some (vr 100), some (vi k)] [] SH ν := by
    intro d
    refine Eq.trans (b203_48 (by omega)) ?_
    rw [Int.toNat_natCast]
    refine x_bind (b2 d) ?_
    rfl
  have cM1 : chg [103, 105, 106] CM μ ν := chg_tr (chg_wr rfl chg_rf) (chg_mo (by decide) b4)
  have st73 : ∀ d (v : Int) (ρ : xM), Ev X (d + 3) 203 73 [some (vr 100), some (vi k)] [vi v, vi (xmul 2 (k : Int)), vr 103] SH ρ = if ρ 100 2 ≠ 0 then Ev X (d + 3) 203 120 [some (vr 100), some (vi k)] [] SH (xwr (xwr ρ 103 (2 * k) v) 103 (2 * k + 1) 0) else Ev X (d + 3) 203 92 [some (vr 100), some (vi k)] [] SH (xwr (xwr ρ 103 (2 * k) v) 103 (2 * k + 1) 0) := by
    intro d v ρ
    rw [b203_73 (by rw [xk]; omega) (by rw [xk, xk1]; omega), xk, xk1, Int.toNat_natCast, Int.toNat_natCast]
  rcases b0 with rfl | rfl
  · have fl := b6 rfl
    have l0 := fl.2.2
    refine ⟨0, 0, 0, τ, xwr (xwr ν 103 (2 * k) 0) 103 (2 * k + 1) 0, Or.inl rfl, fun d => ?_, fun d => ?_, chg_mo (by decide) b3, chg_wr rfl (chg_wr rfl cM1), fun z => absurd z (by decide), fun _ => ?_⟩
    · rw [sc, b66_85, if_pos rfl, b66_98]
    · rw [sm]
      refine Eq.trans b203_62 ?_
      refine x_bind (dead208 l0 d) ?_
      refine Eq.trans (st73 d 0 ν) ?_
      rw [if_pos (by omega)]
      exact dead120 (by rw [xwr_nk (by decide), xwr_nk (by decide)]; exact l0) _
    · unfold FL
      rw [xwr_nk (by decide), xwr_nk (by decide), xwr_nk (by decide), xwr_nk (by decide)]
      exact fl
  · obtain ⟨t5, t2, t6⟩ := b5 rfl
    have r5 : τ 5 = σ 5 := chg_row b3 (fun j => rfl) rfl
    have r3 : ν 103 = μ 103 := (chg_row b4 (fun j => rfl) rfl).trans (xwr_row (by decide))
    have r6 : ν 106 = μ 106 := (chg_row b4 (fun j => rfl) rfl).trans (xwr_row (by decide))
    have r1 : ∀ j, ν 105 j = if j = k then 1 else μ 105 j := by
      intro j
      rw [chg_row b4 (fun j => rfl) rfl, xwr_rw]
    have hD2 : RD c4 fl tx n τ ν := RD_chg hD (chg_mo (by decide) b3) cM1
    obtain ⟨b, v, τ2, ν2, w0, w1, w2, w3, w4, w5, w6⟩ := tk_way (X := X) (a := 2 * k) (σ := τ) (μ := ν) (by omega) (by rw [r5]; exact z5) hS hD2 t5 t2 (by unfold FT; rw [r5, r6]; exact hF)
    have sc2 : ∀ d, Ev X (d + 7) 66 76 [some (vr 3), some (vi k)] [] SH σ = Ev X (d + 7) 66 95 [some (vr 3), some (vi k)] [vi b] SH τ2 := by
      intro d
      rw [sc, b66_85, if_neg (by decide)]
      refine Eq.trans b66_88 ?_
      rw [xk]
      refine x_bind (w1 d) ?_
      rfl
    have sm2 : ∀ d, Ev X (d + 3) 203 48 [some (vr 100), some (vi k)] [] SH μ = if ν2 100 2 ≠ 0 then Ev X (d + 3) 203 120 [some (vr 100), some (vi k)] [] SH (xwr (xwr ν2 103 (2 * k) v) 103 (2 * k + 1) 0) else Ev X (d + 3) 203 92 [some (vr 100), some (vi k)] [] SH (xwr (xwr ν2 103 (2 * k) v) 103 (2 * k + 1) 0) := by
      intro d
      rw [sm]
      refine Eq.trans b203_62 ?_
      refine x_bind (w2 d) ?_
      exact st73 d v ν2
    have c1 : chg [5] CT σ τ2 := chg_tr (chg_mo (by decide) b3) w3
    have c2 : chg [103, 105, 106] CM μ (xwr (xwr ν2 103 (2 * k) v) 103 (2 * k + 1) 0) := chg_wr rfl (chg_wr rfl (chg_tr cM1 (chg_mo (by decide) w4)))
    rcases w0 with rfl | rfl
    · have fl := w6 rfl
      have l0 := fl.2.2
      refine ⟨0, 0, 0, τ2, xwr (xwr ν2 103 (2 * k) v) 103 (2 * k + 1) 0, Or.inl rfl, fun d => ?_, fun d => ?_, c1, c2, fun z => absurd z (by decide), fun _ => ?_⟩
      · rw [sc2, b66_95, if_neg (by decide), b66_98]
      · rw [sm2, if_pos (by omega)]
        exact dead120 (by rw [xwr_nk (by decide), xwr_nk (by decide)]; exact l0) _
      · unfold FL
        rw [xwr_nk (by decide), xwr_nk (by decide), xwr_nk (by decide), xwr_nk (by decide)]
        exact fl
    · obtain ⟨x1, x2, x3, x4, x5, x6, x7⟩ := w5 rfl
      have hT3 : TK tx n sg τ2 (xwr (xwr ν2 103 (2 * k) v) 103 (2 * k + 1) 0) := TK_cm (by decide) (TK_cm (by decide) x1)
      have hD3 : RD c4 fl tx n τ2 (xwr (xwr ν2 103 (2 * k) v) 103 (2 * k + 1) 0) := RD_chg hD2 w3 (chg_wr rfl (chg_wr rfl (chg_mo (by decide) w4)))
      obtain ⟨b, w, τ3, ν3, y0, y1, y2, y3, y4, y5, y6⟩ := tk_or (X := X) (σ := τ2) (μ := xwr (xwr ν2 103 (2 * k) v) 103 (2 * k + 1) 0) hk (by rw [x3, if_neg (by omega), r5]; exact z6) xwr_eq (by unfold FT; rw [xwr_row (by decide), xwr_row (by decide)]; exact x6) hS hD3 hT3 (by rw [xwr_nk (by decide), xwr_nk (by decide)]; exact x2)
      refine ⟨b, v, w, τ3, ν3, y0, fun d => ?_, fun d => ?_, chg_tr c1 y3, chg_tr c2 (chg_mo (by decide) y4), fun z => ?_, y6⟩
      · rw [sc2, b66_95, if_pos (by decide)]
        exact y1 d
      · rw [sm2, if_neg (fun z => z x2)]
        exact y2 d
      · obtain ⟨p1, p2, p3, p4, p5, p6, p7⟩ := y5 z
        refine ⟨p1, p2, p3, ⟨x4, x5⟩, p4, fun j => ?_, fun j => ?_, fun j => ?_, by omega⟩
        · rw [p5, x3, r5]
        · rw [p6]
          by_cases g : j = 2 * k + 1
          · rw [if_pos g, if_pos g]
          · rw [if_neg g, if_neg g, xwr_nj g, xwr_rw]
            have v3 : ν2 103 = ν 103 := chg_row w4 (fun j => rfl) rfl
            rw [v3, r3]
        · rw [← r1]
          have v1 : ν2 105 = ν 105 := chg_row w4 (fun j => rfl) rfl
          rw [chg_row y4 (fun j => rfl) rfl, xwr_row (by decide), xwr_row (by decide), v1]
/-- a line -/
theorem tk_line (hF : FT σ μ) (hK : FK σ μ) (hS : RS X sg c4 fl tx n) (hD : RD c4 fl tx n σ μ) (hT : TK tx n sg σ μ) (h2 : μ 100 2 = 0) : ∃ (b : Int) (τ ν : xM), (b = 0 ∨ b = 1) ∧ (∀ d, Ev X (d + 7) 66 0 [some (vr 3), none] [] SH σ = some (some (vi b), SH, τ)) ∧ (∀ d, Ev X (d + 3) 203 0 [some (vr 100), none] [] SH μ = some (none, SH, ν)) ∧ chg [5] CT σ τ ∧ chg [103, 105, 106] CM μ ν ∧ (b = 1 → TK tx n sg τ ν ∧ ν 100 2 = 0 ∧ FT τ ν ∧ FK τ ν ∧ σ 1 6 < τ 1 6) ∧ (b = 0 → FL τ ν) := by
  obtain ⟨b, τ, ν, b0, b1, b2, b3, b4, b5, b6⟩ := tk_p (X := X) (k1 := 12) (wd := [100, 105, 103, 105, 116]) (K := 431265114484) (by decide) rfl (by decide) (by decide +kernel) rfl hS hD hT h2
  rcases b0 with rfl | rfl
  · have fl := b6 rfl
    have l0 := fl.2.2
    refine ⟨0, τ, ν, Or.inl rfl, fun d => ?_, fun d => ?_, chg_mo (by decide) b3, chg_mo (by decide) b4, fun z => absurd z (by decide), fun _ => fl⟩
    · refine Eq.trans b66_0 ?_
      refine x_bind (b1 d) ?_
      dsimp only
      refine Eq.trans b66_9 ?_
      rw [if_pos rfl, b66_22]
    · refine Eq.trans b203_0 ?_
      refine x_bind (b2 d) ?_
      dsimp only
      refine Eq.trans b203_7 ?_
      refine x_bind s207 ?_
      unfold f207 g207
      rw [if_neg (by omega), if_neg (by omega)]
      dsimp only
      refine Eq.trans b203_14 ?_
      rw [if_pos (by omega), b203_36, if_neg (by omega), b203_43]
  · obtain ⟨t5, t2, t6⟩ := b5 rfl
    have t6 : σ 1 6 < τ 1 6 := by
      have : ([100, 105, 103, 105, 116] : List Int).length = 5 := rfl
      omega
    have r5 : τ 5 = σ 5 := chg_row b3 (fun j => rfl) rfl
    have r3 : ν 103 = μ 103 := chg_row b4 (fun j => rfl) rfl
    have r4 : ν 105 = μ 105 := chg_row b4 (fun j => rfl) rfl
    have r6 : ν 106 = μ 106 := chg_row b4 (fun j => rfl) rfl
    have hD1 : RD c4 fl tx n τ ν := RD_chg hD (chg_mo (by decide) b3) (chg_mo (by decide) b4)
    obtain ⟨b, v, τ1, ν1, w0, w1, w2, w3, w4, w5, w6⟩ := tk_n (X := X) (lo := 0) (hi := 9) hS t5 t2
    have sc : ∀ d, Ev X (d + 7) 66 0 [some (vr 3), none] [] SH σ = Ev X (d + 7) 66 19 [some (vr 3), none] [vi b] SH τ1 := by
      intro d
      refine Eq.trans b66_0 ?_
      refine x_bind (b1 d) ?_
      dsimp only
      refine Eq.trans b66_9 ?_
      rw [if_neg (by decide)]
      refine Eq.trans b66_12 ?_
      refine x_bind (w1 (d + 4)) ?_
      rfl
    have sm : ∀ d, Ev X (d + 3) 203 0 [some (vr 100), none] [] SH μ = Ev X (d + 3) 203 14 [some (vr 100), none] [vi v] SH ν1 := by
      intro d
      refine Eq.trans b203_0 ?_
      refine x_bind (b2 d) ?_
      dsimp only
      refine Eq.trans b203_7 ?_
      refine x_bind (w2 (d + 1)) ?_
      rfl
    rcases w0 with rfl | rfl
    · have fl := w6 rfl
      have l0 := fl.2.2
      refine ⟨0, τ1, ν1, Or.inl rfl, fun d => ?_, fun d => ?_, chg_mo (by decide) (chg_tr b3 w3), chg_mo (by decide) (chg_tr b4 w4), fun z => absurd z (by decide), fun _ => fl⟩
      · rw [sc, b66_19, if_neg (by decide), b66_22]
      · rw [sm, b203_14, if_pos (by omega), b203_36, if_neg (by omega), b203_43]
    · obtain ⟨e1, e2, e3, e4, e5, e6⟩ := w5 rfl
      subst e1 e2
      obtain ⟨k, hk⟩ : ∃ k : Nat, v = k := ⟨v.toNat, (Int.toNat_of_nonneg e5).symm⟩
      subst hk
      have hk : k < 10 := by omega
      have xk : xmul 2 (k : Int) = ((2 * k : Nat) : Int) := by
        rw [xmul_eq (by omega) (by omega)]
        omega
      have sc2 : ∀ d, Ev X (d + 7) 66 0 [some (vr 3), none] [] SH σ = if τ1 5 (2 * k) = 0 then Ev X (d + 7) 66 69 [some (vr 3), some (vi k)] [] SH τ1 else Ev X (d + 7) 66 53 [some (vr 3), some (vi k)] [] SH τ1 := by
        intro d
        rw [sc, b66_19, if_pos (by decide), b66_24, ← e4, if_neg (by omega), b66_36, if_neg (by omega), b66_42 (by rw [xk]; omega), xk, Int.toNat_natCast]
      have sm2 : ∀ d, Ev X (d + 3) 203 0 [some (vr 100), none] [] SH μ = if ν1 105 k = 0 then Ev X (d + 3) 203 36 [some (vr 100), some (vi k)] [] SH ν1 else Ev X (d + 3) 203 31 [some (vr 100), some (vi k)] [] SH ν1 := by
        intro d
        rw [sm, b203_14, if_neg (fun z => z t2), b203_22 (by omega), Int.toNat_natCast]
      have hk1 := hK k hk
      unfold FK1 at hk1
      rw [← r5, ← r3, ← r4] at hk1
      rcases hk1 with ⟨k1, k2, k3⟩ | ⟨k1, k2, k3, k4, _⟩
      · obtain ⟨e, n1, n2, n3, n4⟩ := TK_nx t5 (by omega)
        obtain ⟨τ2, ν2, a1, a2, a3, a4, a5, a6⟩ := tk_adv hS hD1 n1 n2 n3 (TK_kf t5)
        have q5 : τ2 5 = τ1 5 := chg_row a3 (fun j => rfl) rfl
        have q3 : ν2 103 = ν1 103 := chg_row a4 (fun j => rfl) rfl
        have q4 : ν2 105 = ν1 105 := chg_row a4 (fun j => rfl) rfl
        have q6 : ν2 106 = ν1 106 := chg_row a4 (fun j => rfl) rfl
        have hD2 : RD c4 fl tx n τ2 ν2 := RD_chg hD1 (chg_mo (by decide) a3) (chg_mo (by decide) a4)
        obtain ⟨b, v, w, τ3, ν3, g0, g1, g2, g3, g4, g5, g6⟩ := tk_fig (X := X) (σ := τ2) (μ := ν2) hk (by rw [q5]; exact k2) (by rw [q5]; exact k3) (by unfold FT; rw [q5, q6, r5, r6]; exact hF) hS hD2 a5 (by rw [← t2]; exact chg_at a4 rfl rfl)
        refine ⟨b, τ3, ν3, g0, fun d => ?_, fun d => ?_, chg_tr (chg_mo (by decide) b3) (chg_tr (chg_mo (by decide) a3) g3), chg_tr (chg_mo (by decide) b4) (chg_tr (chg_mo (by decide) a4) g4), fun z => ?_, g6⟩
        · rw [sc2, if_pos k2]
          refine Eq.trans b66_69 ?_
          refine x_bind (a1 (d + 1)) ?_
          exact g1 d
        · rw [sm2, if_pos k1, b203_36, if_pos (by omega)]
          refine Eq.trans b203_44 ?_
          refine x_bind (a2 (d + 1)) ?_
          exact g2 d
        · obtain ⟨p1, p2, p3, p4, p5, p6, p7, p8, p9⟩ := g5 z
          refine ⟨p1, p2, p3, fun j hj => ?_, by omega⟩
          unfold FK1
          rw [p6, p6, p7, p7, p8]
          by_cases y : j = k
          · subst y
            rw [if_pos rfl, if_neg (by omega), if_pos rfl, if_pos rfl, if_neg (by omega), if_pos rfl, if_pos rfl]
            exact Or.inr ⟨by decide, rfl, rfl, p4.1, p4.2, p5.1, p5.2⟩
          · rw [if_neg y, if_neg (by omega), if_neg (by omega), if_neg (by omega), if_neg (by omega), if_neg (by omega), if_neg (by omega), if_neg (by omega), if_neg (by omega), q5, q3, q4, r5, r3, r4]
            exact hK j hj
      · have m3 : ν1 100 6 ≠ 3 := by
          obtain ⟨q, e, h6, h7, h8, hq, he, hT⟩ := t5
          omega
        have p : τ1 1 6 = ν1 100 7 := by
          obtain ⟨q, e, h6, h7, h8⟩ := t5
          rw [h6, h7]
        have gm : g206 ν1 3 = xwr (xwr ν1 100 2 3) 100 3 (ν1 100 7) := by
          unfold g206
          rw [if_pos (by omega), if_pos m3]
        refine ⟨0, g169 τ1 3 (τ1 1 6), xwr (xwr ν1 100 2 3) 100 3 (ν1 100 7), Or.inl rfl, fun d => ?_, fun d => ?_, ?_, chg_wr rfl (chg_wr rfl (chg_mo (by decide) b4)), fun z => absurd z (by decide), fun _ => ⟨?_, ?_, ?_⟩⟩
        · rw [sc2, if_neg (by omega)]
          refine Eq.trans b66_53 ?_
          refine x_bind s169 ?_
          unfold f169
          exact b66_68 (Or.inl rfl)
        · rw [sm2, if_neg k1]
          refine Eq.trans b203_31 ?_
          refine x_bind s206 ?_
          rw [gm]
          dsimp only
          refine Eq.trans b203_36 ?_
          rw [xwr_nj (by decide), xwr_eq, if_neg (by decide), b203_43]
        · unfold g169
          exact chg_wr rfl (chg_wr rfl (chg_mo (by decide) b3))
        · unfold g169
          rw [xwr_nj (by decide), xwr_eq, xwr_nj (by decide), xwr_eq]
        · unfold g169
          rw [xwr_eq, xwr_eq, p]
        · rw [xwr_nj (by decide), xwr_eq]; decide
end WLN

/-! THE FORMS' TEXT, a line of it: the whole line -/
section WFL
variable {X : Nat × (Nat → Int)} {σ μ τ ν : xM} {sg : Int → Bool} {c4 n : Nat} {fl : Int} {tx : Nat → Int} {o1 : Option xV}
/-- a sign is wanted -/
theorem tk_sg {c : Int} (hc : 4 ≤ c) (hS : RS X sg c4 fl tx n) (hD : RD c4 fl tx n σ μ) (hT : TK tx n sg σ μ) (h2 : μ 100 2 = 0) : ∃ (b : Int) (τ ν : xM), (b = 0 ∨ b = 1) ∧ (∀ d, Ev X (d + 6) 170 0 [some (vr 1), some (vi c)] [] SH σ = some (some (vi b), SH, τ)) ∧ chg [] CT σ τ ∧ chg [] CM μ ν ∧ (b = 1 → μ 100 6 = c ∧ (∀ d, Ev X (d + 1) 198 0 [some (vr 100), none, none] [] SH μ = some (none, SH, ν)) ∧ TK tx n sg τ ν ∧ ν 100 2 = 0 ∧ σ 1 6 ≤ τ 1 6) ∧ (b = 0 → μ 100 6 ≠ c ∧ ν = g206 μ 2 ∧ FL τ ν) := by
  have t : (σ 1 5 = 3 ∧ σ 1 8 = c) ↔ μ 100 6 = c := by
    obtain ⟨q, e, h6, h7, h8, hq, he, hT⟩ := hT
    omega
  have sc : ∀ d, Ev X (d + 6) 170 0 [some (vr 1), some (vi c)] [] SH σ = Ev X (d + 6) 170 5 [some (vr 1), some (vi c)] [vi (f171 σ c)] SH σ := by
    intro d
    refine Eq.trans b170_0 ?_
    refine x_bind s171 ?_
    rfl
  by_cases y : σ 1 5 = 3 ∧ σ 1 8 = c
  · have f1 : f171 σ c = 1 := by
      unfold f171
      rw [if_neg (fun z => z y.1), if_neg (fun z => z y.2)]
    obtain ⟨e, e1, e2, e3, e4⟩ := TK_nx hT (by omega)
    obtain ⟨τ, ν, t1, t2, t3, t4, t5, t6⟩ := tk_adv hS hD e1 e2 e3 (TK_kf hT)
    refine ⟨1, τ, ν, Or.inr rfl, fun d => ?_, chgT t3, chgM t4, fun _ => ⟨t.mp y, t2, t5, ?_, by omega⟩, fun z => absurd z (by decide)⟩
    · rw [sc, f1, b170_5, if_pos (by decide)]
      refine Eq.trans b170_13 ?_
      refine x_bind (t1 _) ?_
      exact b170_17
    · rw [← h2]
      exact chg_at t4 rfl rfl
  · have f1 : f171 σ c = 0 := by
      unfold f171
      by_cases z : σ 1 5 = 3
      · rw [if_neg (fun w => w z), if_pos (fun w => y ⟨z, w⟩)]
      · rw [if_pos z]
    obtain ⟨r1, r2, r3, r4⟩ := tk_rf hS hT h2
    refine ⟨0, g168 σ, g206 μ 2, Or.inl rfl, fun d => ?_, r3, r4, fun z => absurd z (by decide), fun _ => ⟨fun z => y (t.mpr z), rfl, r2⟩⟩
    rw [sc, f1, b170_5, if_neg (by decide)]
    refine Eq.trans b170_8 ?_
    refine x_bind s168 ?_
    rw [r1]
    exact b170_12 (Or.inl rfl)
theorem dead120 (h : 0 < ν 100 2) : ∀ d, Ev X d 203 120 [some (vr 100), o1] [] SH ν = some (none, SH, ν) := by
  intro d
  rw [b203_120, if_pos (by omega), b203_141, if_pos (by omega), b203_152]
theorem dead208 (h : 0 < ν 100 2) : ∀ d, Ev X (d + 2) 208 0 [some (vr 100), none] [] SH ν = some (some (vi 0), SH, ν) := by
  intro d
  refine Eq.trans b208_0 ?_
  refine x_bind s207 ?_
  unfold f207 g207
  rw [if_neg (by omega), if_neg (by omega)]
  dsimp only
  refine Eq.trans b208_7 ?_
  rw [if_pos (by omega), b208_29, if_neg (by omega), b208_36]
/-- the line's end -/
theorem tk_tl (hS : RS X sg c4 fl tx n) (hD : RD c4 fl tx n σ μ) (hT : TK tx n sg σ μ) (h2 : μ 100 2 = 0) : ∃ (b : Int) (τ ν : xM), (b = 0 ∨ b = 1) ∧ (∀ d o1, Ev X (d + 7) 66 133 [some (vr 3), o1] [] SH σ = some (some (vi b), SH, τ)) ∧ (∀ d o1, Ev X (d + 3) 203 120 [some (vr 100), o1] [] SH μ = some (none, SH, ν)) ∧ chg [] CT σ τ ∧ chg [] CM μ ν ∧ (b = 1 → TK tx n sg τ ν ∧ ν 100 2 = 0 ∧ σ 1 6 ≤ τ 1 6) ∧ (b = 0 → FL τ ν) := by
  obtain ⟨b, τ, ν, b0, b1, b2, b3, b4, b5⟩ := tk_sg (c := 59) (by decide) hS hD hT h2
  rcases b0 with rfl | rfl
  · obtain ⟨c1, c2, c3⟩ := b5 rfl
    refine ⟨0, τ, ν, Or.inl rfl, fun d o1 => ?_, fun d o1 => ?_, b2, b3, fun z => absurd z (by decide), fun _ => c3⟩
    · refine Eq.trans b66_133 ?_
      refine x_bind (b1 _) ?_
      exact b66_142 (Or.inl rfl)
    · rw [b203_120, if_neg (fun z => z h2), b203_127, if_neg c1]
      refine Eq.trans b203_136 ?_
      refine x_bind s206 ?_
      rw [← c2]
      dsimp only
      have := c3.2.2
      refine Eq.trans b203_141 ?_
      rw [if_pos (by omega), b203_152]
  · obtain ⟨c1, c2, c3, c4, c5⟩ := b4 rfl
    refine ⟨1, τ, ν, Or.inr rfl, fun d o1 => ?_, fun d o1 => ?_, b2, b3, fun _ => ⟨c3, c4, c5⟩, fun z => absurd z (by decide)⟩
    · refine Eq.trans b66_133 ?_
      refine x_bind (b1 _) ?_
      exact b66_142 (Or.inr rfl)
    · rw [b203_120, if_neg (fun z => z h2), b203_127, if_pos c1, b203_141, if_neg (fun z => z h2)]
      refine Eq.trans b203_148 ?_
      refine x_bind (c2 _) ?_
      exact b203_152
/-- the second way, if any -/
theorem tk_or {k : Nat} (hk : k < 10) (h0 : σ 5 (2 * k + 1) = 0) (h3 : μ 103 (2 * k + 1) = 0) (hF : FT σ μ) (hS : RS X sg c4 fl tx n) (hD : RD c4 fl tx n σ μ) (hT : TK tx n sg σ μ) (h2 : μ 100 2 = 0) : ∃ (b w : Int) (τ ν : xM), (b = 0 ∨ b = 1) ∧ (∀ d, Ev X (d + 7) 66 100 [some (vr 3), some (vi k)] [] SH σ = some (some (vi b), SH, τ)) ∧ (∀ d, Ev X (d + 3) 203 92 [some (vr 100), some (vi k)] [] SH μ = some (none, SH, ν)) ∧ chg [5] CT σ τ ∧ chg [103, 106] CM μ ν ∧ (b = 1 → TK tx n sg τ ν ∧ ν 100 2 = 0 ∧ FT τ ν ∧ (0 ≤ w ∧ w ≤ 127) ∧ (∀ j, τ 5 j = if j = 2 * k + 1 then w else σ 5 j) ∧ (∀ j, ν 103 j = if j = 2 * k + 1 then w else μ 103 j) ∧ σ 1 6 ≤ τ 1 6) ∧ (b = 0 → FL τ ν) := by
  have xk : xadd (xmul 2 (k : Int)) 1 = ((2 * k + 1 : Nat) : Int) := by
    rw [xmul_eq (by omega) (by omega), xadd_eq (by omega) (by omega)]
    omega
  obtain ⟨b, b0, b1, b2, b3⟩ := tk_w (X := X) (k1 := 14) (wd := [111, 114]) (by decide) rfl (by decide) (by decide +kernel) hS hD hT
  have b2 : f205 μ 28530 = b := b2
  have sc : ∀ d, Ev X (d + 7) 66 100 [some (vr 3), some (vi k)] [] SH σ = Ev X (d + 7) 66 109 [some (vr 3), some (vi k)] [vi b] SH σ := by
    intro d
    refine Eq.trans b66_100 ?_
    refine x_bind (b1 (d + 1)) ?_
    rfl
  have sm : ∀ d, Ev X (d + 3) 203 92 [some (vr 100), some (vi k)] [] SH μ = Ev X (d + 3) 203 99 [some (vr 100), some (vi k)] [vi b] SH μ := by
    intro d
    refine Eq.trans b203_92 ?_
    refine x_bind s205 ?_
    rw [b2]
    rfl
  rcases b0 with rfl | rfl
  · obtain ⟨b, τ, ν, t0, t1, t2, t3, t4, t5, t6⟩ := tk_tl hS hD hT h2
    have r5 : τ 5 = σ 5 := chg_row t3 (fun j => rfl) rfl
    have r3 : ν 103 = μ 103 := chg_row t4 (fun j => rfl) rfl
    have r6 : ν 106 = μ 106 := chg_row t4 (fun j => rfl) rfl
    refine ⟨b, 0, τ, ν, t0, fun d => ?_, fun d => ?_, chg_mo (by decide) t3, chg_mo (by decide) t4, fun z => ⟨(t5 z).1, (t5 z).2.1, ?_, by decide, ?_, ?_, (t5 z).2.2⟩, t6⟩
    · rw [sc, b66_109, if_pos rfl]
      exact t1 d _
    · rw [sm, b203_99, if_pos rfl]
      exact t2 d _
    · unfold FT
      rw [r5, r6]
      exact hF
    · intro j
      rw [r5]
      by_cases y : j = 2 * k + 1
      · rw [if_pos y, y, h0]
      · rw [if_neg y]
    · intro j
      rw [r3]
      by_cases y : j = 2 * k + 1
      · rw [if_pos y, y, h3]
      · rw [if_neg y]
  · obtain ⟨e, e1, e2, e3, e4⟩ := TK_nx hT (by have := b3 rfl; omega)
    obtain ⟨τ, ν, t1, t2, t3, t4, t5, t6⟩ := tk_adv hS hD e1 e2 e3 (TK_kf hT)
    have r5 : τ 5 = σ 5 := chg_row t3 (fun j => rfl) rfl
    have r3 : ν 103 = μ 103 := chg_row t4 (fun j => rfl) rfl
    have r6 : ν 106 = μ 106 := chg_row t4 (fun j => rfl) rfl
    have n2 : ν 100 2 = 0 := by
      rw [← h2]
      exact chg_at t4 rfl rfl
    have hD1 : RD c4 fl tx n τ ν := RD_chg hD (chg_mo (by decide) t3) (chg_mo (by decide) t4)
    obtain ⟨b, v, τ2, ν2, w0, w1, w2, w3, w4, w5, w6⟩ := tk_way (X := X) (a := 2 * k + 1) (σ := τ) (μ := ν) (by omega) (by rw [r5]; exact h0) hS hD1 t5 n2 (by unfold FT; rw [r5, r6]; exact hF)
    have sc2 : ∀ d, Ev X (d + 7) 66 100 [some (vr 3), some (vi k)] [] SH σ = Ev X (d + 7) 66 128 [some (vr 3), some (vi k)] [vi b] SH τ2 := by
      intro d
      rw [sc, b66_109, if_neg (by decide)]
      refine Eq.trans b66_112 ?_
      refine x_bind (t1 (d + 1)) ?_
      dsimp only
      refine Eq.trans b66_119 ?_
      rw [xk]
      refine x_bind (w1 d) ?_
      rfl
    have v3 : ν2 103 = ν 103 := chg_row w4 (fun j => rfl) rfl
    have sm2 : ∀ d, Ev X (d + 3) 203 92 [some (vr 100), some (vi k)] [] SH μ = Ev X (d + 3) 203 120 [some (vr 100), some (vi k)] [] SH (xwr ν2 103 (2 * k + 1) v) := by
      intro d
      rw [sm, b203_99, if_neg (by decide)]
      refine Eq.trans b203_102 ?_
      refine x_bind (t2 (d + 1)) ?_
      dsimp only
      refine Eq.trans b203_106 ?_
      rw [xk]
      refine x_bind (w2 d) ?_
      dsimp only
      refine Eq.trans (b203_119 (by omega)) ?_
      rw [Int.toNat_natCast]
    have c1 : chg [5] CT σ τ2 := chg_tr (chg_mo (by decide) t3) w3
    have c2 : chg [103, 106] CM μ (xwr ν2 103 (2 * k + 1) v) := chg_wr rfl (chg_tr (chg_mo (by decide) t4) (chg_mo (by decide) w4))
    rcases w0 with rfl | rfl
    · have fl := w6 rfl
      refine ⟨0, 0, τ2, xwr ν2 103 (2 * k + 1) v, Or.inl rfl, fun d => ?_, fun d => ?_, c1, c2, fun z => absurd z (by decide), fun _ => ?_⟩
      · rw [sc2, b66_128, if_neg (by decide), b66_131]
      · rw [sm2]
        exact dead120 (by rw [xwr_nk (by decide)]; exact fl.2.2) _
      · unfold FL
        rw [xwr_nk (by decide), xwr_nk (by decide)]
        exact fl
    · obtain ⟨x1, x2, x3, x4, x5, x6, x7⟩ := w5 rfl
      have hT2 : TK tx n sg τ2 (xwr ν2 103 (2 * k + 1) v) := by
        unfold TK KF at x1 ⊢
        simp only [xwr_nk (show 100 ≠ 103 by decide)]
        exact x1
      have hD2 : RD c4 fl tx n τ2 (xwr ν2 103 (2 * k + 1) v) := RD_chg hD1 w3 (chg_wr rfl (chg_mo (by decide) w4))
      obtain ⟨b, τ3, ν3, y0, y1, y2, y3, y4, y5, y6⟩ := tk_tl hS hD2 hT2 (by rw [xwr_nk (by decide)]; exact x2)
      have q5 : τ3 5 = τ2 5 := chg_row y3 (fun j => rfl) rfl
      have q3 : ν3 103 = (xwr ν2 103 (2 * k + 1) v) 103 := chg_row y4 (fun j => rfl) rfl
      have q6 : ν3 106 = ν2 106 := (chg_row y4 (fun j => rfl) rfl).trans (xwr_row (by decide))
      refine ⟨b, v, τ3, ν3, y0, fun d => ?_, fun d => ?_, chg_tr c1 (chg_mo (by decide) y3), chg_tr c2 (chg_mo (by decide) y4), fun z => ⟨(y5 z).1, (y5 z).2.1, ?_, by omega, ?_, ?_, ?_⟩, y6⟩
      · rw [sc2, b66_128, if_pos (by decide)]
        exact y1 d _
      · rw [sm2]
        exact y2 d _
      · unfold FT
        rw [q5, q6]
        exact x6
      · intro j
        rw [q5, x3, r5]
      · intro j
        rw [q3, xwr_rw, v3, r3]
      · have := (y5 z).2.2
        omega
end WFL

/-! COULD: the model's search, out of what holds between calls -/
section MOC
variable {X : Nat × (Nat → Int)} {σ τ : xM}
theorem mod_C {nth k : Int} (h : Core σ) (hn : 0 < σ 100 16) : ∃ (r : Int) (τ : xM), (∀ d, Ev X (d + 6) 284 0 [some (vr 100), some (vi k), some (vi nth), none, none, none, none, none] [] SH σ = some (some (vi r), SH, τ)) ∧ chg [113, 114, 115, 121, 122, 123, 124, 125, 126, 127, 128, 137] [(100, 47), (100, 48), (100, 49), (100, 50), (100, 51)] σ τ ∧ Core τ ∧ (200000 < prW (σ 102) (nM σ) (σ 107) (FSn σ k) → r = -2) ∧ (prW (σ 102) (nM σ) (σ 107) (FSn σ k) ≤ 200000 → (nth < 0 → r = ((LG σ (FSn σ k) (-1)).length : Int) ∧ ∀ c p : Nat, c < nM σ → p < 7 → τ 137 (7 * c + p) = sumB (BW (σ 102) (σ 107)) c p (LG σ (FSn σ k) (-1))) ∧ (∀ i : Nat, nth = (i : Int) → ∀ hi : i < (LG σ (FSn σ k) (-1)).length, r = nth ∧ ∀ c, c < nM σ → τ 125 c = BW (σ 102) (σ 107) c ((LG σ (FSn σ k) (-1))[i] c)) ∧ (∀ i : Nat, nth = (i : Int) → (LG σ (FSn σ k) (-1)).length ≤ i → r = -1)) := by
  obtain ⟨hw, hrow, hcd⟩ := WST_of h hn
  have hw' := hw
  obtain ⟨hW, hF, hn0, hn1, e23, _, _, hf, hb, _, e10, hwf, hlen, hR⟩ := hw'
  obtain ⟨w1, w2, w3, w4, w5, w6⟩ := h.2.2.1
  have hn' : σ 100 16 = (nM σ : Int) := by unfold nM; omega
  have hf' : ∀ c, c < nM σ → σ 107 c = 0 ∨ σ 107 c = 1 := fun c hc => by rw [(hrow c hc).1]; exact hf c hc
  have fr := frm_of hW hF
  have hcdW : WFP (cdM σ) (σ 100 35).toNat := WFP_cg hcd hwf
  have hBi : ∀ c, c < nM σ → ∀ i, i ∈ moW (σ 102) (σ 107) c → BW (σ 102) (σ 107) c i = f71 σ (σ 107 c) (i : Int) := by
    intro c hc i hi
    unfold moW at hi
    have hi := List.mem_range.mp hi
    have fb := (frm_B hF (hf' c hc)).1
    exact BW_f71 hF (hf' c hc) (by omega)
  have core : ∀ τ : xM, chg [113, 114, 115, 121, 122, 123, 124, 125, 126, 127, 128, 137] [(100, 47), (100, 48), (100, 49), (100, 50), (100, 51)] σ τ → τ 100 51 = 1 → Core τ := by
    intro τ c e51
    refine Core_chg h c (Or.inl rfl) (Or.inl rfl) (Or.inl rfl) (Or.inl rfl) (Or.inl rfl) (Or.inl rfl) (Or.inl rfl) (Or.inl rfl) (Or.inl rfl) (Or.inr ⟨e51, fun g hg => ?_⟩)
    rw [show τ 104 = σ 104 from chg_row c (fun _ => rfl) rfl]
    exact h.2.2.2.2.2.2.2.2.2.2 g hg
  have see := h.2.2.2.2.2.2.1
  have hsee : ∀ τ : xM, chs [122, 123] [] (xwr (xwr σ 100 51 0) 100 50 k) τ → τ 132 = σ 132 ∧ τ 133 = σ 133 ∧ τ 134 = σ 134 ∧ τ 135 = σ 135 ∧ τ 136 = σ 136 ∧ τ 100 59 = σ 100 59 ∧ τ 100 51 = 0 ∧ τ 100 50 = k := by
    intro τ c
    have c0 : chg [122, 123] [(100, 51), (100, 50)] σ τ := chg_tr (chg_wr rfl (chg_wr rfl chg_rf)) (chg_mo (by decide) (chs_g c))
    refine ⟨chg_row c0 (fun _ => rfl) rfl, chg_row c0 (fun _ => rfl) rfl, chg_row c0 (fun _ => rfl) rfl, chg_row c0 (fun _ => rfl) rfl, chg_row c0 (fun _ => rfl) rfl, chg_at c0 rfl rfl, ?_, ?_⟩
    · rw [c 100 51 rfl, xwr_nj (by decide), xwr_eq]
    · rw [c 100 50 rfl, xwr_eq]
  obtain ⟨μ0, a1, a2, a3⟩ := s242 (X := X) (μ := xwr (xwr σ 100 51 0) 100 50 k) (n := nM σ) (fg := σ 107) (w := σ 102) (B := BW (σ 102) (σ 107)) (alw := fun c v => @ite Int (alS σ k c v) (Classical.propDecidable _) 1 0) hn1 (by rw [xwr_nj (by decide), xwr_nj (by decide)]; exact hn') (by rw [xwr_row (by decide), xwr_row (by decide)]) (by rw [xwr_row (by decide), xwr_row (by decide)]) (fun c hc k hk hv => by
    have b := (frm_B hF (hf' c hc)).2 k hk hv
    have lt := nz_lt (w := wF (σ 107 c) (σ 102)) hk hv
    have fb := (frm_B hF (hf' c hc)).1
    rw [BW_f71 hF (hf' c hc) (by omega)]
    exact b) (fun c i τ hc hi hv hs d => by
    obtain ⟨x1, x2, x3, x4, x5, x6, x7, x8⟩ := hsee τ hs
    obtain ⟨_, _, _, y1, y2, y3, y4⟩ := see
    obtain ⟨b, b1, b2, b3⟩ := s243s (X := X) (μ := τ) (c := c) (v := wF (σ 107 c) (σ 102) i) x7 (by omega) (fun s hs => by
      rw [x5]
      have := y4 s (by omega)
      rw [this.2.2.1]
      exact this.2.2.2.2.2.1)
    have e : alS τ (τ 100 50) c (wF (σ 107 c) (σ 102) i) ↔ alS σ k c (wF (σ 107 c) (σ 102) i) := by
      unfold alS
      rw [x1, x2, x3, x4, x5, x6, x8]
    rw [e] at b2
    have bv : b = @ite Int (alS σ k c (wF (σ 107 c) (σ 102) i)) (Classical.propDecidable _) 1 0 := by
      by_cases z : alS σ k c (wF (σ 107 c) (σ 102) i)
      · rw [if_pos z]
        exact b2.mpr z
      · rw [if_neg z]
        rcases b1 with y | y
        · exact y
        · exact absurd (b2.mp y) z
    rw [b3, bv]) (fun c => (moW (σ 102) (σ 107) c).filter (FSn σ k c)) (fun c hc => by
    unfold moW
    refine List.filter_congr (fun i hi => ?_)
    unfold FSn
    rw [Bool.eq_iff_iff, @decide_eq_true_iff _ (Classical.propDecidable _), decide_eq_true_iff]
    by_cases z : alS σ k c (BW (σ 102) (σ 107) c i)
    · rw [if_pos z]
      exact ⟨fun _ => by decide, fun _ => z⟩
    · rw [if_neg z]
      exact ⟨fun y => absurd y z, fun y => absurd rfl y⟩)
  generalize hμ1 : xwr μ0 100 51 1 = μ1
  have c1 : chg [122, 123] [(100, 50), (100, 51)] σ μ1 := by
    rw [← hμ1]
    exact chg_wr rfl (chg_tr (chg_wr rfl (chg_wr rfl chg_rf)) (chg_mo (by decide) (chs_g a2)))
  have e51 : μ1 100 51 = 1 := by rw [← hμ1, xwr_eq]
  have a3 : ∀ c, c < nM σ → OT1 (BW (σ 102) (σ 107)) c ((moW (σ 102) (σ 107) c).filter (FSn σ k c)) μ1 := by
    intro c hc
    have := a3 c hc
    unfold OT1 at this ⊢
    rw [← hμ1, xwr_row (by decide), xwr_row (by decide)]
    exact this
  have pe : nprod (fun c => ((moW (σ 102) (σ 107) c).filter (FSn σ k c)).length) (nM σ) = prW (σ 102) (nM σ) (σ 107) (FSn σ k) := rfl
  rw [pe] at a1
  by_cases big : prW (σ 102) (nM σ) (σ 107) (FSn σ k) ≤ 200000
  · obtain ⟨μ2, μ3, b1, b2, b3, b4, b5, z1, z2, z3, z4⟩ := see_0 (X := X) (μ := μ1) (n := nM σ) (len := (σ 100 35).toNat) (fg := σ 107) (w := σ 102) (B := BW (σ 102) (σ 107)) (sy := syW (σ 102) (σ 107)) (cd := cdM σ) (mo := fun c => (moW (σ 102) (σ 107) c).filter (FSn σ k c)) (ct := ctW (σ 102) (σ 107) (σ 110)) (cl := clW (σ 102) (σ 107) (σ 110)) (mg := -1) (ml := -1) (bs := σ 110) hn0 hn1 ((chg_at c1 rfl rfl).trans hn') (chg_row c1 (fun _ => rfl) rfl) (chg_row c1 (fun _ => rfl) rfl) hf' (fun c hc => ⟨by rw [show μ1 110 = σ 110 from chg_row c1 (fun _ => rfl) rfl], by rw [(hrow c hc).2]; exact hb c hc⟩) a3 (fun c hc i hi => ⟨by rw [hBi c hc i (List.mem_filter.mp hi).1]; exact f71_rg fr _ _, rfl⟩) (fun c i => rfl) (fun c i => rfl) hcdW hlen (fun i hi => by
      rw [show μ1 118 = σ 118 from chg_row c1 (fun _ => rfl) rfl, show μ1 119 = σ 119 from chg_row c1 (fun _ => rfl) rfl, ← hcd i hi]
      exact w5 i (by omega)) (by rw [chg_at c1 rfl rfl]; omega) (fun _ => true) (fun q => ⟨fun _ => Or.inl (by decide), fun _ => rfl⟩)
    have lq : ((enumF (fun c => (moW (σ 102) (σ 107) c).filter (FSn σ k c)) (nM σ) 0 (fun _ => 0)).filter (fun _ => true)).filter (gdB (GDM (nM σ) (BW (σ 102) (σ 107)) (σ 107) (syW (σ 102) (σ 107)) (cdM σ) (σ 100 35).toNat (-1))) = LG σ (FSn σ k) (-1) := (lgW_eq (w := σ 102) (n := nM σ) (fg := σ 107) (cd := cdM σ) (len := (σ 100 35).toNat) (F := FSn σ k) (on := -1) (G := fun _ => true) (fun _ => rfl)).symm
    obtain ⟨μ4, o4, y1, y2, y3, y4⟩ := it284z (X := X) (a2 := nth) (o1 := some (vi k)) (o3 := some (vl (prW (σ 102) (nM σ) (σ 107) (FSn σ k) : Int))) (o6 := none) (o7 := none) 77 0 μ3 none (by omega)
    have c4 : chg [137] [] μ3 μ4 := chs_g y2
    have S4 := SCN_chg b4 c4 rfl
    have A4 := ADVB_1 (X := X) S4 (G := fun _ => true) (fun q => ⟨fun _ => Or.inl (by decide), fun _ => rfl⟩) (by rw [y2 100 47 rfl]; exact z1) (by rw [y2 124 0 rfl]; exact z2) (by rw [y2 127 0 rfl]; exact z3) (by rw [y2 128 0 rfl]; exact z4)
    have zz : ∀ c p : Nat, c < nM σ → p < 7 → μ4 137 (7 * c + p) = 0 := fun c p hc hp => y3 _ (by omega) (by omega)
    have ll : (LG σ (FSn σ k) (-1)).length ≤ 200000 := Nat.le_trans lgW_le big
    obtain ⟨r, τ, p1, p2, p3, p4, p5⟩ := it284l (X := X) (nth := nth) (G := fun _ => true) (fun q => ⟨fun _ => Or.inl (by decide), fun _ => rfl⟩) ((enumF (fun c => (moW (σ 102) (σ 107) c).filter (FSn σ k c)) (nM σ) 0 (fun _ => 0)).filter (fun _ => true)) μ4 0 S4 A4 (by omega) (by rw [lq]; omega) (fun c p hc hp => by rw [zz c p hc hp]; omega)
    rw [lq] at p3 p4 p5
    have cc : chg [113, 114, 115, 121, 122, 123, 124, 125, 126, 127, 128, 137] [(100, 47), (100, 48), (100, 49), (100, 50), (100, 51)] σ τ := chg_tr (chg_mo (by decide) c1) (chg_tr (chg_mo (by decide) b3) (chg_tr (chg_mo (by decide) c4) (chg_mo (by decide) p2)))
    refine ⟨r, τ, fun d => ?_, cc, core τ cc (by rw [chg_at p2 rfl rfl, chg_at c4 rfl rfl, chg_at b3 rfl rfl]; exact e51), fun z => by omega, fun _ => ⟨fun y => ?_, fun i hi h => p4 i (by rw [Nat.zero_add]; exact hi) h, fun i hi h => p5 i (by rw [Nat.zero_add]; exact hi) h⟩⟩
    · refine Eq.trans b284_0 ?_
      refine x_bind (a1 (d + 3)) ?_
      dsimp only
      refine Eq.trans b284_14 ?_
      rw [if_pos (by unfold lcmp'; split; omega; split <;> omega), hμ1]
      refine Eq.trans b284_31 ?_
      refine x_bind (b1 _) ?_
      dsimp only
      refine Eq.trans b284_39 ?_
      refine x_bind (b2 _) ?_
      dsimp only
      refine Eq.trans b284_45 ?_
      refine Eq.trans (y1 _) ?_
      refine Eq.trans b284_69 ?_
      exact p1 (d + 1) _ _ _ _ _
    · obtain ⟨q1, q2⟩ := p3 y
      refine ⟨by rw [q1]; omega, fun c p hc hp => ?_⟩
      rw [q2 c p hc hp, zz c p hc hp]
      omega
  · have cc : chg [113, 114, 115, 121, 122, 123, 124, 125, 126, 127, 128, 137] [(100, 47), (100, 48), (100, 49), (100, 50), (100, 51)] σ μ1 := chg_mo (by decide) c1
    refine ⟨-2, μ1, fun d => ?_, cc, core μ1 cc e51, fun _ => rfl, fun z => absurd z big⟩
    refine Eq.trans b284_0 ?_
    refine x_bind (a1 (d + 3)) ?_
    dsimp only
    refine Eq.trans b284_14 ?_
    rw [if_neg (by unfold lcmp'; rw [if_neg (by omega), if_neg (by omega)]; decide), b284_28, hμ1]
end MOC

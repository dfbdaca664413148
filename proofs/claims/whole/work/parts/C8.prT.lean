/-! PATHS: seekPath, the pairs steps and step -/
def CAs : List Nat := [113, 114, 115, 122, 123, 124, 125, 126, 127, 128, 129, 130]
def CSs : List (Nat × Nat) := [(100, 47), (100, 48), (100, 49), (100, 51), (100, 56), (100, 57)]
def PostN (σ τ : xM) : Prop := Core τ ∧ CacheN τ ∧ (eqp PL σ τ ∨ ForgL τ)
/-- both rows are true sums of one form -/
def canP (σ : xM) : Prop := lkM σ ∧ truV (chM σ 110) (nM σ) = 1 ∧ truV (chM σ 111) (nM σ) = 1
section PRT
variable {X : Nat × (Nat → Int)} {σ μ τ : xM} {n : Nat}
theorem tru_ok {cs : Nat → Int} (h : truV cs n = 1) : okW cs n := by
  refine Classical.byContradiction (fun z => ?_)
  rw [truV_n z] at h
  omega
theorem chM_chg {CA : List Nat} {CS : List (Nat × Nat)} {k : Nat} (c : chg CA CS σ τ) (o : okc CA CS [102, 107] [] = true) (hk : τ k = σ k) : chM τ k = chM σ k := by
  have e := eqp_ok o c
  unfold chM
  rw [hk, eqp_row e (k := 102) rfl, eqp_row e (k := 107) rfl]
theorem nM_16 (h : Core σ) : σ 100 16 = (nM σ : Int) ∧ nM σ ≤ 11 := by
  obtain ⟨r1, r2, r3, _⟩ := h.2.2.2.1
  unfold nM
  omega
theorem fg_01 (h : Core σ) : ∀ c, c < nM σ → σ 107 c = 0 ∨ σ 107 c = 1 := by
  intro c hc
  obtain ⟨r1, r2, r3, r4⟩ := h.2.2.2.1
  have := r4 c (by unfold nM at hc; omega)
  rw [this.1]
  exact this.2.1
/-- the model refuses -/
theorem mod_Pn (h : Core σ) (hc : ¬ canP σ) : ∃ τ, (∀ d, Ev X (d + 7) 264 0 [some (vr 100), none, none, none, none] [] SH σ = some (some (vi (-1)), SH, τ)) ∧ chg [113, 114, 115] [] σ τ := by
  obtain ⟨n16, n11⟩ := nM_16 h
  have hf := fg_01 h
  by_cases k : lkM σ
  · obtain ⟨τ1, a1, a2⟩ := s249 (X := X) (μ := σ) (n := nM σ) (k1 := 110) rfl (by decide) n16 n11 hf
    by_cases t : truV (chM σ 110) (nM σ) = 1
    · have r107 : τ1 107 = σ 107 := chg_row a2 (fun _ => rfl) rfl
      obtain ⟨τ2, b1, b2⟩ := s249 (X := X) (μ := τ1) (n := nM σ) (k1 := 111) rfl (by decide) ((chg_at a2 rfl rfl).trans n16) n11 (by rw [r107]; exact hf)
      rw [chM_chg a2 rfl (chg_row a2 (fun _ => rfl) rfl)] at b1
      have t2 : ¬ truV (chM σ 111) (nM σ) = 1 := fun z => hc ⟨k, t, z⟩
      refine ⟨τ2, fun d => ?_, chg_tr a2 b2⟩
      refine Eq.trans b264_0 ?_
      refine x_bind (s262y (by omega) k _) ?_
      dsimp only
      refine Eq.trans b264_4 ?_
      rw [if_neg (by decide)]
      refine Eq.trans b264_7 ?_
      refine x_bind (a1 (d + 3)) ?_
      rw [t]
      dsimp only
      refine Eq.trans b264_15 ?_
      rw [if_neg (by decide)]
      refine Eq.trans b264_18 ?_
      refine x_bind (b1 (d + 3)) ?_
      rw [show tV1 (truV (chM σ 111) (nM σ)) = 0 from if_neg t2]
      dsimp only
      refine Eq.trans b264_26 ?_
      rw [if_neg (by decide), b264_29]
    · refine ⟨τ1, fun d => ?_, a2⟩
      refine Eq.trans b264_0 ?_
      refine x_bind (s262y (by omega) k _) ?_
      dsimp only
      refine Eq.trans b264_4 ?_
      rw [if_neg (by decide)]
      refine Eq.trans b264_7 ?_
      refine x_bind (a1 (d + 3)) ?_
      rw [show tV1 (truV (chM σ 110) (nM σ)) = 0 from if_neg t]
      dsimp only
      refine Eq.trans b264_15 ?_
      rw [if_pos rfl, b264_29]
  · refine ⟨σ, fun d => ?_, chg_rf⟩
    refine Eq.trans b264_0 ?_
    refine x_bind (s262n (by omega) (by omega) k _) ?_
    dsimp only
    refine Eq.trans b264_4 ?_
    rw [if_pos rfl, b264_29]
theorem ofr_x (h : Core σ) (hn : 0 < σ 100 16) : ∃ μ1 z, (∀ d, Ev X (d + 2) 242 0 [some (vr 100), none, none, none, none, none] [] SH (xwr σ 100 51 1) = some (some (vl z), SH, μ1)) ∧ chg [122, 123] [(100, 51)] σ μ1 ∧ μ1 100 51 = 1 ∧ MBS (nM σ) (σ 100 35).toNat (σ 102) (σ 107) (cdM σ) μ1 := by
  obtain ⟨hw, hrow, hcd⟩ := WST_of h hn
  obtain ⟨hW, hF, hn0, hn1, e23, _, _, hf, hb, _, e10, hwf, hlen, hR⟩ := hw
  obtain ⟨w1, w2, w3, w4, w5, w6⟩ := h.2.2.1
  have hn' : σ 100 16 = (nM σ : Int) := (nM_16 h).1
  have hf' := fg_01 h
  have fr := frm_of hW hF
  have hcdW : WFP (cdM σ) (σ 100 35).toNat := WFP_cg hcd hwf
  have hBi : ∀ c, c < nM σ → ∀ i, i ∈ moW (σ 102) (σ 107) c → BW (σ 102) (σ 107) c i = f71 σ (σ 107 c) (i : Int) := by
    intro c hc i hi
    unfold moW at hi
    have hi := List.mem_range.mp hi
    have fb := (frm_B hF (hf' c hc)).1
    exact BW_f71 hF (hf' c hc) (by omega)
  obtain ⟨μ1, a1, a2, a3⟩ := s242 (X := X) (μ := xwr σ 100 51 1) (n := nM σ) (fg := σ 107) (w := σ 102) (B := BW (σ 102) (σ 107)) (alw := fun _ _ => 1) hn1 (by rw [xwr_nj (by decide)]; exact hn') (xwr_row (by decide)) (xwr_row (by decide)) (fun c hc k hk hv => by
    have b := (frm_B hF (hf' c hc)).2 k hk hv
    have lt := nz_lt (w := wF (σ 107 c) (σ 102)) hk hv
    have fb := (frm_B hF (hf' c hc)).1
    rw [BW_f71 hF (hf' c hc) (by omega)]
    exact b) (fun c k τ hc hk hv hs d => s243f (by rw [hs 100 51 rfl, xwr_eq]; decide) d) (moW (σ 102) (σ 107)) (fun c hc => (List.filter_eq_self.mpr (fun i hi => by decide)).symm)
  have c1 : chg [122, 123] [(100, 51)] σ μ1 := chg_tr (chg_wr rfl chg_rf) (chg_mo (by decide) (chs_g a2))
  refine ⟨μ1, _, a1, c1, by rw [a2 100 51 rfl, xwr_eq], ⟨hn0, hn1, (chg_at c1 rfl rfl).trans hn'⟩, ⟨chg_row c1 (fun _ => rfl) rfl, chg_row c1 (fun _ => rfl) rfl⟩, hf', a3, fun c hc i hi => by rw [hBi c hc i hi]; exact f71_rg fr _ _, ⟨hcdW, hlen⟩, fun i hi => ?_, by rw [chg_at c1 rfl rfl]; omega⟩
  rw [show μ1 118 = σ 118 from chg_row c1 (fun _ => rfl) rfl, show μ1 119 = σ 119 from chg_row c1 (fun _ => rfl) rfl, ← hcd i hi]
  exact w5 i (by omega)
theorem SS_W {x0 xa : Nat} (X0 : RWX σ 110 x0) : WPS (CD (σ 102) (nM σ) (σ 107)) (SS σ x0 xa) := by
  refine bfs_W (fun x _ z hz => nbC_CD z hz) 151 0 _ ⟨by simp, by simp, fun _ => rfl, fun j hj h0 => ?_, fun e he => ?_⟩
  · simp at hj
    omega
  · rw [List.mem_singleton.mp he]
    exact X0.1
/-- seekPath -/
theorem mod_P {x0 xa : Nat} (h : Core σ) (hc : canP σ) (X0 : RWX σ 110 x0) (XA : RWX σ 111 xa) : ∃ τ, (∀ d, Ev X (d + 7) 264 0 [some (vr 100), none, none, none, none] [] SH σ = some (some (vi (if (SS σ x0 xa).2 = true then 0 else mvS (SS σ x0 xa))), SH, τ)) ∧ chg CAs CSs σ τ ∧ Core τ ∧ ((SS σ x0 xa).2 = true → RLM (σ 102) (σ 107) (nM σ) τ (SS σ x0 xa)) := by
  obtain ⟨n16, n11⟩ := nM_16 h
  have hf := fg_01 h
  obtain ⟨k, t, t2⟩ := hc
  obtain ⟨τ1, a1, a2⟩ := s249 (X := X) (μ := σ) (n := nM σ) (k1 := 110) rfl (by decide) n16 n11 hf
  have r107 : τ1 107 = σ 107 := chg_row a2 (fun _ => rfl) rfl
  obtain ⟨τ2, b1, b2⟩ := s249 (X := X) (μ := τ1) (n := nM σ) (k1 := 111) rfl (by decide) ((chg_at a2 rfl rfl).trans n16) n11 (by rw [r107]; exact hf)
  rw [chM_chg a2 rfl (chg_row a2 (fun _ => rfl) rfl)] at b1
  have c2 : chg [113, 114, 115] [] σ τ2 := chg_tr a2 b2
  have C2 : Core τ2 := Core_chg h c2 (Or.inl rfl) (Or.inl rfl) (Or.inl rfl) (Or.inl rfl) (Or.inl rfl) (Or.inl rfl) (Or.inl rfl) (Or.inl rfl) (Or.inl rfl) (Or.inl rfl)
  obtain ⟨μ1, z, d1, d2, d3, d4⟩ := ofr_x (X := X) C2 (by rw [chg_at c2 rfl rfl]; exact k.1)
  have en : nM τ2 = nM σ := by unfold nM; rw [chg_at c2 rfl rfl]
  rw [en, show τ2 102 = σ 102 from chg_row c2 (fun _ => rfl) rfl, show τ2 107 = σ 107 from chg_row c2 (fun _ => rfl) rfl] at d4
  generalize hμ2 : xwr μ1 100 56 0 = μ2
  have c3 : chg [] [(100, 56)] μ1 μ2 := by
    rw [← hμ2]
    exact chg_wr rfl chg_rf
  have M2 := MBS_chg d4 c3 rfl
  obtain ⟨μ3, g1, g2, g3, g4, g5, g6, g7⟩ := s265 (X := X) (μ := μ2) (n := nM σ) (k1 := 110) (L := 0) (o := -1) rfl (by decide) M2.1.2.2 n11 (by omega) (by rw [← hμ2, xwr_eq]; rfl)
  have M3 := MBS_chg M2 (chs_g g2) rfl
  have cA : chg CAs CSs σ μ3 := chg_tr (chg_mo (by decide) c2) (chg_tr (chg_mo (by decide) d2) (chg_tr (chg_mo (by decide) c3) (chg_mo (by decide) (chs_g g2))))
  have r110 : μ2 110 = σ 110 := (chg_row c3 (fun _ => rfl) rfl).trans ((chg_row d2 (fun _ => rfl) rfl).trans (chg_row c2 (fun _ => rfl) rfl))
  have r111 : μ3 111 = σ 111 := chg_row cA (fun _ => rfl) rfl
  have hF := h.2.1
  have x3 : ∀ c, c < nM σ → μ3 129 (11 * 0 + c) = BW (σ 102) (σ 107) c (dig x0 c) := fun c hc => by
    rw [g6 c hc, r110]
    exact (X0.2 c hc).symm
  have as := s266 (X := X) (σ := σ) (μ := μ3) (n := nM σ) (fg := σ 107) (k2 := 111) (j := 0) (x := x0) (y := xa) hF.2.1 hF.2.2.1 hf rfl M3.1.2.2 n11 (by omega) X0.1 XA.1 x3 (fun c hc => by
    rw [r111]
    exact (XA.2 c hc).symm)
  generalize hv : (if x0 = xa then (0 : Int) else -1) = v
  generalize hμ4 : xwr μ3 100 57 v = μ4
  have c4 : chg [] [(100, 57)] μ3 μ4 := by
    rw [← hμ4]
    exact chg_wr rfl chg_rf
  have M4 := MBS_chg M3 c4 rfl
  have W0 : WPS (CD (σ 102) (nM σ) (σ 107)) (([(x0, -1)], decide (x0 = xa)) : PS) := by
    refine ⟨by simp, by simp, fun _ => rfl, fun j hj h0 => ?_, fun e he => ?_⟩
    · simp at hj
      omega
    · rw [List.mem_singleton.mp he]
      exact X0.1
  have R4 : RLM (σ 102) (σ 107) (nM σ) μ4 (([(x0, -1)], decide (x0 = xa)) : PS) := by
    refine ⟨?_, fun j hj => ?_, ?_⟩
    · rw [← hμ4, xwr_nj (by decide), g3]
      rfl
    · have : j = 0 := by
        simp at hj
        exact hj
      subst this
      rw [← hμ4]
      refine ⟨by rw [xwr_nk (by decide), g4]; rfl, fun c hc => ?_⟩
      rw [xwr_nk (by decide)]
      exact x3 c hc
    · rw [← hμ4, xwr_eq, ← hv]
      by_cases y : x0 = xa
      · rw [if_pos y, if_pos (decide_eq_true y)]
        rfl
      · rw [if_neg y, if_neg (fun z => y (of_decide_eq_true z))]
  obtain ⟨τ, p1, p2⟩ := it264o (X := X) (σ := σ) (n := nM σ) (fg := σ 107) (aim := xa) hF.2.1 hF.2.2.1 XA.1 151 0 _ μ4 (by omega) M4 R4 W0 (fun z => by have := z.2; simp at this) (fun c hc => by
    rw [show μ4 111 = μ3 111 from chg_row c4 (fun _ => rfl) rfl, r111]
    exact (XA.2 c hc).symm)
  change (ful (SS σ x0 xa) ∧ _) ∨ (¬ ful (SS σ x0 xa) ∧ RLM (σ 102) (σ 107) (nM σ) τ (SS σ x0 xa) ∧ ∀ d o1 o2 o4, Ev X (d + 6) 264 78 [some (vr 100), o1, o2, some (vi 0), o4] [] SH μ4 = some (some (vi (if (SS σ x0 xa).2 = true then 0 else -1)), SH, τ)) at p2
  have cT : chg CAs CSs σ τ := chg_tr cA (chg_tr (chg_mo (by decide) c4) (chg_mo (by decide) p1))
  have CT : Core τ := Core_chg h cT (Or.inl rfl) (Or.inl rfl) (Or.inl rfl) (Or.inl rfl) (Or.inl rfl) (Or.inl rfl) (Or.inl rfl) (Or.inl rfl) (Or.inl rfl) (Or.inr ⟨by
    rw [chg_at p1 rfl rfl, chg_at c4 rfl rfl, g2 100 51 rfl, chg_at c3 rfl rfl]
    exact d3, fun g hg => by
    rw [show τ 104 = σ 104 from chg_row cT (fun _ => rfl) rfl]
    exact h.2.2.2.2.2.2.2.2.2.2 g hg⟩)
  have st : ∀ d, ∃ o1 o2 o4, Ev X (d + 7) 264 0 [some (vr 100), none, none, none, none] [] SH σ = Ev X (d + 7) 264 78 [some (vr 100), o1, o2, some (vi 0), o4] [] SH μ4 := by
    intro d
    refine ⟨some (vl z), xkill none, none, ?_⟩
    refine Eq.trans b264_0 ?_
    refine x_bind (s262y (by omega) k _) ?_
    dsimp only
    refine Eq.trans b264_4 ?_
    rw [if_neg (by decide)]
    refine Eq.trans b264_7 ?_
    refine x_bind (a1 (d + 3)) ?_
    rw [t]
    dsimp only
    refine Eq.trans b264_15 ?_
    rw [if_neg (by decide)]
    refine Eq.trans b264_18 ?_
    refine x_bind (b1 (d + 3)) ?_
    rw [t2]
    dsimp only
    refine Eq.trans b264_26 ?_
    rw [if_pos (by decide)]
    refine Eq.trans b264_31 ?_
    refine x_bind (d1 (d + 4)) ?_
    dsimp only
    refine Eq.trans (b264_40 (t0 := z)) ?_
    rw [hμ2]
    refine x_bind (g1 _) ?_
    dsimp only
    refine Eq.trans b264_55 ?_
    refine x_bind (as _) ?_
    dsimp only
    refine Eq.trans (b264_65 (t1 := bI (decide (x0 = xa)))) ?_
    by_cases y : x0 = xa
    · rw [if_pos y] at hv
      rw [decide_eq_true y, if_neg (by decide), b264_68, b264_73, hv, hμ4]
    · rw [if_neg y] at hv
      rw [decide_eq_false y, if_pos (by decide), b264_72, b264_73, hv, hμ4]
  rcases p2 with ⟨u, v⟩ | ⟨u, v1, v2⟩
  · refine ⟨τ, fun d => ?_, cT, CT, fun y => ?_⟩
    · obtain ⟨o1, o2, o4, e⟩ := st d
      rw [e]
      refine Eq.trans (v (d + 1) _ _ _) ?_
      rw [if_neg (by rw [u.1]; decide)]
      unfold mvS
      rw [if_neg (by rw [u.1]; decide), if_pos u.2]
    · rw [u.1] at y
      cases y
  · refine ⟨τ, fun d => ?_, cT, CT, fun _ => v1⟩
    obtain ⟨o1, o2, o4, e⟩ := st d
    rw [e]
    refine Eq.trans (v2 (d + 1) _ _ _) ?_
    by_cases y : (SS σ x0 xa).2 = true
    · rw [if_pos y, if_pos y]
    · rw [if_neg y, if_neg y]
      unfold mvS
      rw [if_neg y, if_neg]
      intro w
      refine u ⟨?_, w⟩
      cases hh : (SS σ x0 xa).2 with
      | false => rfl
      | true => exact absurd hh y
end PRT

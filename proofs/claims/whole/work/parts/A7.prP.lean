/-! SHAPE: find, learnShape, the pair of shape -/
def CSg : List (Nat × Nat) := [(50, 9), (50, 10), (50, 11), (50, 12), (50, 13), (50, 14), (50, 15), (50, 16), (10, 8), (49, 3), (49, 4), (49, 5), (49, 6), (49, 7), (49, 8)]
def CAg : List Nat := [13, 60, 61, 62, 63, 64, 65, 66, 67, 68, 69]
section PRP
variable {X : Nat × (Nat → Int)} {σ τ : xM}
theorem LG_cg {CA : List Nat} {CS : List (Nat × Nat)} (c : chg CA CS σ τ) (o : okc CA CS [102, 107, 110, 118, 119] [(100, 16), (100, 35)] = true) : (∀ F on, LG τ F on = LG σ F on) ∧ (∀ F, prW (τ 102) (nM τ) (τ 107) F = prW (σ 102) (nM σ) (σ 107) F) := by
  obtain ⟨_, g2, g3, g4, g5, g6, _⟩ := LM_cg (t := 0) (l := 0) c o
  refine ⟨fun F on => ?_, fun F => ?_⟩
  · unfold LG
    rw [g2, g3, g4, g5, g6]
  · rw [g2, g3, g4]
/-- find, of a shape -/
theorem find_S {a fr : Int} (h : Core σ) (hL : CacheL σ) (hn : 0 < σ 100 16) (hfr : 0 ≤ fr ∧ fr < 2147483648) : ∃ τ, (∀ d, Ev X (d + 20) 95 0 [some (vr 49), some (vi 1), some (vi a), some (vi 0), some (vi fr)] [] SH σ = some (none, SH, τ)) ∧ chg CAf CSf σ τ ∧ Core τ ∧ CacheL τ ∧ τ 49 3 = 1 ∧ τ 49 4 = a ∧ τ 49 5 = 0 ∧ τ 50 16 = fr ∧ ((200000 < prW (σ 102) (nM σ) (σ 107) Fall ∧ τ 49 6 = -2) ∨ (prW (σ 102) (nM σ) (σ 107) Fall ≤ 200000 ∧ τ 49 6 = ((LG σ Fall a).length : Int) ∧ REs τ (LG σ Fall a))) := by
  obtain ⟨hw, hrow, hcd⟩ := WST_of h hn
  have hw' := hw
  obtain ⟨hW, hF, hn0, hn1, e23, _, _, hf, hb, _, e10, hwf, hlen, hR⟩ := hw'
  have fr' := frm_of hW hF
  obtain ⟨τ, a1, a2, a3, a4, a5, a7, a8⟩ := s95g (X := X) (kd := 1) (a := a) (b := 0) (fr := fr) (ld := fun _ => 0) (br := fun _ => 0) (F := fun c i => decide (xand (f71 σ (σ 24 c) (i : Int)) 0 = 0 ∧ xand (f71 σ (σ 24 c) (i : Int)) 0 = 0)) hw (Or.inl rfl) hfr (Or.inl ⟨rfl, fun _ => ⟨rfl, rfl⟩⟩) (fun c i => rfl)
  rw [if_pos rfl] at a8
  obtain ⟨l1, l2⟩ := lsG_W (σ := σ) (n := nM σ) (len := (σ 100 35).toNat) (fg := σ 24) (fg' := σ 107) (cd := σ 11) (cd' := cdM σ) (on := a) (F := fun c i => decide (xand (f71 σ (σ 24 c) (i : Int)) 0 = 0 ∧ xand (f71 σ (σ 24 c) (i : Int)) 0 = 0)) (F' := Fall) hW hF hf (fun c hc => (hrow c hc).1) hcd (fun c hc i hi => by
    have rb := f71_rg fr' (σ 24 c) (i : Int)
    exact decide_eq_true ⟨xand_0 rb.1 rb.2, xand_0 rb.1 rb.2⟩)
  rw [l1, l2] at a8
  have c := frm_chg a2
  obtain ⟨_, g2, g3, g4, g5, g6, g7, _⟩ := LM_cg (t := 0) (l := 0) c rfl
  obtain ⟨eG, eP⟩ := LG_cg c rfl
  have a9 : (200000 < prW (σ 102) (nM σ) (σ 107) Fall ∧ τ 49 6 = -2) ∨ (prW (σ 102) (nM σ) (σ 107) Fall ≤ 200000 ∧ τ 49 6 = ((LG σ Fall a).length : Int) ∧ REs τ (LG σ Fall a)) := by
    rcases a8 with a8 | ⟨x1, x2, x3⟩
    · exact Or.inl a8
    · refine Or.inr ⟨x1, x2, ?_⟩
      unfold REs
      rw [g2, g3, g4]
      refine RES_cg x3 (fun p hp => ?_)
      unfold lgW at hp
      obtain ⟨_, qm⟩ := mem_enumF _ _ _ p (List.mem_filter.mp hp).1
      exact wt_W hW hF hf (fun c hc => (hrow c hc).1) (fun c hc => (List.mem_filter.mp (qm c (by omega) (by omega))).1)
  refine ⟨τ, a1, c, Core_chg h c (Or.inl rfl) (Or.inl rfl) (Or.inl rfl) (Or.inl rfl) (Or.inl rfl) (Or.inl rfl) (Or.inl rfl) (Or.inl rfl) (Or.inl rfl) (Or.inl rfl), ⟨Or.inr ⟨by rw [g7]; exact hn, by rw [a7]; exact hfr.1, Or.inr (Or.inl ⟨a3, a5, ?_⟩)⟩, ?_⟩, a3, a4, a5, a7, a9⟩
  · unfold SPN
    rw [a4, eG, eP]
    exact a9
  · have e7 : τ 49 7 = σ 49 7 := chg_at c rfl rfl
    have e8 : τ 49 8 = σ 49 8 := chg_at c rfl rfl
    have e69 : τ 69 = σ 69 := chg_row c (fun _ => rfl) rfl
    have := hL.2
    unfold KNS at this ⊢
    rw [e7, e8, e69, eP, eG, g2, g3, g4, g7]
    exact this
/-- learnShape -/
theorem lrn_S (h : Core σ) (hL : CacheL σ) (hn : 0 < σ 100 16) : ∃ τ, (∀ d, Ev X (d + 21) 98 0 [some (vr 49), none] [] SH σ = some (none, SH, τ)) ∧ chg CAg CSg σ τ ∧ Core τ ∧ CacheL τ ∧ KNS τ := by
  by_cases y : σ 49 7 = 0
  · obtain ⟨σ1, a1, a2, a3, a4, a5, a6, a7, a8, a9⟩ := find_S (X := X) (a := -1) (fr := 0) h hL hn (by decide)
    obtain ⟨eG, eP⟩ := LG_cg a2 rfl
    obtain ⟨_, g2, g3, g4, _, _, g7, _⟩ := LM_cg (t := 0) (l := 0) a2 rfl
    -- the loop
    have lp : ∀ (m i : Nat) (τ : xM) (v : Int), i + m = 78 → τ 49 8 = v → (v = 0 ∨ v = 1) → ∃ τ', (∀ d, Ev X d 98 36 [some (vr 49), some (vi i)] [] SH τ = some (none, SH, τ')) ∧ chg [69] [(49, 7)] τ τ' ∧ τ' 49 7 = 1 ∧ (∀ s, i ≤ s → s < 78 → τ' 69 s = if v = 0 then τ 67 s else 0) ∧ ∀ s, s < i → τ' 69 s = τ 69 s := by
      intro m
      induction m with
      | zero =>
        intro i τ v e1 e2 e3
        refine ⟨xwr τ 49 7 1, fun d => ?_, chg_wr rfl chg_rf, xwr_eq, fun s h1 h2 => by omega, fun s hs => by rw [xwr_nk (by decide)]⟩
        rw [b98_36, if_pos (by omega), b98_74]
      | succ m ih =>
        intro i τ v e1 e2 e3
        obtain ⟨τ', p1, p2, p3, p4, p5⟩ := ih (i + 1) (xwr τ 69 i (if v = 0 then τ 67 i else 0)) v (by omega) (by rw [xwr_nk (by decide)]; exact e2) e3
        refine ⟨τ', fun d => ?_, chg_tr (chg_wr rfl chg_rf) p2, p3, fun s h1 h2 => ?_, fun s hs => ?_⟩
        · rw [b98_36, if_neg (by omega), b98_42, e2]
          by_cases z : v = 0
          · rw [if_pos z] at p1
            rw [if_pos z, b98_58 (by omega), b98_67 (by omega), Int.toNat_natCast, xad1 (by omega)]
            exact p1 d
          · rw [if_neg z] at p1
            rw [if_neg z, b98_54, b98_67 (by omega), Int.toNat_natCast, xad1 (by omega)]
            exact p1 d
        · by_cases z : s = i
          · rw [z, p5 i (by omega), xwr_eq]
          · rw [p4 s (by omega) h2, xwr_nk (by decide)]
        · rw [p5 s (by omega), xwr_nj (by omega)]
    have v01 : (if σ1 49 6 ≠ -2 then (0 : Int) else 1) = 0 ∨ (if σ1 49 6 ≠ -2 then (0 : Int) else 1) = 1 := by
      split
      · exact Or.inl rfl
      · exact Or.inr rfl
    obtain ⟨τ, p1, p2, p3, p4, p5⟩ := lp 78 0 (xwr σ1 49 8 (if σ1 49 6 ≠ -2 then 0 else 1)) _ (by omega) xwr_eq v01
    have c2 : chg [69] [(49, 7), (49, 8)] σ1 τ := chg_tr (chg_wr rfl chg_rf) (chg_mo (by decide) p2)
    obtain ⟨eG2, eP2⟩ := LG_cg c2 rfl
    obtain ⟨_, k2, k3, k4, _, _, k7, _⟩ := LM_cg (t := 0) (l := 0) c2 rfl
    have e8 : τ 49 8 = if σ1 49 6 ≠ -2 then 0 else 1 := by rw [chg_at p2 rfl rfl, xwr_eq]
    have kns : KNS τ := by
      unfold KNS
      rw [eP2, eP, eG2, eG, k2, k3, k4, g2, g3, g4, e8]
      rcases a9 with ⟨b1, b2⟩ | ⟨b1, b2, b3⟩
      · exact Or.inl ⟨b1, by rw [if_neg (fun z => z b2)]⟩
      · have ne : σ1 49 6 ≠ -2 := by rw [b2]; omega
        refine Or.inr ⟨b1, by rw [if_pos ne], fun s hs => ?_⟩
        rw [p4 s (by omega) (by omega), if_pos ne, if_pos rfl, xwr_nk (by decide)]
        have := b3.2.2.1 s hs
        rw [g2, g3, g4] at this
        exact this
    have cc : chg CAg CSg σ τ := chg_tr (chg_mo (by decide) a2) (chg_mo (by decide) c2)
    refine ⟨τ, fun d => ?_, cc, Core_chg h cc (Or.inl rfl) (Or.inl rfl) (Or.inl rfl) (Or.inl rfl) (Or.inl rfl) (Or.inl rfl) (Or.inl rfl) (Or.inl rfl) (Or.inl rfl) (Or.inl rfl), ⟨?_, Or.inr ⟨by rw [k7, g7]; exact hn, p3, kns⟩⟩, kns⟩
    · rw [b98_0, if_pos y]
      refine Eq.trans b98_8 ?_
      refine x_bind (a1 d) ?_
      dsimp only
      refine Eq.trans b98_16 ?_
      by_cases z : σ1 49 6 ≠ -2
      · rw [if_pos z] at p1
        rw [if_pos z, b98_30, b98_31 (Or.inl rfl)]
        exact p1 _
      · rw [if_neg z] at p1
        rw [if_neg z, b98_26, b98_31 (Or.inr rfl)]
        exact p1 _
    · have e3 : τ 49 3 = 1 := (chg_at c2 rfl rfl).trans a5
      have e4 : τ 49 4 = -1 := (chg_at c2 rfl rfl).trans a6
      have e5 : τ 49 5 = 0 := (chg_at c2 rfl rfl).trans a7
      have e6 : τ 49 6 = σ1 49 6 := chg_at c2 rfl rfl
      have e16 : τ 50 16 = 0 := (chg_at c2 rfl rfl).trans a8
      refine Or.inr ⟨by rw [k7, g7]; exact hn, by rw [e16]; omega, Or.inr (Or.inl ⟨e3, e5, ?_⟩)⟩
      unfold SPN
      rw [e4, e6, eP2, eP, eG2, eG]
      rcases a9 with a9 | ⟨b1, b2, b3⟩
      · exact Or.inl a9
      · refine Or.inr ⟨b1, b2, ?_⟩
        unfold REs RES at b3 ⊢
        rw [k2, k3, k4, show τ 50 = σ1 50 from chg_row c2 (fun _ => rfl) rfl, show τ (50 + 16) = σ1 (50 + 16) from chg_row c2 (fun _ => rfl) rfl, show τ (50 + 17) = σ1 (50 + 17) from chg_row c2 (fun _ => rfl) rfl, show τ (50 + 18) = σ1 (50 + 18) from chg_row c2 (fun _ => rfl) rfl]
        exact b3
  · rcases hL.2 with z | ⟨_, _, z⟩
    · exact absurd z y
    · refine ⟨σ, fun d => ?_, chg_rf, h, hL, z⟩
      rw [b98_0, if_neg y, b98_7]
/-- those of so many sticks -/
theorem LG_on {s : Nat} : (LG σ Fall (s : Int)).length = (LG σ Fall (-1)).countP (fun p => decide (nsum (fun c => wtB (BW (σ 102) (σ 107)) c (p c)) (nM σ) = s)) := by
  unfold LG lgW
  rw [List.countP_eq_length_filter, List.filter_filter]
  congr 1
  refine List.filter_congr (fun q _ => ?_)
  rw [Bool.eq_iff_iff, Bool.and_eq_true, gdB_iff, gdB_iff, decide_eq_true_iff]
  unfold GD LK
  constructor
  · intro ⟨h1, h2, h3, h4⟩
    exact ⟨by omega, h1, h2, Or.inl rfl, h4⟩
  · intro ⟨h0, h1, h2, _, h4⟩
    exact ⟨h1, h2, Or.inr (by rw [h0]), h4⟩
theorem PostC_mg {τ2 : xM} (c1 : chg CAg CSg σ τ) (c2 : chg [113, 114, 115, 121, 122, 123, 124, 125, 126, 127, 128] [(100, 47), (100, 48), (100, 49), (100, 51), (100, 52), (100, 53)] τ τ2) (hC : Core τ2) (hL : CacheL τ) : PostC σ τ2 := by
  refine ⟨hC, CacheL_eqp (eqp_ok rfl c2) hL, Or.inl (fun k j hk => ?_)⟩
  rw [eqp_ok (A := [70, 93, 94, 102, 107, 108, 110, 111]) (S := [(100, 16), (100, 17)]) rfl c2 k j hk, eqp_ok (A := [70, 93, 94, 102, 107, 108, 110, 111]) (S := [(100, 16), (100, 17)]) rfl c1 k j hk]
theorem pr_shape {a : Int} (h : Core σ) (hL : CacheL σ) : Pair X 24 256 [some (vr 0), some (vi a)] [some (vr 100), some (vi a)] σ (PostC σ) := by
  obtain ⟨e16, n0, n1⟩ := n_row h
  have f257e : ∀ σ : xM, f257 σ a = if 0 ≤ a ∧ a ≤ 77 then 1 else 0 := by
    intro σ
    unfold f257
    repeat' split
    all_goals omega
  by_cases bad : ¬ (0 ≤ a ∧ a ≤ 77) ∨ σ 23 0 = 0
  · refine ⟨-1, σ, σ, fun d => ?_, fun d => ?_, PostC_rf h hL⟩
    · rw [b24_0]
      by_cases y : a < 0
      · rw [if_pos y, b24_20]
      · rw [if_neg y, b24_4]
        by_cases z : 77 < a
        · rw [if_pos z, b24_20]
        · rw [if_neg z, b24_10, if_neg (fun w => w (bad.resolve_left (fun v => v ⟨by omega, by omega⟩))), b24_20]
    · rw [b256_0]
      by_cases y : σ 100 16 = 0
      · rw [if_pos y, b256_14, b256_24]
      · have nb : ¬ (0 ≤ a ∧ a ≤ 77) := bad.resolve_right (by omega)
        have n0 : ¬ ((0 : Int) ≠ 0) := by decide
        rw [if_neg y]
        refine Eq.trans b256_7 ?_
        refine x_bind s257 ?_
        dsimp only
        refine Eq.trans b256_11 ?_
        rw [f257e, if_neg nb, if_neg n0, b256_14, b256_24]
  · have y1 : 0 ≤ a ∧ a ≤ 77 := Classical.byContradiction (fun z => bad (Or.inl z))
    have y2 : σ 23 0 ≠ 0 := fun z => bad (Or.inr z)
    obtain ⟨s, rfl⟩ : ∃ s : Nat, a = s := ⟨a.toNat, by omega⟩
    obtain ⟨σ1, a1, a2, a3, a4, a5⟩ := lrn_S (X := X) h hL (by omega)
    have g7 : σ1 100 16 = σ 100 16 := (LM_cg (t := 0) (l := 0) a2 rfl).2.2.2.2.2.2.1
    have n6 : 0 < σ1 100 16 := by rw [g7]; omega
    obtain ⟨r, σ2, b1, b2, b3, b4, b5⟩ := mod_S (X := X) (σ := σ1) (nth := -1) (my := (s : Int)) (on := (s : Int)) a3 n6 (Or.inr ⟨by omega, rfl⟩)
    have cl : ∀ v, (if σ1 49 8 = 0 then σ1 69 s else -2) = v → ∀ d, Ev X (d + 100) 24 0 [some (vr 0), some (vi s)] [] SH σ = some (some (vi v), SH, σ1) := by
      intro v hv d
      rw [b24_0, if_neg (by omega), b24_4, if_neg (by omega), b24_10, if_pos y2]
      refine Eq.trans b24_22 ?_
      refine x_bind (a1 (d + 78)) ?_
      dsimp only
      refine Eq.trans b24_29 ?_
      by_cases z : σ1 49 8 = 0
      · rw [if_pos z] at hv
        rw [if_pos z, b24_44 (by omega), b24_53, Int.toNat_natCast, hv]
      · rw [if_neg z] at hv
        rw [if_neg z, b24_39, b24_53, hv]
    have md : ∀ d, Ev X (d + 100) 256 0 [some (vr 100), some (vi s)] [] SH σ1 = some (some (vi r), SH, σ2) := by
      intro d
      have i1 : (1 : Int) ≠ 0 := by decide
      rw [b256_0, if_neg (by omega)]
      refine Eq.trans b256_7 ?_
      refine x_bind s257 ?_
      dsimp only
      refine Eq.trans b256_11 ?_
      rw [f257e, if_pos y1, if_pos i1]
      refine Eq.trans b256_18 ?_
      refine x_bind (b1 (d + 93)) ?_
      exact b256_24
    rcases a5 with ⟨k1, k2⟩ | ⟨k1, k2, k3⟩
    · have r1 := b4 k1
      rw [r1] at md
      exact ⟨-2, σ1, σ2, cl (-2) (by rw [if_neg (by omega)]), md, PostC_mg a2 b2 b3 a4⟩
    · have r1 := ((b5 k1).1 (by decide)).1
      rw [r1] at md
      refine ⟨_, σ1, σ2, cl _ ?_, md, PostC_mg a2 b2 b3 a4⟩
      rw [if_pos k2, k3 s (by omega), LG_on]
end PRP

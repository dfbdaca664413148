/-! MENDS, in the model: seekMends -/
section MND
variable {X : Nat × (Nat → Int)} {μ τ : xM} {n len : Nat} {B : Nat → Nat → Int} {fg w : Nat → Int} {sy : Nat → Nat → Int} {cd : Nat → Int}
theorem s244 {k1 : Nat} (hk : isArr k1) (h126 : k1 ≠ 126) (hn : μ 100 16 = (n : Int)) (hn2 : n ≤ 11) : ∃ τ, (∀ d, Ev X d 244 0 [some (vr 100), some (vr k1), none] [] SH μ = some (none, SH, τ)) ∧ chs [126] [] μ τ ∧ ∀ c, c < n → τ 126 c = μ k1 c := by
  have lp : ∀ (m i : Nat) (τ : xM), i + m = n → chs [126] [] μ τ → (∀ c, c < i → τ 126 c = μ k1 c) → ∃ τ', (∀ d, Ev X d 244 2 [some (vr 100), some (vr k1), some (vi i)] [] SH τ = some (none, SH, τ')) ∧ chs [126] [] μ τ' ∧ ∀ c, c < n → τ' 126 c = μ k1 c := by
    intro m
    induction m with
    | zero =>
      intro i τ e1 e2 e3
      refine ⟨τ, fun d => ?_, e2, fun c hc => e3 c (by omega)⟩
      rw [b244_2, if_pos (by rw [e2 100 16 rfl, hn]; omega), b244_25]
    | succ m ih =>
      intro i τ e1 e2 e3
      have ek : τ k1 i = μ k1 i := e2 k1 i (by
        unfold pin
        simp only [List.contains_cons, List.contains_nil, Bool.or_false, beq_eq_false_iff_ne]
        exact h126)
      obtain ⟨τ', p1, p2, p3⟩ := ih (i + 1) (xwr τ 126 i (μ k1 i)) (by omega) (chs_wr rfl e2) (fun c hc => by
        by_cases y : c = i
        · rw [y, xwr_eq]
        · rw [xwr_nj y]
          exact e3 c (by omega))
      refine ⟨τ', fun d => ?_, p2, p3⟩
      rw [b244_2, if_neg (by rw [e2 100 16 rfl, hn]; omega), b244_10 hk (by omega), Int.toNat_natCast, ek, xad1 (by omega)]
      exact p1 d
  obtain ⟨τ, p1, p2, p3⟩ := lp n 0 μ (by omega) chs_rf (fun c hc => absurd hc (by omega))
  refine ⟨τ, fun d => ?_, p2, p3⟩
  rw [b244_0]
  exact p1 d
/-- begin -/
theorem s245' {a1 a2 : Int} (h : 0 < μ 100 16) (d : Nat) : Ev X d 245 0 [some (vr 100), some (vi a1), some (vi a2)] [] SH μ = some (none, SH, xwr (xwr (xwr (xwr (xwr (xwr μ 100 47 0) 124 0 (-1)) 127 0 0) 128 0 0) 100 48 a1) 100 49 a2) := by
  rw [b245_0, if_neg (by omega), b245_8, b245_13]
/-- where a search begins -/
theorem see_0 {mo : Nat → List Nat} {ct cl : Nat → Nat → Nat} {mg ml : Int} {bs : Nat → Int} (hn0 : 0 < n) (hn : n ≤ 11) (e16 : μ 100 16 = (n : Int)) (e107 : μ 107 = fg) (e102 : μ 102 = w) (hf : ∀ c, c < n → fg c = 0 ∨ fg c = 1) (hbs : ∀ c, c < n → μ 110 c = bs c ∧ 0 ≤ bs c ∧ bs c < 128) (hot : ∀ c, c < n → OT1 B c (mo c) μ) (hB : ∀ c, c < n → ∀ i, i ∈ mo c → (0 ≤ B c i ∧ B c i < 128) ∧ rdB w (fg c) (B c i) = sy c i) (hct : ∀ c i, ct c i = dfN (bs c) (B c i)) (hcl : ∀ c i, cl c i = dfN (B c i) (bs c)) (hw : WFP cd len) (hl : len ≤ 200) (en : ∀ i, i < len → enc (cd i) (μ 118 i) (μ 119 i)) (e35 : μ 100 35 = (len : Int)) (G : (Nat → Nat) → Bool) (hG : ∀ q, G q = true ↔ fit mg ml (nsum (fun c => ct c (q c)) n) (nsum (fun c => cl c (q c)) n)) : ∃ μ1 μ2, (∀ d, Ev X d 244 0 [some (vr 100), some (vr 110), none] [] SH μ = some (none, SH, μ1)) ∧ (∀ d, Ev X d 245 0 [some (vr 100), some (vi mg), some (vi ml)] [] SH μ1 = some (none, SH, μ2)) ∧ chg [124, 126, 127, 128] [(100, 47), (100, 48), (100, 49)] μ μ2 ∧ SCN n mo ct cl B mg ml fg w sy cd len μ2 ∧ ADVB X n mo ct cl B G ((enumF mo n 0 (fun _ => 0)).filter G) μ2 ∧ μ2 100 47 = 0 ∧ μ2 124 0 = -1 ∧ μ2 127 0 = 0 ∧ μ2 128 0 = 0 := by
  obtain ⟨μ1, a1, a2, a3⟩ := s244 (X := X) (k1 := 110) rfl (by decide) e16 hn
  have e16' : μ1 100 16 = (n : Int) := (a2 100 16 rfl).trans e16
  have sb := s245' (X := X) (μ := μ1) (a1 := mg) (a2 := ml) (by omega)
  generalize hμ : xwr (xwr (xwr (xwr (xwr (xwr μ1 100 47 0) 124 0 (-1)) 127 0 0) 128 0 0) 100 48 mg) 100 49 ml = μ2 at sb
  have c2 : chs [124, 127, 128] [(100, 47), (100, 48), (100, 49)] μ1 μ2 := by
    rw [← hμ]
    exact chs_wr rfl (chs_wr rfl (chs_wr rfl (chs_wr rfl (chs_wr rfl (chs_wr rfl chs_rf)))))
  have cc : chg [124, 126, 127, 128] [(100, 47), (100, 48), (100, 49)] μ μ2 := chg_tr (chg_mo (by decide) (chs_g a2)) (chg_mo (by decide) (chs_g c2))
  have S2 : SCN n mo ct cl B mg ml fg w sy cd len μ2 := by
    refine ⟨⟨(chg_at cc rfl rfl).trans e16, hn, ?_, ?_, fun c hc => ?_⟩, hn0, (chg_row cc (fun _ => rfl) rfl).trans e107, (chg_row cc (fun _ => rfl) rfl).trans e102, hf, fun c hc i hi => ⟨(hB c hc i hi).2, by rw [hct]; exact dfN_7, by rw [hcl]; exact dfN_7⟩, hw, hl, ?_, (chg_at cc rfl rfl).trans e35⟩
    · rw [← hμ, xwr_nj (by decide), xwr_eq]
    · rw [← hμ, xwr_eq]
    · obtain ⟨o1, o2, o3⟩ := hot c hc
      have e126 : μ2 126 c = bs c := by
        rw [c2 126 c rfl, a3 c hc]
        exact (hbs c hc).1
      rw [e126, show μ2 123 = μ 123 from chg_row cc (fun _ => rfl) rfl, show μ2 122 = μ 122 from chg_row cc (fun _ => rfl) rfl]
      refine ⟨o1, o2, (hbs c hc).2, fun e he => ⟨o3 e he, (hB c hc _ (List.getElem_mem he)).1, (hct c _).symm, (hcl c _).symm⟩⟩
    · rw [show μ2 118 = μ 118 from chg_row cc (fun _ => rfl) rfl, show μ2 119 = μ 119 from chg_row cc (fun _ => rfl) rfl]
      exact en
  have z1 : μ2 100 47 = 0 := by rw [← hμ]; simp (disch := decide) only [xwr_nk, xwr_nj, xwr_eq]
  have z2 : μ2 124 0 = -1 := by rw [← hμ]; simp (disch := decide) only [xwr_nk, xwr_nj, xwr_eq]
  have z3 : μ2 127 0 = 0 := by rw [← hμ]; simp (disch := decide) only [xwr_nk, xwr_nj, xwr_eq]
  have z4 : μ2 128 0 = 0 := by rw [← hμ]; simp (disch := decide) only [xwr_nk, xwr_nj, xwr_eq]
  exact ⟨μ1, μ2, a1, sb, cc, S2, ADVB_1 S2 hG z1 z2 z3 z4, z1, z2, z3, z4⟩
/-- seekMends -/
theorem s241 {ct cl : Nat → Nat → Nat} {t l nth : Int} {bs : Nat → Int} (mo : Nat → List Nat) (hmo : ∀ c, c < n → mo c = List.range (nz (wF (fg c) w) 20)) (hn0 : 0 < n) (hn : n ≤ 11) (e16 : μ 100 16 = (n : Int)) (e107 : μ 107 = fg) (e102 : μ 102 = w) (hf : ∀ c, c < n → fg c = 0 ∨ fg c = 1) (hbs : ∀ c, c < n → μ 110 c = bs c ∧ 0 ≤ bs c ∧ bs c < 128) (hBk : ∀ c, c < n → ∀ k, k < 20 → wF (fg c) w k ≠ 0 → B c (nz (wF (fg c) w) k) = wF (fg c) w k) (hB : ∀ c, c < n → ∀ i, i ∈ mo c → (0 ≤ B c i ∧ B c i < 128) ∧ rdB w (fg c) (B c i) = sy c i) (hct : ∀ c i, ct c i = dfN (bs c) (B c i)) (hcl : ∀ c i, cl c i = dfN (B c i) (bs c)) (hw : WFP cd len) (hl : len ≤ 200) (en : ∀ i, i < len → enc (cd i) (μ 118 i) (μ 119 i)) (e35 : μ 100 35 = (len : Int)) (G : (Nat → Nat) → Bool) (hG : ∀ q, G q = true ↔ fit t l (nsum (fun c => ct c (q c)) n) (nsum (fun c => cl c (q c)) n)) (hnth : nth < 0 ∨ 0 ≤ nth) (hc : (((enumF mo n 0 (fun _ => 0)).filter G).filter (gdB (GDM n B fg sy cd len (-1)))).length < 1500000000) : ∃ (r : Int) (τ : xM), (∀ d, Ev X (d + 5) 241 0 [some (vr 100), some (vi t), some (vi l), some (vi nth), none, none, none] [] SH μ = some (some (vi r), SH, τ)) ∧ chg [113, 114, 115, 121, 122, 123, 124, 125, 126, 127, 128] [(100, 47), (100, 48), (100, 49), (100, 51)] μ τ ∧ τ 100 51 = 1 ∧ (nth < 0 → r = ((((enumF mo n 0 (fun _ => 0)).filter G).filter (gdB (GDM n B fg sy cd len (-1)))).length : Int)) ∧ (∀ i : Nat, nth = (i : Int) → ∀ h : i < (((enumF mo n 0 (fun _ => 0)).filter G).filter (gdB (GDM n B fg sy cd len (-1)))).length, r = nth ∧ ∀ c, c < n → τ 125 c = B c ((((enumF mo n 0 (fun _ => 0)).filter G).filter (gdB (GDM n B fg sy cd len (-1))))[i] c)) ∧ (∀ i : Nat, nth = (i : Int) → (((enumF mo n 0 (fun _ => 0)).filter G).filter (gdB (GDM n B fg sy cd len (-1)))).length ≤ i → r = -1) := by
  obtain ⟨μ1, a1, a2, a3⟩ := s242 (X := X) (μ := xwr μ 100 51 1) (n := n) (fg := fg) (w := w) (B := B) (alw := fun _ _ => 1) hn (by rw [xwr_nj (by decide)]; exact e16) ((xwr_row (by decide)).trans e107) ((xwr_row (by decide)).trans e102) hBk (fun c k τ hc hk hv hs d => s243f (by rw [hs 100 51 rfl, xwr_eq]; decide) d) mo (fun c hc => by
    rw [hmo c hc]
    exact (List.filter_eq_self.mpr (fun i hi => by decide)).symm)
  have c1 : chg [122, 123] [(100, 51)] μ μ1 := chg_tr (chg_wr rfl chg_rf) (chg_mo (by decide) (chs_g a2))
  obtain ⟨μ2, μ3, b1, b2, b3, b4, b5, _⟩ := see_0 (X := X) (μ := μ1) (mo := mo) (ct := ct) (cl := cl) (mg := t) (ml := l) (bs := bs) hn0 hn ((chg_at c1 rfl rfl).trans e16) ((chg_row c1 (fun _ => rfl) rfl).trans e107) ((chg_row c1 (fun _ => rfl) rfl).trans e102) hf (by rw [show μ1 110 = μ 110 from chg_row c1 (fun _ => rfl) rfl]; exact hbs) a3 hB hct hcl hw hl (by rw [show μ1 118 = μ 118 from chg_row c1 (fun _ => rfl) rfl, show μ1 119 = μ 119 from chg_row c1 (fun _ => rfl) rfl]; exact en) ((chg_at c1 rfl rfl).trans e35) G hG
  obtain ⟨r, τ, p1, p2, p3, p4, p5⟩ := it241 (X := X) (nth := nth) hG ((enumF mo n 0 (fun _ => 0)).filter G) μ3 0 b4 b5 (by omega) (by omega)
  refine ⟨r, τ, fun d => ?_, chg_tr (chg_mo (by decide) c1) (chg_tr (chg_mo (by decide) b3) (chg_mo (by decide) p2)), by rw [chg_at p2 rfl rfl, chg_at b3 rfl rfl, a2 100 51 rfl, xwr_eq], fun y => by rw [p3 y]; omega, fun i hi h => p4 i (by rw [Nat.zero_add]; exact hi) h, fun i hi h => p5 i (by rw [Nat.zero_add]; exact hi) h⟩
  refine Eq.trans b241_0 ?_
  refine x_bind (a1 (d + 2)) ?_
  dsimp only
  refine Eq.trans b241_9 ?_
  refine x_bind (b1 _) ?_
  dsimp only
  refine Eq.trans b241_19 ?_
  refine x_bind (b2 _) ?_
  dsimp only
  refine Eq.trans b241_25 ?_
  exact p1 d _ _ _ _
end MND

/-! WANTED: the model's operands -/
section WMO
variable {X : Nat × (Nat → Int)} {σ μ τ ν ρ : xM} {a h m n L : Nat} {tx : Nat → Int} {c r md m' v : Int}
theorem o24 {a2 : Int} (hk : ∀ d, Ev X (d + 1) 238 0 [some (vr 100)] [] SH μ = some (some (vi v), SH, μ)) (d : Nat) : Ev X (d + 2) 237 19 [some (vr 100), some (vi md), none, none, none] [vi a2] SH μ = Ev X (d + 2) 237 51 [some (vr 100), some (vi md), some (vi a2), some (vi v), none] [vi (if μ 100 6 = 2 ∨ μ 100 6 = 40 ∨ 0 ≤ v then 1 else 0)] SH μ := by
  refine Eq.trans b237_19 ?_
  refine x_bind (hk d) ?_
  dsimp only
  refine Eq.trans b237_24 ?_
  by_cases c1 : μ 100 6 = 2
  · rw [if_pos c1, b237_46, if_pos (Or.inl c1)]
  · rw [if_neg c1, b237_33]
    by_cases c2 : μ 100 6 = 40
    · rw [if_pos c2, b237_46, if_pos (Or.inr (Or.inl c2))]
    · rw [if_neg c2, b237_42]
      by_cases c3 : v < 0
      · rw [if_pos c3, b237_50, if_neg (by omega)]
      · rw [if_neg c3, b237_46, if_pos (by omega)]
theorem o98 {a2 : Int} (h2 : μ 100 2 = 0) (f2 : 0 < g206 μ 2 100 2) (d : Nat) {o4 : Option xV} : Ev X (d + 1) 237 98 [some (vr 100), some (vi md), some (vi a2), some (vi v), o4] [] SH μ = some (some (vi md), SH, g206 μ 2) := by
  refine Eq.trans b237_98 ?_
  refine x_bind s206 ?_
  dsimp only
  refine Eq.trans b237_103 ?_
  rw [if_neg (by omega), b237_110]
/-- 'not' -/
theorem o_not (hw : f205 μ 7237492 = 1) (hk : ∀ d, Ev X (d + 1) 238 0 [some (vr 100)] [] SH μ = some (some (vi (-1)), SH, μ)) (d : Nat) : Ev X (d + 2) 237 0 [some (vr 100), some (vi 0), none, none, none] [] SH μ = Ev X (d + 2) 237 89 [some (vr 100), some (vi 0), some (vi 1), some (vi (-1)), some (vi 0)] [] SH μ := by
  have h6 := f205_1 (μ := μ) (k := 7237492) (by omega)
  rw [b237_0, if_neg (by decide)]
  refine Eq.trans b237_4 ?_
  refine x_bind s205 ?_
  dsimp only
  refine Eq.trans b237_11 ?_
  rw [hw, if_neg (by decide), b237_14, o24 hk, if_neg (by omega), b237_51, if_pos (by decide), b237_62, if_pos rfl, b237_76, if_pos (by decide)]
theorem m_not (hb : ∀ i, 0 ≤ tx i ∧ tx i ≤ 255) (hn : n ≤ 200) (ha : a ≤ 6) (hJ : JW tx n a h 0 L σ μ) (hw : f205 μ 7237492 = 1) (hk : ∀ d, Ev X (d + 1) 238 0 [some (vr 100)] [] SH μ = some (some (vi (-1)), SH, μ)) : ∃ τ ν, (∀ d, Ev X (d + 5) 159 0 [some (vr 1), none] [] SH σ = some (none, SH, τ)) ∧ MR X 0 μ 0 ν ∧ JW tx n (a + 1) (h + 1) 0 L τ ν ∧ ν 120 h = 22 ∧ (∀ j, j < h → ν 120 j = μ 120 j) ∧ chg [] CT σ τ ∧ chg [116, 117, 120] WM μ ν := by
  have h6 := f205_1 (μ := μ) (k := 7237492) (by omega)
  obtain ⟨k3, k1, k0, k2, k4, k8⟩ := TK_kd hJ.1.2.1
  have h39 : μ 100 39 = (a : Int) := by
    obtain ⟨k, _, _, _, _, _, _, _, e8, _⟩ := hJ.2.1
    rw [e8, c22]
    omega
  obtain ⟨τ, ν1, ν, p1, p2, p3, p4, p5, p6, p7, p8⟩ := sj_hold (X := X) (c := 22) (a' := a + 1) hb (by rw [if_pos (Or.inr rfl)]; omega) hn (by omega) hJ (by omega) (by omega)
  have h2 := hJ.1.2.2.2
  refine ⟨τ, ν, p1, MR_op (by decide) h2 (fun d => ?_), p4, p5, p6, p7, chg_mo (by decide) p8⟩
  rw [o_not hw hk, b237_89, if_pos (by omega), b237_103, if_pos (by omega), b237_112, if_neg (by decide)]
  refine Eq.trans b237_116 ?_
  refine x_bind (p2 _) ?_
  dsimp only
  refine Eq.trans b237_122 ?_
  refine x_bind (p3 _) ?_
  exact b237_126
theorem m_nbad (hb : ∀ i, 0 ≤ tx i ∧ tx i ≤ 255) (hn : n ≤ 200) (ha : 7 ≤ a) (hJ : JW tx n a h 0 L σ μ) (hw : f205 μ 7237492 = 1) (hk : ∀ d, Ev X (d + 1) 238 0 [some (vr 100)] [] SH μ = some (some (vi (-1)), SH, μ)) : MR X 0 μ 0 (g206 μ 2) ∧ f168 σ = 0 ∧ FL (g168 σ) (g206 μ 2) ∧ chg [] CT σ (g168 σ) ∧ chg [] CM μ (g206 μ 2) := by
  have h39 : μ 100 39 = (a : Int) := by
    obtain ⟨k, _, _, _, _, _, _, _, e8, _⟩ := hJ.2.1
    rw [e8, c22]
    omega
  have hT := hJ.1
  obtain ⟨r1, r2, r3, r4⟩ := tk_rf (X := X) (RS_w (by omega) hb) hT.2.1 hT.2.2.2
  refine ⟨MR_op (by decide) hT.2.2.2 (fun d => ?_), r1, r2, r3, r4⟩
  rw [o_not hw hk, b237_89, if_neg (by omega), o98 hT.2.2.2 r2.2.2]
/-- no 'not', or none that may stand here -/
theorem o_no (hm : md ≠ 0 ∨ f205 μ 7237492 = 0) (hk : ∀ d, Ev X (d + 1) 238 0 [some (vr 100)] [] SH μ = some (some (vi v), SH, μ)) (d : Nat) : Ev X (d + 2) 237 0 [some (vr 100), some (vi md), none, none, none] [] SH μ = Ev X (d + 2) 237 57 [some (vr 100), some (vi md), some (vi 0), some (vi v), some (vi (if μ 100 6 = 2 ∨ μ 100 6 = 40 ∨ 0 ≤ v then 1 else 0))] [] SH μ := by
  have e : Ev X (d + 2) 237 0 [some (vr 100), some (vi md), none, none, none] [] SH μ = Ev X (d + 2) 237 19 [some (vr 100), some (vi md), none, none, none] [vi 0] SH μ := by
    rw [b237_0]
    by_cases y : md = 0
    · have hm := hm.resolve_left (fun z => z y)
      rw [if_neg (fun z => z y)]
      refine Eq.trans b237_4 ?_
      refine x_bind s205 ?_
      dsimp only
      refine Eq.trans b237_11 ?_
      rw [hm, if_pos rfl, b237_18]
    · rw [if_pos y, b237_18]
  rw [e, o24 hk, b237_51, if_neg (by decide)]
theorem m_ubad (hb : ∀ i, 0 ≤ tx i ∧ tx i ≤ 255) (hn : n ≤ 200) (h2 : md ≠ 2) (hm : md ≠ 0 ∨ f205 μ 7237492 = 0) (hJ : JW tx n a h 0 L σ μ) (hk : ∀ d, Ev X (d + 1) 238 0 [some (vr 100)] [] SH μ = some (some (vi v), SH, μ)) (hw : (¬ (μ 100 6 = 2 ∨ μ 100 6 = 40 ∨ 0 ≤ v)) ∨ μ 100 36 = 40 ∨ (μ 100 6 = 40 ∧ 7 ≤ a)) : MR X md μ md (g206 μ 2) ∧ f168 σ = 0 ∧ FL (g168 σ) (g206 μ 2) ∧ chg [] CT σ (g168 σ) ∧ chg [] CM μ (g206 μ 2) := by
  have h39 : μ 100 39 = (a : Int) := by
    obtain ⟨k, _, _, _, _, _, _, _, e8, _⟩ := hJ.2.1
    rw [e8, c22]
    omega
  have hT := hJ.1
  obtain ⟨r1, r2, r3, r4⟩ := tk_rf (X := X) (RS_w (by omega) hb) hT.2.1 hT.2.2.2
  refine ⟨MR_op h2 hT.2.2.2 (fun d => ?_), r1, r2, r3, r4⟩
  rw [o_no hm hk, b237_57]
  by_cases y : μ 100 6 = 2 ∨ μ 100 6 = 40 ∨ 0 ≤ v
  · rw [if_pos y, if_neg (by decide), b237_62, if_neg (by decide), b237_67]
    by_cases z : μ 100 36 = 40
    · rw [if_pos z, o98 hT.2.2.2 r2.2.2]
    · rw [if_neg z, b237_76, if_neg (by decide), b237_80, if_neg (by omega), b237_89, if_neg (by omega), o98 hT.2.2.2 r2.2.2]
  · rw [if_neg y, if_pos rfl, o98 hT.2.2.2 r2.2.2]
theorem o_yes (h2 : μ 100 2 = 0) (hm : md ≠ 0 ∨ f205 μ 7237492 = 0) (hk : ∀ d, Ev X (d + 1) 238 0 [some (vr 100)] [] SH μ = some (some (vi v), SH, μ)) (hy : μ 100 6 = 2 ∨ μ 100 6 = 40 ∨ 0 ≤ v) (h36 : μ 100 36 ≠ 40) (h39 : μ 100 6 ≠ 40 ∨ μ 100 39 < 7) (d : Nat) : Ev X (d + 2) 237 0 [some (vr 100), some (vi md), none, none, none] [] SH μ = Ev X (d + 2) 237 128 [some (vr 100), some (vi md), some (vi 0), some (vi v), some (vi 1)] [] SH μ := by
  rw [o_no hm hk, b237_57, if_pos hy, if_neg (by decide), b237_62, if_neg (by decide), b237_67, if_neg h36, b237_76, if_neg (by decide), b237_80]
  by_cases z : μ 100 6 = 40
  · rw [if_neg (fun w => w z), b237_89, if_pos (by omega), b237_103, if_pos (by omega), b237_112, if_pos rfl]
  · rw [if_pos z, b237_103, if_pos (by omega), b237_112, if_pos rfl]
/-- one operand more -/
theorem J36 (hJ : JW tx n a h 0 L σ μ) (h36 : μ 100 36 < 40) : JW tx n a h 0 L (xwr σ 10 6 (xadd (σ 10 6) 1)) (xwr μ 100 36 (xadd (μ 100 36) 1)) := by
  obtain ⟨hT, hS, hB⟩ := hJ
  obtain ⟨k, e1, e2, e3, e4, e5, e6, ⟨e7, e7', e7''⟩, e8, e9⟩ := hS
  have xs : xadd (σ 10 6) 1 = σ 10 6 + 1 := xadd_eq (by omega) (by omega)
  have xm : xadd (μ 100 36) 1 = μ 100 36 + 1 := xadd_eq (by omega) (by omega)
  refine ⟨TJ_cc (chg_wr rfl chg_rf) (chg_wr rfl chg_rf) hT, ⟨k, e1, ?_, ?_, ?_, ?_, fun i hi => absurd hi (by omega), ?_, ?_, ?_⟩, ?_⟩
  · rw [xwr_nj (by decide)]; exact e2
  · rw [xwr_nj (by decide)]; exact e3
  · rw [xwr_nj (by decide)]; exact e4
  · rw [xwr_row (by decide), xwr_row (by decide), xwr_row (by decide)]; exact e5
  · rw [xwr_eq, xwr_eq, xs, xm]; omega
  · rw [xwr_nj (by decide), xwr_row (by decide)]; exact e8
  · rw [xwr_row (by decide), xwr_eq, xs]
    intro i hi
    have := e9 i hi
    omega
  · rw [xwr_nj (by decide)]; exact hB
theorem m_open (hb : ∀ i, 0 ≤ tx i ∧ tx i ≤ 255) (hn : n ≤ 200) (ha : a ≤ 6) (hd : md ≠ 2) (hm : md ≠ 0 ∨ f205 μ 7237492 = 0) (hJ : JW tx n a h 0 L σ μ) (hk : ∀ d, Ev X (d + 1) 238 0 [some (vr 100)] [] SH μ = some (some (vi v), SH, μ)) (h6 : μ 100 6 = 40) (h36 : μ 100 36 < 40) : ∃ τ ν, (∀ d, Ev X (d + 5) 159 0 [some (vr 1), none] [] SH (xwr σ 10 6 (xadd (σ 10 6) 1)) = some (none, SH, τ)) ∧ MR X md μ 0 ν ∧ JW tx n (a + 1) (h + 1) 0 L τ ν ∧ ν 120 h = 30 ∧ (∀ j, j < h → ν 120 j = μ 120 j) ∧ τ 12 = σ 12 ∧ chg [12] WC σ τ ∧ chg [116, 117, 120] WM μ ν := by
  obtain ⟨k3, k1, k0, k2, k4, k8⟩ := TK_kd hJ.1.2.1
  have h39 : μ 100 39 = (a : Int) := by
    obtain ⟨k, _, _, _, _, _, _, _, e8, _⟩ := hJ.2.1
    rw [e8, c22]
    omega
  have j5 : (xwr σ 10 6 (xadd (σ 10 6) 1)) 1 5 = σ 1 5 := xwr_nk (by decide)
  obtain ⟨τ, ν1, ν, p1, p2, p3, p4, p5, p6, p7, p8⟩ := sj_hold (X := X) (c := 30) (a' := a + 1) hb (by rw [if_pos (Or.inl rfl)]; omega) hn (by omega) (J36 hJ h36) (by omega) (by omega)
  have h2 := hJ.1.2.2.2
  rw [xwr_row (by decide)] at p6
  refine ⟨τ, ν, p1, MR_op hd h2 (fun d => ?_), p4, p5, p6, (chg_row p7 (fun _ => rfl) rfl).trans (xwr_row (by decide)), chg_tr (chg_wr rfl chg_rf) (chg_mo (by decide) p7), chg_tr (chg_wr rfl chg_rf) (chg_mo (by decide) p8)⟩
  rw [o_yes h2 hm hk (Or.inr (Or.inl h6)) (by omega) (Or.inr (by omega)), b237_128, if_neg (fun z => z h6)]
  refine Eq.trans b237_147 ?_
  refine x_bind (p2 _) ?_
  dsimp only
  refine Eq.trans b237_153 ?_
  refine x_bind (p3 _) ?_
  exact b237_157
theorem m_leaf {x : Int} (hb : ∀ i, 0 ≤ tx i ∧ tx i ≤ 255) (hn : n ≤ 200) (hd : md ≠ 2) (hm : md ≠ 0 ∨ f205 μ 7237492 = 0) (hJ : JW tx n a h 0 L σ μ) (hk : ∀ d, Ev X (d + 1) 238 0 [some (vr 100)] [] SH μ = some (some (vi v), SH, μ)) (h6 : μ 100 6 ≠ 40) (h36 : μ 100 36 < 40) (hx : (σ 1 5 = 2 ∧ x = σ 1 8 ∧ v = -1) ∨ (σ 1 5 = 1 ∧ ((x = -1 ∧ v = 1) ∨ (x = -2 ∧ v = 2) ∨ (x = -3 ∧ v = 3) ∨ (x = -4 ∧ v = 4)))) : ∃ τ1 τ ν, (∀ d, Ev X (d + 5) 159 0 [some (vr 1), none] [] SH (xwr σ 10 6 (xadd (σ 10 6) 1)) = some (none, SH, τ1)) ∧ (∀ d, Ev X d 82 0 [some (vr 10), some (vi x)] [] SH τ1 = some (some (vi 1), SH, τ)) ∧ MR X md μ 2 ν ∧ JW tx n a h 0 (L + 1) τ ν ∧ (∀ j, j < h → ν 120 j = μ 120 j) ∧ GR L σ τ (L + 1) ∧ chg [12] WC σ τ ∧ chg [116, 117, 120] WM μ ν := by
  obtain ⟨k3, k1, k0, k2, k4, k8⟩ := TK_kd hJ.1.2.1
  have x8 : σ 1 5 = 2 → σ 1 8 = μ 100 8 ∧ 0 ≤ σ 1 8 ∧ σ 1 8 ≤ 9999 := by
    intro z
    have u := hJ.1.2.2.1.2 z
    refine ⟨?_, u⟩
    clear hm hx
    obtain ⟨q, e, g6, g7, g8, hq, he, hT⟩ := hJ.1.2.1
    rcases hT with t | t | t | t | t
    · omega
    · omega
    · exact t.2.2.2
    · omega
    · omega
  have en : enc x (if 0 ≤ v then v else 0) (μ 100 8) := by
    unfold enc
    rcases hx with ⟨x1, x2, x3⟩ | ⟨x1, x2⟩
    · obtain ⟨w1, w2, w3⟩ := x8 x1
      rw [x3, if_neg (by decide), x2]
      exact Or.inl ⟨w2, w3, rfl, w1.symm⟩
    · rcases x2 with ⟨y1, y2⟩ | ⟨y1, y2⟩ | ⟨y1, y2⟩ | ⟨y1, y2⟩
      · rw [y1, y2]
        exact Or.inr (Or.inl ⟨rfl, rfl⟩)
      · rw [y1, y2]
        exact Or.inr (Or.inr (Or.inl ⟨rfl, rfl⟩))
      · rw [y1, y2]
        exact Or.inr (Or.inr (Or.inr (Or.inl ⟨rfl, rfl⟩)))
      · rw [y1, y2]
        exact Or.inr (Or.inr (Or.inr (Or.inr (Or.inl ⟨rfl, rfl⟩))))
  have dx : dl x = 1 := by
    unfold dl
    rw [if_pos (by
      rcases hx with ⟨x1, x2, x3⟩ | ⟨x1, x2⟩
      · have := x8 x1
        omega
      · omega)]
  have h2 := hJ.1.2.2.2
  have bd := TJ_le hJ.1 hn
  obtain ⟨hT, hS, hB⟩ := J36 hJ h36
  have q10 : (xwr σ 10 6 (xadd (σ 10 6) 1)) 10 6 = σ 10 6 + 1 ∧ σ 10 6 ≤ 40 := by
    obtain ⟨k, e1, e2, e3, e4, e5, e6, ⟨e7, e7', e7''⟩, e8, e9⟩ := hJ.2.1
    rw [xwr_eq, xadd_eq (by omega) (by omega)]
    omega
  have d9 : ∀ i, i ≤ L → dp (σ 12) i ≤ σ 10 6 := by
    obtain ⟨k, e1, e2, e3, e4, e5, e6, ⟨e7, e7', e7''⟩, e8, e9⟩ := hJ.2.1
    exact e9
  have j5 : (xwr σ 10 6 (xadd (σ 10 6) 1)) 1 5 = σ 1 5 := xwr_nk (by decide)
  have m8 : (xwr μ 100 36 (xadd (μ 100 36) 1)) 100 8 = μ 100 8 := xwr_nj (by decide)
  have m120 : (xwr μ 100 36 (xadd (μ 100 36) 1)) 120 = μ 120 := xwr_row (by decide)
  have s12 : (xwr σ 10 6 (xadd (σ 10 6) 1)) 12 = σ 12 := xwr_row (by decide)
  have m7 : (xwr μ 100 36 (xadd (μ 100 36) 1)) 100 7 = μ 100 7 := xwr_nj (by decide)
  have cS : chg [12] WC σ (xwr σ 10 6 (xadd (σ 10 6) 1)) := chg_wr rfl chg_rf
  have cM : chg [116, 117, 120] WM μ (xwr μ 100 36 (xadd (μ 100 36) 1)) := chg_wr rfl chg_rf
  have step : ∀ d, Ev X (d + 2) 237 0 [some (vr 100), some (vi md), none, none, none] [] SH μ = Ev X (d + 2) 237 169 [some (vr 100), some (vi md), some (vi 0), some (vi v), some (vi 1)] [vi (if 0 ≤ v then v else 0), vr 100] SH (xwr μ 100 36 (xadd (μ 100 36) 1)) := by
    intro d
    rw [o_yes h2 hm hk (by omega) (by omega) (Or.inl h6), b237_128, if_pos h6, b237_159]
    by_cases y : 0 ≤ v
    · rw [if_pos y, if_pos y, b237_168]
    · rw [if_neg y, if_neg y, b237_164]
  generalize xwr σ 10 6 (xadd (σ 10 6) 1) = σ1 at *
  generalize xwr μ 100 36 (xadd (μ 100 36) 1) = μ1 at *
  obtain ⟨k, e1, e2, e3, e4, e5, e6, e7, e8, e9⟩ := hS
  rw [Nat.add_zero] at e1 e4
  subst e1
  rw [c22] at e8
  have xk : xadd (k : Int) 1 = ((k + 1 : Nat) : Int) := xadd_eq (by omega) (by omega)
  generalize hν : xwr (xwr (xwr μ1 116 k (if 0 ≤ v then v else 0)) 117 k (μ 100 8)) 100 34 ((k + 1 : Nat) : Int) = ν2
  have g2 : g234 μ1 (if 0 ≤ v then v else 0) (μ1 100 8) = ν2 := by
    unfold g234
    rw [e2, Int.toNat_natCast, xk, m8, hν]
  have c2 : chg [116, 117] [(100, 34)] μ1 ν2 := by
    rw [← hν]
    exact chg_wr rfl (chg_wr rfl (chg_wr rfl chg_rf))
  have n34 : ν2 100 34 = ((k + 1 : Nat) : Int) := by rw [← hν, xwr_eq]
  have n116 : ∀ j, ν2 116 j = if j = k then (if 0 ≤ v then v else 0) else μ1 116 j := by
    intro j
    rw [← hν, xwr_row (by decide), xwr_row (by decide), xwr_rw]
  have n117 : ∀ j, ν2 117 j = if j = k then μ 100 8 else μ1 117 j := by
    intro j
    rw [← hν, xwr_row (by decide), xwr_rw, xwr_row (by decide)]
  obtain ⟨τ1, ν, q1, q2, q3, q4, q5, q6⟩ := tj_adv (X := X) hb hn (TJ_cc chg_rf (chg_mo (by decide) c2) hT) (by omega) (by omega)
  have t5 : τ1 10 5 = (k : Int) := (chg_at q3 rfl rfl).trans e3
  have t6 : τ1 10 6 = σ1 10 6 := chg_at q3 rfl rfl
  have t12 : τ1 12 = σ 12 := (chg_row q3 (fun _ => rfl) rfl).trans s12
  have v7 : ν2 100 7 = μ1 100 7 := chg_at c2 rfl rfl
  have v120 : ν 120 = μ 120 := (chg_row q4 (fun _ => rfl) rfl).trans ((chg_row c2 (fun _ => rfl) rfl).trans m120)
  have r12 : ∀ i, (xwr (xwr τ1 12 k x) 10 5 ((k + 1 : Nat) : Int)) 12 i = if i = k then x else σ 12 i := by
    intro i
    rw [xwr_row (by decide), xwr_rw, t12]
  have ct : chg [12] WC0 τ1 (xwr (xwr τ1 12 k x) 10 5 ((k + 1 : Nat) : Int)) := chg_wr rfl (chg_wr rfl chg_rf)
  have dk : dp ((xwr (xwr τ1 12 k x) 10 5 ((k + 1 : Nat) : Int)) 12) (k + 1) = dp (σ 12) k + 1 := by
    rw [dp, r12, if_pos rfl, dx, dp_cg k (fun j hj => (r12 j).trans (if_neg (by omega)))]
  refine ⟨τ1, xwr (xwr τ1 12 k x) 10 5 ((k + 1 : Nat) : Int), ν, q1, fun d => ?_, MR_op hd h2 (fun d => ?_), ⟨TJ_cc ct chg_rf q5, ⟨k + 1, rfl, ?_, xwr_eq, ?_, fun j hj => ?_, fun i hi => absurd hi (by omega), ?_, ?_, fun i hi => ?_⟩, by omega⟩, fun j _ => by rw [v120], ⟨by omega, fun i hi => ?_, fun i h1 h2 => ?_, dk⟩, chg_tr cS (chg_tr (chg_mo (by decide) q3) (chg_mo (by decide) ct)), chg_tr cM (chg_tr (chg_mo (by decide) c2) (chg_mo (by decide) q4))⟩
  · rw [b82_0, if_pos (by omega), b82_18 (by omega), t5, Int.toNat_natCast, xk]
  · rw [step]
    refine Eq.trans b237_169 ?_
    refine x_bind (s234 (by omega) (by omega)) ?_
    rw [g2]
    dsimp only
    refine Eq.trans b237_176 ?_
    refine x_bind (q2 _) ?_
    exact b237_180
  · exact (chg_at q4 rfl rfl).trans n34
  · rw [show ν 100 38 = ν2 100 38 from chg_at q4 rfl rfl, show ν2 100 38 = μ1 100 38 from chg_at c2 rfl rfl, e4, Nat.add_zero]
  · rw [r12, show ν 116 = ν2 116 from chg_row q4 (fun _ => rfl) rfl, show ν 117 = ν2 117 from chg_row q4 (fun _ => rfl) rfl, n116, n117]
    by_cases y : j = k
    · rw [if_pos y, if_pos y, if_pos y]
      exact en
    · rw [if_neg y, if_neg y, if_neg y, ← s12]
      exact e5 j (by omega)
  · rw [xwr_nj (by decide), xwr_nk (by decide), t6, show ν 100 36 = ν2 100 36 from chg_at q4 rfl rfl, show ν2 100 36 = μ1 100 36 from chg_at c2 rfl rfl]
    exact e7
  · rw [show ν 100 39 = ν2 100 39 from chg_at q4 rfl rfl, show ν2 100 39 = μ1 100 39 from chg_at c2 rfl rfl, e8, c22]
  · rw [xwr_nj (by decide), xwr_nk (by decide), t6]
    by_cases y : i = k + 1
    · subst y
      rw [dk]
      have := d9 k (by omega)
      omega
    · rw [dp_cg i (fun j hj => (r12 j).trans (if_neg (by omega)))]
      have := d9 i (by omega)
      omega
  · rw [r12, if_neg (by omega)]
  · rw [show i = k + 1 by omega, dk]
    omega
end WMO

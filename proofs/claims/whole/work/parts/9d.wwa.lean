/-! WANTED: the whole text -/
def WCs : List (Nat × Nat) := [(1, 2), (1, 3), (1, 4), (1, 5), (1, 6), (1, 7), (1, 8), (10, 2), (10, 3), (10, 5), (10, 6)]
def WMs : List (Nat × Nat) := [(100, 1), (100, 2), (100, 3), (100, 4), (100, 5), (100, 6), (100, 7), (100, 8), (100, 9), (100, 10), (100, 34), (100, 35), (100, 36), (100, 37), (100, 38), (100, 39)]
section WWA
variable {X : Nat × (Nat → Int)} {σ μ τ ν : xM} {n L : Nat} {tx : Nat → Int}
theorem it77 (hL : L ≤ 200) : ∀ (m i : Nat) (τ : xM), i + m = L → τ 10 5 = (L : Int) → ∃ τ', (∀ d, Ev X d 77 40 [some (vr 10), some (vi i)] [] SH τ = some (some (vi (τ 10 6)), SH, τ')) ∧ chg [11] [(10, 2), (10, 3)] τ τ' ∧ (∀ j, τ' 11 j = if i ≤ j ∧ j < L then τ 12 j else τ 11 j) ∧ τ' 10 2 = (L : Int) ∧ τ' 10 3 = τ 10 6 := by
  intro m
  induction m with
  | zero =>
    intro i τ e h
    refine ⟨xwr (xwr τ 10 2 (L : Int)) 10 3 (τ 10 6), fun d => ?_, chg_wr rfl (chg_wr rfl chg_rf), fun j => ?_, ?_, xwr_eq⟩
    · rw [b77_40, if_pos (by omega), b77_73, h]
    · rw [xwr_row (by decide), xwr_row (by decide), if_neg (by omega)]
    · rw [xwr_nj (by decide), xwr_eq]
  | succ m ih =>
    intro i τ e h
    have xi : xadd (i : Int) 1 = ((i + 1 : Nat) : Int) := xadd_eq (by omega) (by omega)
    obtain ⟨τ', p1, p2, p3, p4, p5⟩ := ih (i + 1) (xwr τ 11 i (τ 12 i)) (by omega) (by rw [xwr_nk (by decide)]; exact h)
    have s6 : (xwr τ 11 i (τ 12 i)) 10 6 = τ 10 6 := xwr_nk (by decide)
    rw [s6] at p1 p5
    refine ⟨τ', fun d => ?_, chg_tr (chg_wr rfl chg_rf) p2, fun j => ?_, p4, p5⟩
    · rw [b77_40, if_neg (by omega), b77_48, if_neg (by omega), b77_55 (by omega), Int.toNat_natCast, xi]
      exact p1 d
    · rw [p3, xwr_row (by decide), xwr_rw]
      dsimp only
      by_cases y : j = i
      · rw [if_neg (by omega), if_pos y, if_pos (by omega), y]
      · by_cases z : i + 1 ≤ j ∧ j < L
        · rw [if_pos z, if_pos (by omega)]
        · rw [if_neg z, if_neg y, if_neg (by omega)]
theorem it228 {o1 : Option xV} (hL : L ≤ 200) : ∀ (m i : Nat) (o2 : Option xV) (ν : xM), i + m = L → ν 100 34 = (L : Int) → ∃ ν', (∀ d, Ev X d 228 124 [some (vr 100), o1, o2, some (vi i)] [] SH ν = some (some (vi (ν 100 36)), SH, ν')) ∧ chg [118, 119] [(100, 35), (100, 37)] ν ν' ∧ (∀ j, i ≤ j → j < L → ν' 118 j = ν 116 j ∧ ν' 119 j = ν 117 j) ∧ (∀ j, j < i → ν' 118 j = ν 118 j ∧ ν' 119 j = ν 119 j) ∧ ν' 100 35 = (L : Int) ∧ ν' 100 37 = ν 100 36 := by
  intro m
  induction m with
  | zero =>
    intro i o2 ν e h
    refine ⟨xwr (xwr ν 100 35 (L : Int)) 100 37 (ν 100 36), fun d => ?_, chg_wr rfl (chg_wr rfl chg_rf), fun j h1 h2 => by omega, fun j _ => ?_, ?_, xwr_eq⟩
    · rw [b228_124, if_pos (by omega), b228_162, h]
    · rw [xwr_row (by decide), xwr_row (by decide), xwr_row (by decide), xwr_row (by decide)]
      exact ⟨rfl, rfl⟩
    · rw [xwr_nj (by decide), xwr_eq]
  | succ m ih =>
    intro i o2 ν e h
    have xi : xadd (i : Int) 1 = ((i + 1 : Nat) : Int) := xadd_eq (by omega) (by omega)
    obtain ⟨ν', p1, p2, p3, p4, p5, p6⟩ := ih (i + 1) (xkill o2) (xwr (xwr ν 118 i (ν 116 i)) 119 i (ν 117 i)) (by omega) (by rw [xwr_nk (by decide), xwr_nk (by decide)]; exact h)
    have s36 : (xwr (xwr ν 118 i (ν 116 i)) 119 i (ν 117 i)) 100 36 = ν 100 36 := by rw [xwr_nk (by decide), xwr_nk (by decide)]
    have s116 : (xwr (xwr ν 118 i (ν 116 i)) 119 i (ν 117 i)) 116 = ν 116 := by rw [xwr_row (by decide), xwr_row (by decide)]
    have s117 : (xwr (xwr ν 118 i (ν 116 i)) 119 i (ν 117 i)) 117 = ν 117 := by rw [xwr_row (by decide), xwr_row (by decide)]
    have s118 : ∀ j, (xwr (xwr ν 118 i (ν 116 i)) 119 i (ν 117 i)) 118 j = if j = i then ν 116 i else ν 118 j := by
      intro j
      rw [xwr_row (by decide), xwr_rw]
    have s119 : ∀ j, (xwr (xwr ν 118 i (ν 116 i)) 119 i (ν 117 i)) 119 j = if j = i then ν 117 i else ν 119 j := by
      intro j
      rw [xwr_rw, xwr_row (by decide)]
    rw [s36] at p1 p6
    rw [s116, s117] at p3
    refine ⟨ν', fun d => ?_, chg_tr (chg_wr rfl (chg_wr rfl chg_rf)) p2, fun j h1 h2 => ?_, fun j hj => ?_, p5, p6⟩
    · rw [b228_124, if_neg (by omega), b228_132 (by omega), Int.toNat_natCast, xi]
      exact p1 d
    · by_cases y : j = i
      · have := p4 j (by omega)
        rw [s118, s119, if_pos y, if_pos y] at this
        rw [y] at this ⊢
        exact this
      · exact p3 j (by omega) h2
    · have := p4 j (by omega)
      rw [s118, s119, if_neg (by omega), if_neg (by omega)] at this
      exact this
/-- both sides have a code that says the same -/
def WOK (L : Nat) (τ ν : xM) : Prop := L ≤ 200 ∧ τ 10 2 = (L : Int) ∧ ν 100 35 = (L : Int) ∧ τ 10 3 = ν 100 37 ∧ (∀ i, i < L → enc (τ 11 i) (ν 118 i) (ν 119 i)) ∧ WFP (τ 11) L
theorem WFP_cg {f g : Nat → Int} (e : ∀ i, i < L → f i = g i) (w : WFP f L) : WFP g L := by
  obtain ⟨w1, w2, w3⟩ := w
  refine ⟨fun i hi => ?_, fun i hi => ?_, fun z => ?_⟩
  · rw [← dp_cg i (fun j hj => e j (by omega))]
    exact w1 i hi
  · rw [← dp_cg (i + 1) (fun j hj => e j (by omega))]
    exact w2 i hi
  · rw [← dp_cg L e]
    exact w3 z
theorem tk_wanted (h1 : σ 2 = tx) (h2 : μ 101 = tx) (h3 : σ 1 1 = n) (h4 : μ 100 1 = n) (hn : n ≤ 200) (hb : ∀ i, 0 ≤ tx i ∧ tx i ≤ 255) : (∃ τ ν, (∀ d, Ev X (d + 60) 77 0 [some (vr 10), none] [] SH σ = some (some (vi (-1)), SH, τ)) ∧ (∀ d, Ev X (d + 60) 228 0 [some (vr 100), none, none, none] [] SH μ = some (some (vi (-1)), SH, ν)) ∧ chg [12] [(1, 2), (1, 3), (1, 4), (1, 5), (1, 6), (1, 7), (1, 8), (10, 5), (10, 6)] σ τ ∧ chg [116, 117, 120] [(100, 1), (100, 2), (100, 3), (100, 4), (100, 5), (100, 6), (100, 7), (100, 8), (100, 9), (100, 10), (100, 34), (100, 36), (100, 38), (100, 39)] μ ν ∧ FL τ ν ∧ ν 100 1 = 0) ∨ (∃ (u : Int) (L : Nat) (τ ν : xM), 0 ≤ u ∧ (∀ d, Ev X (d + 60) 77 0 [some (vr 10), none] [] SH σ = some (some (vi u), SH, τ)) ∧ (∀ d, Ev X (d + 60) 228 0 [some (vr 100), none, none, none] [] SH μ = some (some (vi u), SH, ν)) ∧ chg [11, 12] WCs σ τ ∧ chg [116, 117, 118, 119, 120] WMs μ ν ∧ KF τ ν ∧ ν 100 2 = 0 ∧ ν 100 1 = 0 ∧ WOK L τ ν) := by
  obtain ⟨σ1, μ1, a1, a2, a3, a4, a5, a6, a7, a8, a9, b5, b6, b34, b36, b38, b39, bx⟩ := tk_sw (X := X) h1 h2 h3 h4 (by omega) hb
  have m0 : ∀ d, Ev X (d + 4) 228 0 [some (vr 100), none, none, none] [] SH μ = Ev X (d + 4) 228 42 [some (vr 100), none, none, none] [] SH μ1 := by
    intro d
    rw [b228_0, if_pos (by omega)]
    exact a2 d
  have hT : TJ tx n σ1 μ1 := ⟨a5, a6, bx, a7⟩
  have hS : SJ 0 0 0 0 σ1 μ1 := by
    refine ⟨0, rfl, b34, b5, b38, fun j hj => absurd hj (by omega), fun j hj => absurd hj (by omega), by omega, by rw [b39, c22]; rfl, fun i hi => ?_⟩
    rw [show i = 0 by omega, dp, b6]
    exact Int.le_refl 0
  have q7 := TK_q a6
  have kd := (TK_kd a6).2.2.1
  -- the end, on both sides
  have fin : ∀ (L : Nat) (τ ν ν0 : xM) (o1 o2 o3 : Option xV), L ≤ 200 → SJ 0 0 0 L τ ν0 → KF τ ν0 → ν0 100 2 = 0 → WFP (τ 12) L → ∃ (u : Int) (τ' ν' : xM), 0 ≤ u ∧ (∀ d, Ev X d 77 38 [some (vr 10), o3] [] SH τ = some (some (vi u), SH, τ')) ∧ (∀ d, Ev X d 228 122 [some (vr 100), o1, o2, o3] [] SH ν0 = some (some (vi u), SH, ν')) ∧ chg [11] [(10, 2), (10, 3)] τ τ' ∧ chg [118, 119] [(100, 35), (100, 37)] ν0 ν' ∧ KF τ' ν' ∧ ν' 100 2 = 0 ∧ WOK L τ' ν' := by
    intro L τ ν ν0 o1 o2 o3 hL hS hK h2 hW
    obtain ⟨k, e1, e2, e3, e4, e5, e6, e7, e8, e9⟩ := hS
    rw [Nat.add_zero] at e1
    subst e1
    obtain ⟨τ', p1, p2, p3, p4, p5⟩ := it77 (X := X) hL k 0 τ (by omega) e3
    obtain ⟨ν', r1, r2, r3, r4, r5, r6⟩ := it228 (X := X) (o1 := o1) hL k 0 (xkill o2) ν0 (by omega) e2
    refine ⟨τ 10 6, τ', ν', by omega, fun d => ?_, fun d => ?_, p2, r2, ?_, (chg_at r2 rfl rfl).trans h2, hL, p4, r5, by rw [p5, r6]; exact e7.1, fun i hi => ?_, WFP_cg (fun i hi => ?_) hW⟩
    · rw [b77_38]
      exact p1 d
    · rw [b228_122, e7.1]
      exact r1 d
    · unfold KF at hK ⊢
      rw [show τ' 1 2 = τ 1 2 from chg_at p2 rfl rfl, show τ' 1 3 = τ 1 3 from chg_at p2 rfl rfl, show ν' 100 3 = ν0 100 3 from chg_at r2 rfl rfl]
      exact hK
    · rw [p3, if_pos (by omega), (r3 i (by omega) hi).1, (r3 i (by omega) hi).2]
      exact e5 i hi
    · rw [p3, if_pos (by omega)]
  by_cases y : μ1 100 6 = 0
  · right
    obtain ⟨ν0, p1, p2, p3⟩ := sj_settle (X := X) (r := 0) hS (by omega) (by omega) (fun i hi => absurd hi (by omega)) (Or.inl rfl)
    have k0 : KF σ1 ν0 := by
      have := TK_kf a6
      unfold KF at this ⊢
      rw [show ν0 100 3 = μ1 100 3 from chg_at p2 rfl rfl]
      exact this
    obtain ⟨u, τ', ν', f0, f1, f2, f3, f4, f5, f6, f7⟩ := fin 0 σ1 μ1 ν0 (some (vi 0)) (some (vi 1)) none (by omega) p3 k0 ((chg_at p2 rfl rfl).trans a7) ⟨fun i hi => by rw [show i = 0 by omega, dp]; decide, fun i hi => absurd hi (by omega), fun z => absurd rfl z⟩
    refine ⟨u, 0, τ', ν', f0, fun d => ?_, fun d => ?_, chg_tr (chg_mo (by decide) a3) (chg_mo (by decide) f3), chg_tr (chg_mo (by decide) a4) (chg_tr (chg_mo (by decide) p2) (chg_mo (by decide) f4)), f5, f6, (chg_at f4 rfl rfl).trans ((chg_at p2 rfl rfl).trans a9), f7⟩
    · refine (a1 (d + 52)).trans ?_
      rw [b77_19, if_pos (kd.mpr y)]
      exact f1 _
    · refine (m0 (d + 56)).trans ?_
      rw [b228_42, if_neg (fun z => z y), b228_51, b228_56, b228_57, if_neg (fun z => z a7), b228_64, if_pos (by decide), b228_108, if_pos (by omega)]
      refine Eq.trans b228_117 ?_
      refine x_bind (p1 _) ?_
      exact f2 _
  · have hE := ((PJ_all (X := X) hb hn 7).1 0 0 0 σ1 μ1 (by omega) ⟨hT, hS, by omega⟩ (Or.inl rfl))
    obtain ⟨b, τ, ν, m', q1, q2, q3, q4, q5, q6, q7'⟩ := hE
    have cl : ∀ (b' : Int) (τ' : xM), (∀ d, Ev X (d + 59) 78 0 [some (vr 10)] [] SH σ1 = some (some (vi b'), SH, τ')) → ∀ d, Ev X (d + 60) 77 0 [some (vr 10), none] [] SH σ = Ev X (d + 60) 77 33 [some (vr 10), none] [vi b'] SH τ' := by
      intro b' τ' g d
      refine (a1 (d + 52)).trans ?_
      rw [b77_19, if_neg (fun z => y (kd.mp z))]
      refine Eq.trans b77_29 ?_
      refine x_bind (g d) ?_
      rfl
    have mm : ∀ (m' : Int) (ν' : xM), MR X 0 μ1 m' ν' → ∀ d, Ev X (d + 60) 228 0 [some (vr 100), none, none, none] [] SH μ = Ev X (d + 60) 228 57 [some (vr 100), some (vi m'), some (vi 0), none] [] SH ν' := by
      intro m' ν' g d
      refine (m0 (d + 56)).trans ?_
      rw [b228_42, if_pos y, b228_55, b228_56]
      exact g (d + 52) none
    have dead : ∀ (m' : Int) (ν' : xM), 0 < ν' 100 2 → ∀ d, Ev X (d + 60) 228 57 [some (vr 100), some (vi m'), some (vi 0), none] [] SH ν' = some (some (vi (-1)), SH, ν') := by
      intro m' ν' g d
      rw [b228_57, if_pos (by omega), b228_108, if_neg (by omega), b228_115]
    have c78 : ∀ d, Ev X (d + 59) 78 0 [some (vr 10)] [] SH σ1 = Ev X (d + 59) 78 5 [some (vr 10)] [vi b] SH τ := by
      intro d
      refine Eq.trans b78_0 ?_
      refine x_bind (q2 (d + 58) (by omega)) ?_
      rfl
    rcases q1 with b0 | b0
    · left
      have fl := q6 b0
      refine ⟨τ, ν, fun d => ?_, fun d => ?_, chg_tr (chg_mo (by decide) a3) (chg_mo (by decide) q4), chg_tr (chg_mo (by decide) a4) (chg_mo (by decide) q5), fl, (chg_at q5 rfl rfl).trans a9⟩
      · rw [cl 0 τ (fun d => by rw [c78, b78_5, if_pos b0, b78_32, b78_33 (Or.inl rfl)]) d, b77_33, if_neg (by decide), b77_36]
      · rw [mm m' ν q3 d, dead m' ν fl.2.2 d]
    · obtain ⟨w0, L, m, w1, w2, w3, w4, w5⟩ := q7' b0
      rw [w0] at q3
      have bd := TJ_le w2.1 hn
      have bl := w2.2.2
      have kd2 := (TK_kd w2.1.2.1).2.2.1
      have hh : ν 100 38 = ((0 + m : Nat) : Int) ∧ m ≤ L := by
        obtain ⟨k, e1, _, _, e4, _⟩ := w2.2.1
        exact ⟨e4, by omega⟩
      have op := (m_opn (X := X) (μ := ν) (h := m) (by rw [hh.1, Nat.zero_add]) (by omega)).2 (fun j hj => by
        have := (w3 j hj).2
        rw [Nat.zero_add] at this
        exact this)
      by_cases z : ν 100 6 = 0
      · right
        obtain ⟨ν0, p1, p2, p3⟩ := sj_settle (X := X) (r := 0) w2.2.1 (by omega) (by omega) (PD_le (by decide) w3) (Or.inl rfl)
        have k0 : KF τ ν0 := by
          have := TK_kf w2.1.2.1
          unfold KF at this ⊢
          rw [show ν0 100 3 = ν 100 3 from chg_at p2 rfl rfl]
          exact this
        have wf : WFP (τ 12) L := by
          obtain ⟨g1, g2, g3, g4⟩ := w1
          obtain ⟨k, _, _, _, _, _, _, e7, _, e9⟩ := w2.2.1
          rw [dp] at g3 g4
          refine ⟨fun i hi => ?_, fun i hi => ?_, fun _ => by omega⟩
          · have := e9 i hi
            omega
          · have := g3 (i + 1) (by omega) (by omega)
            omega
        obtain ⟨u, τ', ν', f0, f1, f2, f3, f4, f5, f6, f7⟩ := fin L τ ν ν0 (some (vi 2)) (some (vi 0)) none (by omega) p3 k0 ((chg_at p2 rfl rfl).trans w2.1.2.2.2) wf
        refine ⟨u, L, τ', ν', f0, fun d => ?_, fun d => ?_, chg_tr (chg_mo (by decide) a3) (chg_tr (chg_mo (by decide) q4) (chg_mo (by decide) f3)), chg_tr (chg_mo (by decide) a4) (chg_tr (chg_mo (by decide) q5) (chg_tr (chg_mo (by decide) p2) (chg_mo (by decide) f4))), f5, f6, (chg_at f4 rfl rfl).trans ((chg_at p2 rfl rfl).trans ((chg_at q5 rfl rfl).trans a9)), f7⟩
        · rw [cl 1 τ (fun d => by rw [c78, b78_5, if_neg (by omega), b78_8, if_pos (kd2.mpr z), b78_28, b78_33 (Or.inr rfl)]) d, b77_33, if_pos (by decide)]
          exact f1 _
        · rw [mm 2 ν q3 d, b228_57, if_neg (fun g => g w2.1.2.2.2), b228_64, if_neg (by decide), b228_68, if_neg (by decide), b228_73, if_neg (fun g => g z)]
          refine Eq.trans b228_80 ?_
          refine x_bind (op _) ?_
          dsimp only
          refine Eq.trans b228_84 ?_
          rw [if_pos rfl, b228_108, if_pos (by have := w2.1.2.2.2; omega)]
          refine Eq.trans b228_117 ?_
          refine x_bind (p1 _) ?_
          exact f2 _
      · left
        obtain ⟨f0', _, f3, _⟩ := tk_rf (X := X) (RS_w (by omega) hb) w2.1.2.1 w2.1.2.2.2
        have cx : ∃ ν', MR X 2 ν 2 ν' ∧ FL (g168 τ) ν' ∧ chg [116, 117, 120] WM ν ν' := by
          rcases w5 with w5 | w5
          · have rg := sgc_rg (μ := ν)
            obtain ⟨g1, g2, g3, g4, g5⟩ := m_bad (X := X) hb hn w2.1 (by omega) op (Or.inr ⟨rfl, z⟩)
            exact ⟨_, g1, g3, chg_mo (by decide) g5⟩
          · exact w5.2
        obtain ⟨ν', g1, g2, g3⟩ := cx
        refine ⟨g168 τ, ν', fun d => ?_, fun d => ?_, chg_tr (chg_mo (by decide) a3) (chg_tr (chg_mo (by decide) q4) (chg_mo (by decide) f3)), chg_tr (chg_mo (by decide) a4) (chg_tr (chg_mo (by decide) q5) (chg_mo (by decide) g3)), g2, (chg_at g3 rfl rfl).trans ((chg_at q5 rfl rfl).trans a9)⟩
        · have r78 : ∀ d, Ev X (d + 59) 78 0 [some (vr 10)] [] SH σ1 = some (some (vi 0), SH, g168 τ) := by
            intro d
            rw [c78, b78_5, if_neg (by omega), b78_8, if_neg (fun g => z (kd2.mp g))]
            refine Eq.trans b78_18 ?_
            refine x_bind s168 ?_
            rw [f0']
            dsimp only
            refine Eq.trans b78_25 ?_
            rw [if_pos rfl, b78_32, b78_33 (Or.inl rfl)]
          rw [cl 0 _ r78 d, b77_33, if_neg (by decide), b77_36]
        · rw [mm 2 ν' (MR_tr q3 g1) d, dead 2 ν' g2.2.2 d]
theorem pr_wanted (h : Core σ) : Pair X 10 228 [some (vr 0), none] [some (vr 100), none, none, none] σ (Post σ) := by
  have h' := h
  obtain ⟨⟨t1, t2, t3, t4, t5, t6, t7⟩, h2, h3, h4, h5, h6, h7, h8, h9, h10⟩ := h'
  obtain ⟨n, hn⟩ : ∃ n : Nat, σ 1 1 = n := ⟨(σ 1 1).toNat, by omega⟩
  by_cases big : n ≤ 200
  · have fk := fun (μ : xM) (q1 : μ 101 = σ 101) (q2 : μ 100 1 = σ 100 1) => tk_wanted (X := X) (σ := σ) (μ := μ) (n := n) (tx := σ 2) rfl (by rw [q1, t1]) hn (by rw [q2, t5, hn]) big t2
    have s6' : ∀ (τ : xM) (d : Nat), Ev X (d + 1) 6 0 [some (vr 0)] [] SH (xwr τ 1 1 0) = some (none, SH, xwr (xwr (xwr (xwr (xwr τ 1 1 0) 49 3 (-1)) 49 7 0) 70 6 0) 70 9 (-1)) := fun τ d => s6
    have en : ∀ (u : Int) (τ : xM), (∀ d, Ev X (d + 60) 77 0 [some (vr 10), none] [] SH σ = some (some (vi u), SH, τ)) → ∀ d, Ev X (d + 100) 10 0 [some (vr 0), none] [] SH σ = some (some (vi u), SH, xwr (xwr (xwr (xwr (xwr τ 1 1 0) 49 3 (-1)) 49 7 0) 70 6 0) 70 9 (-1)) := by
      intro u τ g d
      rw [b10_0, if_pos (by omega)]
      refine Eq.trans b10_16 ?_
      refine x_bind (g (d + 39)) ?_
      dsimp only
      refine Eq.trans b10_23 ?_
      refine x_bind (s6' τ _) ?_
      exact b10_36
    have cc : ∀ τ : xM, chg [] [(1, 1), (49, 3), (49, 7), (70, 6), (70, 9)] τ (xwr (xwr (xwr (xwr (xwr τ 1 1 0) 49 3 (-1)) 49 7 0) 70 6 0) 70 9 (-1)) := fun τ => chg_wr rfl (chg_wr rfl (chg_wr rfl (chg_wr rfl (chg_wr rfl chg_rf))))
    have vv : ∀ τ : xM, (xwr (xwr (xwr (xwr (xwr τ 1 1 0) 49 3 (-1)) 49 7 0) 70 6 0) 70 9 (-1)) 1 1 = 0 ∧ (xwr (xwr (xwr (xwr (xwr τ 1 1 0) 49 3 (-1)) 49 7 0) 70 6 0) 70 9 (-1)) 49 3 = -1 ∧ (xwr (xwr (xwr (xwr (xwr τ 1 1 0) 49 3 (-1)) 49 7 0) 70 6 0) 70 9 (-1)) 49 7 = 0 ∧ (xwr (xwr (xwr (xwr (xwr τ 1 1 0) 49 3 (-1)) 49 7 0) 70 6 0) 70 9 (-1)) 70 6 = 0 ∧ (xwr (xwr (xwr (xwr (xwr τ 1 1 0) 49 3 (-1)) 49 7 0) 70 6 0) 70 9 (-1)) 70 9 = -1 := by
      intro τ
      simp (disch := decide) only [xwr_nk, xwr_nj, xwr_eq]
      decide
    rcases fk σ rfl rfl with ⟨τ, _, a1, _, a3, _⟩ | ⟨u, L, τ, _, a0, a1, _, a3, _⟩
    · have e1 := en _ _ a1
      have c1 := cc τ
      have v1 := vv τ
      generalize xwr (xwr (xwr (xwr (xwr τ 1 1 0) 49 3 (-1)) 49 7 0) 70 6 0) 70 9 (-1) = σ1 at e1 c1 v1
      rcases fk σ1 (by rw [chg_row c1 (fun _ => rfl) rfl, chg_row a3 (fun _ => rfl) rfl]) (by rw [chg_at c1 rfl rfl, chg_at a3 rfl rfl]) with ⟨τ', ν, b1, b2, b3, b4, b5, b6⟩ | ⟨u, L, τ', ν, b0, b1, _⟩
      · obtain ⟨_, rfl⟩ := dtr (o' := none) (a1 0) (b1 0)
        have c : chg [12, 116, 117, 120] [(1, 1), (1, 2), (1, 3), (1, 4), (1, 5), (1, 6), (1, 7), (1, 8), (10, 5), (10, 6), (49, 3), (49, 7), (70, 6), (70, 9), (100, 1), (100, 2), (100, 3), (100, 4), (100, 5), (100, 6), (100, 7), (100, 8), (100, 9), (100, 10), (100, 34), (100, 36), (100, 38), (100, 39)] σ ν := chg_tr (chg_mo (by decide) a3) (chg_tr (chg_mo (by decide) c1) (chg_mo (by decide) b4))
        refine ⟨-1, σ1, ν, e1, fun d => b2 (d + 40), Core_chg h c (Or.inr ?_) (Or.inl rfl) (Or.inl rfl) (Or.inl rfl) (Or.inl rfl) (Or.inl rfl) (Or.inl rfl) (Or.inl rfl) (Or.inl rfl) (Or.inl rfl), Or.inr ⟨(chg_at b4 rfl rfl).trans v1.2.1, (chg_at b4 rfl rfl).trans v1.2.2.1⟩, Or.inr ⟨(chg_at b4 rfl rfl).trans v1.2.2.2.1, (chg_at b4 rfl rfl).trans v1.2.2.2.2⟩⟩
        unfold Ctape
        have d1 : ν 1 1 = 0 := (chg_at b4 rfl rfl).trans v1.1
        have d2 : ν 1 2 = τ 1 2 := (chg_at b4 rfl rfl).trans (chg_at c1 rfl rfl)
        have d3 : ν 1 3 = τ 1 3 := (chg_at b4 rfl rfl).trans (chg_at c1 rfl rfl)
        rw [chg_row c (k := 2) (fun _ => rfl) rfl, chg_row c (k := 101) (fun _ => rfl) rfl, d1, d2, d3, b6, b5.1, b5.2.1]
        exact ⟨t1, t2, by omega, by omega, rfl, rfl, rfl⟩
      · have := (dtr (o' := none) (a1 0) (b1 0)).1
        omega
    · have e1 := en _ _ a1
      have c1 := cc τ
      have v1 := vv τ
      generalize xwr (xwr (xwr (xwr (xwr τ 1 1 0) 49 3 (-1)) 49 7 0) 70 6 0) 70 9 (-1) = σ1 at e1 c1 v1
      rcases fk σ1 (by rw [chg_row c1 (fun _ => rfl) rfl, chg_row a3 (fun _ => rfl) rfl]) (by rw [chg_at c1 rfl rfl, chg_at a3 rfl rfl]) with ⟨τ', ν, b1, _⟩ | ⟨u', L', τ', ν, b0, b1, b2, b3, b4, b5, b6, b7, b8⟩
      · have := (dtr (o' := none) (a1 0) (b1 0)).1
        omega
      · obtain ⟨uu, rfl⟩ := dtr (o' := none) (a1 0) (b1 0)
        subst uu
        have c : chg [11, 12, 116, 117, 118, 119, 120] [(1, 1), (1, 2), (1, 3), (1, 4), (1, 5), (1, 6), (1, 7), (1, 8), (10, 2), (10, 3), (10, 5), (10, 6), (49, 3), (49, 7), (70, 6), (70, 9), (100, 1), (100, 2), (100, 3), (100, 4), (100, 5), (100, 6), (100, 7), (100, 8), (100, 9), (100, 10), (100, 34), (100, 35), (100, 36), (100, 37), (100, 38), (100, 39)] σ ν := chg_tr (chg_mo (by decide) a3) (chg_tr (chg_mo (by decide) c1) (chg_mo (by decide) b4))
        refine ⟨u, σ1, ν, e1, fun d => b2 (d + 40), Core_chg h c (Or.inr ?_) (Or.inl rfl) (Or.inr ?_) (Or.inl rfl) (Or.inl rfl) (Or.inl rfl) (Or.inl rfl) (Or.inl rfl) (Or.inl rfl) (Or.inl rfl), Or.inr ⟨(chg_at b4 rfl rfl).trans v1.2.1, (chg_at b4 rfl rfl).trans v1.2.2.1⟩, Or.inr ⟨(chg_at b4 rfl rfl).trans v1.2.2.2.1, (chg_at b4 rfl rfl).trans v1.2.2.2.2⟩⟩
        · unfold Ctape
          have d1 : ν 1 1 = 0 := (chg_at b4 rfl rfl).trans v1.1
          have d2 : ν 1 2 = 0 := (chg_at b4 rfl rfl).trans ((chg_at c1 rfl rfl).trans b5.1)
          have d3 : ν 1 3 = -1 := (chg_at b4 rfl rfl).trans ((chg_at c1 rfl rfl).trans b5.2.1)
          rw [chg_row c (k := 2) (fun _ => rfl) rfl, chg_row c (k := 101) (fun _ => rfl) rfl, d1, d2, d3, b6, b7, b5.2.2]
          exact ⟨t1, t2, by omega, by omega, rfl, rfl, rfl⟩
        · obtain ⟨k1, k2, k3, k4, k5, k6⟩ := b8
          have e2 : ν 10 2 = (L' : Int) := (chg_at b4 rfl rfl).trans ((chg_at c1 rfl rfl).trans k2)
          have e3 : ν 10 3 = τ 10 3 := (chg_at b4 rfl rfl).trans (chg_at c1 rfl rfl)
          have e11 : ν 11 = τ 11 := (chg_row b4 (fun _ => rfl) rfl).trans (chg_row c1 (fun _ => rfl) rfl)
          unfold Cwant
          rw [e2, e3, e11, k3, Int.toNat_natCast]
          exact ⟨by omega, by omega, rfl, k4.symm, fun i hi => k5 i (by omega), k6⟩
  · refine ⟨-2, σ, σ, fun d => ?_, fun d => ?_, Post_q h (fun _ _ _ => rfl)⟩
    · rw [b10_0, if_neg (by omega), b10_13]
    · rw [b228_0, if_neg (by omega), b228_10]
end WWA

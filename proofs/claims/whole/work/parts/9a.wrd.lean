/-! WANTED: reading on both sides -/
/-- a comparison stands at the token and can't: the model says so at its next step -/
def SK (X : Nat × (Nat → Int)) (τ ν : xM) : Prop := (sgc ν = 23 ∨ sgc ν = 24 ∨ sgc ν = 25) ∧ ∃ ν', MR X 2 ν 2 ν' ∧ FL (g168 τ) ν' ∧ chg [116, 117, 120] WM ν ν'
/-- how a reading ends on both sides -/
def GX (X : Nat × (Nat → Int)) (tx : Nat → Int) (n : Nat) (md : Int) (a h L : Nat) (l : Int) (E : xM → xM → Prop) (σ0 σ μ : xM) (run : Int → xM → Prop) : Prop := ∃ (b : Int) (τ ν : xM) (m' : Int), (b = 0 ∨ b = 1) ∧ run b τ ∧ MR X md μ m' ν ∧ chg [12] WC σ τ ∧ chg [116, 117, 120] WM μ ν ∧ (b = 0 → FL τ ν) ∧ (b = 1 → m' = 2 ∧ ∃ L' m, GR L σ0 τ L' ∧ JW tx n a h m L' τ ν ∧ PD l h m ν ∧ (∀ j, j < h → ν 120 j = μ 120 j) ∧ E τ ν)
section WRD
variable {X : Nat × (Nat → Int)} {σ σ0 μ τ ν ρ : xM} {a h m n t L L1 : Nat} {tx : Nat → Int} {c r md m' v : Int}
theorem BS_cg (k : ∀ j, j < h → ν 120 j = μ 120 j) (hs : BS r h μ) : BS r h ν := by
  unfold BS at hs ⊢
  by_cases y : h = 0
  · exact Or.inl y
  · rw [k (h - 1) (by omega)]
    exact hs
theorem BS_le {r' : Int} (k : r ≤ r') (hs : BS r h μ) : BS r' h μ := by
  unfold BS at hs ⊢
  omega
theorem BS_up {r' : Int} (e : μ 120 h = c) (k : c < r') : BS r' (h + 1) μ := Or.inr (Or.inr (by rw [show h + 1 - 1 = h by omega, e]; exact k))
theorem PD_le {r' : Int} (k : r' ≤ r) (hs : PD r h m μ) : PD r' h m μ := fun i hi => ⟨by have := (hs i hi).1; omega, (hs i hi).2⟩
theorem PD_cons (e : μ 120 h = c) (k : r ≤ c) (k3 : c ≠ 30) (hs : PD r (h + 1) m μ) : PD r h (m + 1) μ := by
  intro i hi
  by_cases y : i = 0
  · rw [y, Nat.add_zero, e]
    exact ⟨k, k3⟩
  · have := hs (i - 1) (by omega)
    rw [show h + 1 + (i - 1) = h + i by omega] at this
    exact this
theorem SK_put (c : chg [12] WC0 σ τ) (s : SK X σ ν) : SK X τ ν := by
  obtain ⟨s1, ν', s2, s3, s4⟩ := s
  refine ⟨s1, ν', s2, ?_, s4⟩
  unfold FL g168 g169 at s3 ⊢
  rw [show τ 1 5 = σ 1 5 from chg_at c rfl rfl, show τ 1 6 = σ 1 6 from chg_at c rfl rfl]
  by_cases y : σ 1 5 = 4
  · rw [if_neg (fun z => z y)] at s3 ⊢
    simp (disch := decide) only [xwr_nj, xwr_eq] at s3 ⊢
    exact s3
  · rw [if_pos y] at s3 ⊢
    simp (disch := decide) only [xwr_nj, xwr_eq] at s3 ⊢
    exact s3
/-- a sign, what stands behind it, and the code put -/
theorem gx_it {R : xM → Int → xM → Prop} {E : xM → xM → Prop} {x l : Int} (hn : n ≤ 200) (hG : GR L σ0 τ L1) (st : ∃ τ1 ν1, (∀ d, Ev X (d + 5) 159 0 [some (vr 1), none] [] SH τ = some (none, SH, τ1)) ∧ MR X 2 ν md ν1 ∧ JW tx n a (h + 1) 0 L1 τ1 ν1 ∧ ν1 120 h = c ∧ (∀ j, j < h → ν1 120 j = ν 120 j) ∧ chg [] CT τ τ1 ∧ chg [116, 117, 120] WM ν ν1) (sub : ∀ σ' μ', JW tx n a (h + 1) 0 L1 σ' μ' → μ' 120 h = c → GX X tx n md a (h + 1) L1 l E σ' σ' μ' (R σ')) (hx : enc x c 0) (hd : dl x = -1) (hc : c ≠ 22 ∧ c ≠ 30 ∧ r ≤ c ∧ r ≤ l) (hE : ∀ τ τ' ν, chg [12] WC0 τ τ' → E τ ν → E τ' ν) : ∃ (τ1 : xM) (b : Int) (τ2 ν2 : xM) (m' : Int), (∀ d, Ev X (d + 5) 159 0 [some (vr 1), none] [] SH τ = some (none, SH, τ1)) ∧ (b = 0 ∨ b = 1) ∧ R τ1 b τ2 ∧ MR X 2 ν m' ν2 ∧ chg [12] WC τ τ2 ∧ chg [116, 117, 120] WM ν ν2 ∧ (b = 0 → FL τ2 ν2) ∧ (b = 1 → m' = 2 ∧ ∃ (τ3 : xM) (L3 m3 L2 m2 : Nat), (∀ d, Ev X d 82 0 [some (vr 10), some (vi x)] [] SH τ2 = some (some (vi 1), SH, τ3)) ∧ chg [12] WC0 τ2 τ3 ∧ L1 < L3 ∧ GR L σ0 τ3 L3 ∧ JW tx n a h m3 L3 τ3 ν2 ∧ PD r h m3 ν2 ∧ (∀ j, j < h → ν2 120 j = ν 120 j) ∧ E τ3 ν2 ∧ JW tx n a (h + 1) m2 L2 τ2 ν2 ∧ PD l (h + 1) m2 ν2 ∧ ν2 120 h = c) := by
  obtain ⟨τ1, ν1, p1, p2, p3, p4, p5, p6, p7⟩ := st
  obtain ⟨b, τ2, ν2, m', q1, q2, q3, q4, q5, q6, q7⟩ := sub τ1 ν1 p3 p4
  refine ⟨τ1, b, τ2, ν2, m', p1, q1, q2, MR_tr p2 q3, chg_tr (chg_mo (by decide) p6) q4, chg_tr p7 q5, q6, fun z => ?_⟩
  obtain ⟨w0, L2, m2, w1, w2, w3, w4, w5⟩ := q7 z
  have e : ν2 120 h = c := (w4 h (by omega)).trans p4
  obtain ⟨τ3, u1, u2, u3, u4, u5⟩ := sj_put (X := X) (x := x) (a := a) hn w2 (by rw [if_neg (by omega)]; omega) (by rw [e]; exact hx) (by omega)
  exact ⟨w0, τ3, L2 + 1, m2 + 1, L2, m2, u1, u2, by have := w1.1; omega, GR_bin hG (chg_row p6 (fun _ => rfl) rfl) w1 u4 u5 hd, u3, PD_cons e hc.2.2.1 hc.2.1 (PD_le hc.2.2.2 w3), fun j hj => (w4 j (by omega)).trans (p5 j hj), hE _ _ _ u2 w5, w2, w3, e⟩
theorem x84 {j : Int} (d : Nat) : Ev X d 84 8 [some (vr 10), some (vi a), some (vi 0), some (vi j)] [] SH τ = some (some (vi 0), SH, τ) := by
  rw [b84_8]
  by_cases y : 200 ≤ j
  · rw [if_pos y, b84_68 (Or.inl rfl)]
  · rw [if_neg y, b84_15, if_pos rfl, b84_68 (Or.inl rfl)]
theorem it84 {F : Nat} (hb : ∀ i, 0 ≤ tx i ∧ tx i ≤ 255) (hn : n ≤ 200) (ha : a ≤ 7) (hF : 8 ≤ F) (sub : ∀ h L σ' μ', JW tx n a (h + 1) 0 L σ' μ' → μ' 120 h = 28 → GX X tx n 1 a (h + 1) L 29 (fun _ _ => True) σ' σ' μ' (fun b τ => ∀ f, F ≤ f → Ev X f 85 0 [some (vr 10), some (vi a), none, none, none] [] SH σ' = some (some (vi b), SH, τ))) : ∀ (w L1 m i : Nat) (τ ν : xM), 201 ≤ L1 + w → JW tx n a h m L1 τ ν → PD 28 h m ν → GR L σ0 τ L1 → BS 28 h ν → i ≤ L1 → (fun _ _ => True) τ ν → GX X tx n 2 a h L 28 (fun _ ν => sgc ν < 28) σ0 τ ν (fun b τ' => ∀ f, F + 1 ≤ f → Ev X f 84 8 [some (vr 10), some (vi a), some (vi 1), some (vi i)] [] SH τ = some (some (vi b), SH, τ')) := by
  intro w
  induction w with
  | zero =>
    intro L1 m i τ ν e0 e1 e2 e3 e4 e5 e6
    have bd := TJ_le e1.1 hn
    have := e1.2.2
    omega
  | succ w ih =>
    intro L1 m i τ ν e0 e1 e2 e3 e4 e5 e6
    have bd := TJ_le e1.1 hn
    have bl := e1.2.2
    have rg := sgc_rg (μ := ν)
    have sg := sgc_s (μ := ν)
    by_cases y : sgc ν = 28
    · obtain ⟨k0, k4, _, _⟩ := sgc_kd e1.1.2.1 (by omega)
      have xi : xadd (i : Int) 1 = ((i + 1 : Nat) : Int) := xadd_eq (by omega) (by omega)
      obtain ⟨τ1, b, τ2, ν2, m', q1, q2, q3, q4, q5, q6, q7, q8⟩ := gx_it (X := X) (r := 28) (x := -1042) hn e3 (m_op (X := X) hb hn ha e1 y (by omega) e2 e4) (sub h L1) (by unfold enc; omega) (by decide) (by omega) (fun _ _ _ _ z => z)
      have st : ∀ e, F + 1 ≤ e + 8 → Ev X (e + 8) 84 8 [some (vr 10), some (vi a), some (vi 1), some (vi i)] [] SH τ = Ev X (e + 8) 84 43 [some (vr 10), some (vi a), some (vi 1), some (vi i)] [vi b] SH τ2 := by
        intro e he
        rw [b84_8, if_neg (by have := bd.2 k0; omega), b84_15, if_neg (by decide)]
        refine Eq.trans b84_19 ?_
        refine x_bind (s171.trans (by rw [tk_is e1.1.2.1 (by decide), if_pos (sg.2.2.1.mp y)])) ?_
        dsimp only
        refine Eq.trans b84_28 ?_
        rw [if_neg (by decide)]
        refine Eq.trans b84_31 ?_
        refine x_bind (q1 _) ?_
        dsimp only
        refine Eq.trans b84_38 ?_
        refine x_bind (q3 _ (by omega)) ?_
        rfl
      rcases q2 with z | z
      · refine ⟨0, τ2, ν2, m', Or.inl rfl, fun f hf => ?_, q4, q5, q6, fun _ => q7 z, fun z => absurd z (by decide)⟩
        obtain ⟨e, rfl⟩ : ∃ e, f = e + 8 := ⟨f - 8, by omega⟩
        rw [st e hf, b84_43, if_pos z, b84_60, b84_61, x84]
      · obtain ⟨w0, τ3, L3, m3, L2, m2, w1, w2, w3, w4, w5, w6, w7, w8, _⟩ := q8 z
        obtain ⟨b', τ4, ν4, m4, v1, v2, v3, v4, v5, v6, v7⟩ := ih L3 m3 (i + 1) τ3 ν2 (by omega) w5 w6 w4 (BS_cg w7 e4) (by omega) w8
        rw [w0] at q4
        refine ⟨b', τ4, ν4, m4, v1, fun f hf => ?_, MR_tr q4 v3, chg_tr q5 (chg_tr (chg_mo (by decide) w2) v4), chg_tr q6 v5, v6, fun z' => ?_⟩
        · obtain ⟨e, rfl⟩ : ∃ e, f = e + 8 := ⟨f - 8, by omega⟩
          rw [st e hf, b84_43, if_neg (by omega)]
          refine Eq.trans b84_46 ?_
          refine x_bind (w1 _) ?_
          dsimp only
          refine Eq.trans b84_53 ?_
          rw [if_neg (by decide), b84_56, b84_61, xi]
          exact v2 _ hf
        · obtain ⟨u0, L', m5, u1, u2, u3, u4, u5⟩ := v7 z'
          exact ⟨u0, L', m5, u1, u2, u3, fun j hj => (u4 j hj).trans (w7 j hj), u5⟩
    · refine ⟨1, τ, ν, 2, Or.inr rfl, fun f hf => ?_, fun _ _ => rfl, chg_rf, chg_rf, fun z => absurd z (by decide), fun _ => ⟨rfl, L1, m, e3, e1, e2, fun _ _ => rfl, (by show sgc ν < 28; omega)⟩⟩
      obtain ⟨e, rfl⟩ : ∃ e, f = e + 8 := ⟨f - 8, by omega⟩
      rw [b84_8]
      by_cases z : (200 : Int) ≤ (i : Int)
      · rw [if_pos z, b84_68 (Or.inr rfl)]
      · rw [if_neg z, b84_15, if_neg (by decide)]
        refine Eq.trans b84_19 ?_
        refine x_bind (s171.trans (by rw [tk_is e1.1.2.1 (by decide), if_neg (fun w => y (sg.2.2.1.mpr w))])) ?_
        dsimp only
        refine Eq.trans b84_28 ?_
        rw [if_pos rfl, b84_68 (Or.inr rfl)]
/-- the whole of it -/
theorem j84 {F : Nat} (hb : ∀ i, 0 ≤ tx i ∧ tx i ≤ 255) (hn : n ≤ 200) (ha : a ≤ 7) (hF : 8 ≤ F) (hJ : JW tx n a h 0 L σ μ) (hs : BS 28 h μ) (fst : GX X tx n md a h L 29 (fun _ _ => True) σ σ μ (fun b τ => ∀ f, F ≤ f → Ev X f 85 0 [some (vr 10), some (vi a), none, none, none] [] SH σ = some (some (vi b), SH, τ))) (sub : ∀ h L σ' μ', JW tx n a (h + 1) 0 L σ' μ' → μ' 120 h = 28 → GX X tx n 1 a (h + 1) L 29 (fun _ _ => True) σ' σ' μ' (fun b τ => ∀ f, F ≤ f → Ev X f 85 0 [some (vr 10), some (vi a), none, none, none] [] SH σ' = some (some (vi b), SH, τ))) : GX X tx n md a h L 28 (fun _ ν => sgc ν < 28) σ σ μ (fun b τ => ∀ f, F + 1 ≤ f → Ev X f 84 0 [some (vr 10), some (vi a), none, none] [] SH σ = some (some (vi b), SH, τ)) := by
  obtain ⟨b, τ, ν, m', q1, q2, q3, q4, q5, q6, q7⟩ := fst
  have st : ∀ e, F + 1 ≤ e + 8 → Ev X (e + 8) 84 0 [some (vr 10), some (vi a), none, none] [] SH σ = Ev X (e + 8) 84 8 [some (vr 10), some (vi a), some (vi b), some (vi 0)] [] SH τ := by
    intro e he
    refine Eq.trans b84_0 ?_
    refine x_bind (q2 _ (by omega)) ?_
    exact b84_5
  rcases q1 with z | z
  · refine ⟨0, τ, ν, m', Or.inl rfl, fun f hf => ?_, q3, q4, q5, fun _ => q6 z, fun z => absurd z (by decide)⟩
    obtain ⟨e, rfl⟩ : ∃ e, f = e + 8 := ⟨f - 8, by omega⟩
    rw [st e hf, z, x84]
  · obtain ⟨w0, L1, m1, w1, w2, w3, w4, w5⟩ := q7 z
    obtain ⟨b', τ4, ν4, m4, v1, v2, v3, v4, v5, v6, v7⟩ := it84 (X := X) (F := F) (L := L) (σ0 := σ) hb hn ha hF sub 201 L1 m1 0 τ ν (by omega) w2 (PD_le (by decide) w3) w1 (BS_cg w4 hs) (by omega) w5
    rw [w0] at q3
    refine ⟨b', τ4, ν4, m4, v1, fun f hf => ?_, MR_tr q3 v3, chg_tr q4 v4, chg_tr q5 v5, v6, fun z' => ?_⟩
    · obtain ⟨e, rfl⟩ : ∃ e, f = e + 8 := ⟨f - 8, by omega⟩
      rw [st e hf, z]
      exact v2 _ hf
    · obtain ⟨u0, L', m5, u1, u2, u3, u4, u5⟩ := v7 z'
      exact ⟨u0, L', m5, u1, u2, u3, fun j hj => (u4 j hj).trans (w4 j hj), u5⟩
theorem x80 {j : Int} (d : Nat) : Ev X d 80 8 [some (vr 10), some (vi a), some (vi 0), some (vi j)] [] SH τ = some (some (vi 0), SH, τ) := by
  rw [b80_8]
  by_cases y : 200 ≤ j
  · rw [if_pos y, b80_67 (Or.inl rfl)]
  · rw [if_neg y, b80_15, if_pos rfl, b80_67 (Or.inl rfl)]
theorem it80 {F : Nat} (hb : ∀ i, 0 ≤ tx i ∧ tx i ≤ 255) (hn : n ≤ 200) (ha : a ≤ 7) (hF : 8 ≤ F) (sub : ∀ h L σ' μ', JW tx n a (h + 1) 0 L σ' μ' → μ' 120 h = 21 → GX X tx n 0 a (h + 1) L 22 (fun τ ν => sgc ν < 23 ∨ SK X τ ν) σ' σ' μ' (fun b τ => ∀ f, F ≤ f → Ev X f 81 0 [some (vr 10), some (vi a), none] [] SH σ' = some (some (vi b), SH, τ))) : ∀ (w L1 m i : Nat) (τ ν : xM), 201 ≤ L1 + w → JW tx n a h m L1 τ ν → PD 21 h m ν → GR L σ0 τ L1 → BS 21 h ν → i ≤ L1 → (fun τ ν => sgc ν < 23 ∨ SK X τ ν) τ ν → GX X tx n 2 a h L 21 (fun τ ν => sgc ν < 21 ∨ SK X τ ν) σ0 τ ν (fun b τ' => ∀ f, F + 1 ≤ f → Ev X f 80 8 [some (vr 10), some (vi a), some (vi 1), some (vi i)] [] SH τ = some (some (vi b), SH, τ')) := by
  intro w
  induction w with
  | zero =>
    intro L1 m i τ ν e0 e1 e2 e3 e4 e5 e6
    have bd := TJ_le e1.1 hn
    have := e1.2.2
    omega
  | succ w ih =>
    intro L1 m i τ ν e0 e1 e2 e3 e4 e5 e6
    have bd := TJ_le e1.1 hn
    have bl := e1.2.2
    have rg := sgc_rg (μ := ν)
    obtain ⟨p, p0, p1, p2, p3⟩ := tk_w (X := X) (k1 := 22) (wd := [97, 110, 100]) (by decide) rfl (by decide) (by decide +kernel) (RS_w (by omega) hb) e1.1.1 e1.1.2.1
    have p2 : f205 ν 6385252 = p := p2
    have sw := sgc_w (μ := ν)
    have sw2 : (sgc ν = 21 ↔ p = 1) := by have := sw.1; omega
    by_cases y : sgc ν = 21
    · obtain ⟨k0, k4, _, _⟩ := sgc_kd e1.1.2.1 (by omega)
      have xi : xadd (i : Int) 1 = ((i + 1 : Nat) : Int) := xadd_eq (by omega) (by omega)
      obtain ⟨τ1, b, τ2, ν2, m', q1, q2, q3, q4, q5, q6, q7, q8⟩ := gx_it (X := X) (r := 21) (x := -7) hn e3 (m_op (X := X) hb hn ha e1 y (by omega) e2 e4) (sub h L1) (by unfold enc; omega) (by decide) (by omega) (fun _ _ _ cc z => z.elim Or.inl (fun s => Or.inr (SK_put cc s)))
      have st : ∀ e, F + 1 ≤ e + 8 → Ev X (e + 8) 80 8 [some (vr 10), some (vi a), some (vi 1), some (vi i)] [] SH τ = Ev X (e + 8) 80 43 [some (vr 10), some (vi a), some (vi 1), some (vi i)] [vi b] SH τ2 := by
        intro e he
        rw [b80_8, if_neg (by have := bd.2 k0; omega), b80_15, if_neg (by decide)]
        refine Eq.trans b80_19 ?_
        refine x_bind ((p1 _).trans (by rw [sw2.mp y])) ?_
        dsimp only
        refine Eq.trans b80_28 ?_
        rw [if_neg (by decide)]
        refine Eq.trans b80_31 ?_
        refine x_bind (q1 _) ?_
        dsimp only
        refine Eq.trans b80_38 ?_
        refine x_bind (q3 _ (by omega)) ?_
        rfl
      rcases q2 with z | z
      · refine ⟨0, τ2, ν2, m', Or.inl rfl, fun f hf => ?_, q4, q5, q6, fun _ => q7 z, fun z => absurd z (by decide)⟩
        obtain ⟨e, rfl⟩ : ∃ e, f = e + 8 := ⟨f - 8, by omega⟩
        rw [st e hf, b80_43, if_pos z, b80_59, b80_60, x80]
      · obtain ⟨w0, τ3, L3, m3, L2, m2, w1, w2, w3, w4, w5, w6, w7, w8, _⟩ := q8 z
        obtain ⟨b', τ4, ν4, m4, v1, v2, v3, v4, v5, v6, v7⟩ := ih L3 m3 (i + 1) τ3 ν2 (by omega) w5 w6 w4 (BS_cg w7 e4) (by omega) w8
        rw [w0] at q4
        refine ⟨b', τ4, ν4, m4, v1, fun f hf => ?_, MR_tr q4 v3, chg_tr q5 (chg_tr (chg_mo (by decide) w2) v4), chg_tr q6 v5, v6, fun z' => ?_⟩
        · obtain ⟨e, rfl⟩ : ∃ e, f = e + 8 := ⟨f - 8, by omega⟩
          rw [st e hf, b80_43, if_neg (by omega)]
          refine Eq.trans b80_46 ?_
          refine x_bind (w1 _) ?_
          dsimp only
          refine Eq.trans b80_52 ?_
          rw [if_neg (by decide), b80_55, b80_60, xi]
          exact v2 _ hf
        · obtain ⟨u0, L', m5, u1, u2, u3, u4, u5⟩ := v7 z'
          exact ⟨u0, L', m5, u1, u2, u3, fun j hj => (u4 j hj).trans (w7 j hj), u5⟩
    · refine ⟨1, τ, ν, 2, Or.inr rfl, fun f hf => ?_, fun _ _ => rfl, chg_rf, chg_rf, fun z => absurd z (by decide), fun _ => ⟨rfl, L1, m, e3, e1, e2, fun _ _ => rfl, (by rcases e6 with e6 | e6; exact Or.inl (by omega); exact Or.inr e6)⟩⟩
      obtain ⟨e, rfl⟩ : ∃ e, f = e + 8 := ⟨f - 8, by omega⟩
      rw [b80_8]
      by_cases z : (200 : Int) ≤ (i : Int)
      · rw [if_pos z, b80_67 (Or.inr rfl)]
      · rw [if_neg z, b80_15, if_neg (by decide)]
        refine Eq.trans b80_19 ?_
        refine x_bind ((p1 _).trans (by rw [show p = 0 from p0.resolve_right (fun w => y (sw2.mpr w))])) ?_
        dsimp only
        refine Eq.trans b80_28 ?_
        rw [if_pos rfl, b80_67 (Or.inr rfl)]
/-- the whole of it -/
theorem j80 {F : Nat} (hb : ∀ i, 0 ≤ tx i ∧ tx i ≤ 255) (hn : n ≤ 200) (ha : a ≤ 7) (hF : 8 ≤ F) (hJ : JW tx n a h 0 L σ μ) (hs : BS 21 h μ) (fst : GX X tx n md a h L 22 (fun τ ν => sgc ν < 23 ∨ SK X τ ν) σ σ μ (fun b τ => ∀ f, F ≤ f → Ev X f 81 0 [some (vr 10), some (vi a), none] [] SH σ = some (some (vi b), SH, τ))) (sub : ∀ h L σ' μ', JW tx n a (h + 1) 0 L σ' μ' → μ' 120 h = 21 → GX X tx n 0 a (h + 1) L 22 (fun τ ν => sgc ν < 23 ∨ SK X τ ν) σ' σ' μ' (fun b τ => ∀ f, F ≤ f → Ev X f 81 0 [some (vr 10), some (vi a), none] [] SH σ' = some (some (vi b), SH, τ))) : GX X tx n md a h L 21 (fun τ ν => sgc ν < 21 ∨ SK X τ ν) σ σ μ (fun b τ => ∀ f, F + 1 ≤ f → Ev X f 80 0 [some (vr 10), some (vi a), none, none] [] SH σ = some (some (vi b), SH, τ)) := by
  obtain ⟨b, τ, ν, m', q1, q2, q3, q4, q5, q6, q7⟩ := fst
  have st : ∀ e, F + 1 ≤ e + 8 → Ev X (e + 8) 80 0 [some (vr 10), some (vi a), none, none] [] SH σ = Ev X (e + 8) 80 8 [some (vr 10), some (vi a), some (vi b), some (vi 0)] [] SH τ := by
    intro e he
    refine Eq.trans b80_0 ?_
    refine x_bind (q2 _ (by omega)) ?_
    exact b80_5
  rcases q1 with z | z
  · refine ⟨0, τ, ν, m', Or.inl rfl, fun f hf => ?_, q3, q4, q5, fun _ => q6 z, fun z => absurd z (by decide)⟩
    obtain ⟨e, rfl⟩ : ∃ e, f = e + 8 := ⟨f - 8, by omega⟩
    rw [st e hf, z, x80]
  · obtain ⟨w0, L1, m1, w1, w2, w3, w4, w5⟩ := q7 z
    obtain ⟨b', τ4, ν4, m4, v1, v2, v3, v4, v5, v6, v7⟩ := it80 (X := X) (F := F) (L := L) (σ0 := σ) hb hn ha hF sub 201 L1 m1 0 τ ν (by omega) w2 (PD_le (by decide) w3) w1 (BS_cg w4 hs) (by omega) w5
    rw [w0] at q3
    refine ⟨b', τ4, ν4, m4, v1, fun f hf => ?_, MR_tr q3 v3, chg_tr q4 v4, chg_tr q5 v5, v6, fun z' => ?_⟩
    · obtain ⟨e, rfl⟩ : ∃ e, f = e + 8 := ⟨f - 8, by omega⟩
      rw [st e hf, z]
      exact v2 _ hf
    · obtain ⟨u0, L', m5, u1, u2, u3, u4, u5⟩ := v7 z'
      exact ⟨u0, L', m5, u1, u2, u3, fun j hj => (u4 j hj).trans (w4 j hj), u5⟩
theorem x79 {j : Int} (d : Nat) : Ev X d 79 8 [some (vr 10), some (vi a), some (vi 0), some (vi j)] [] SH τ = some (some (vi 0), SH, τ) := by
  rw [b79_8]
  by_cases y : 200 ≤ j
  · rw [if_pos y, b79_67 (Or.inl rfl)]
  · rw [if_neg y, b79_15, if_pos rfl, b79_67 (Or.inl rfl)]
theorem it79 {F : Nat} (hb : ∀ i, 0 ≤ tx i ∧ tx i ≤ 255) (hn : n ≤ 200) (ha : a ≤ 7) (hF : 8 ≤ F) (sub : ∀ h L σ' μ', JW tx n a (h + 1) 0 L σ' μ' → μ' 120 h = 20 → GX X tx n 0 a (h + 1) L 21 (fun τ ν => sgc ν < 21 ∨ SK X τ ν) σ' σ' μ' (fun b τ => ∀ f, F ≤ f → Ev X f 80 0 [some (vr 10), some (vi a), none, none] [] SH σ' = some (some (vi b), SH, τ))) : ∀ (w L1 m i : Nat) (τ ν : xM), 201 ≤ L1 + w → JW tx n a h m L1 τ ν → PD 20 h m ν → GR L σ0 τ L1 → BS 20 h ν → i ≤ L1 → (fun τ ν => sgc ν < 21 ∨ SK X τ ν) τ ν → GX X tx n 2 a h L 20 (fun τ ν => sgc ν < 20 ∨ SK X τ ν) σ0 τ ν (fun b τ' => ∀ f, F + 1 ≤ f → Ev X f 79 8 [some (vr 10), some (vi a), some (vi 1), some (vi i)] [] SH τ = some (some (vi b), SH, τ')) := by
  intro w
  induction w with
  | zero =>
    intro L1 m i τ ν e0 e1 e2 e3 e4 e5 e6
    have bd := TJ_le e1.1 hn
    have := e1.2.2
    omega
  | succ w ih =>
    intro L1 m i τ ν e0 e1 e2 e3 e4 e5 e6
    have bd := TJ_le e1.1 hn
    have bl := e1.2.2
    have rg := sgc_rg (μ := ν)
    obtain ⟨p, p0, p1, p2, p3⟩ := tk_w (X := X) (k1 := 14) (wd := [111, 114]) (by decide) rfl (by decide) (by decide +kernel) (RS_w (by omega) hb) e1.1.1 e1.1.2.1
    have p2 : f205 ν 28530 = p := p2
    have sw := sgc_w (μ := ν)
    have sw2 : (sgc ν = 20 ↔ p = 1) := by have := sw.2 (by rcases e6 with e6 | e6; omega; have := e6.1; omega); omega
    by_cases y : sgc ν = 20
    · obtain ⟨k0, k4, _, _⟩ := sgc_kd e1.1.2.1 (by omega)
      have xi : xadd (i : Int) 1 = ((i + 1 : Nat) : Int) := xadd_eq (by omega) (by omega)
      obtain ⟨τ1, b, τ2, ν2, m', q1, q2, q3, q4, q5, q6, q7, q8⟩ := gx_it (X := X) (r := 20) (x := -6) hn e3 (m_op (X := X) hb hn ha e1 y (by omega) e2 e4) (sub h L1) (by unfold enc; omega) (by decide) (by omega) (fun _ _ _ cc z => z.elim Or.inl (fun s => Or.inr (SK_put cc s)))
      have st : ∀ e, F + 1 ≤ e + 8 → Ev X (e + 8) 79 8 [some (vr 10), some (vi a), some (vi 1), some (vi i)] [] SH τ = Ev X (e + 8) 79 43 [some (vr 10), some (vi a), some (vi 1), some (vi i)] [vi b] SH τ2 := by
        intro e he
        rw [b79_8, if_neg (by have := bd.2 k0; omega), b79_15, if_neg (by decide)]
        refine Eq.trans b79_19 ?_
        refine x_bind ((p1 _).trans (by rw [sw2.mp y])) ?_
        dsimp only
        refine Eq.trans b79_28 ?_
        rw [if_neg (by decide)]
        refine Eq.trans b79_31 ?_
        refine x_bind (q1 _) ?_
        dsimp only
        refine Eq.trans b79_38 ?_
        refine x_bind (q3 _ (by omega)) ?_
        rfl
      rcases q2 with z | z
      · refine ⟨0, τ2, ν2, m', Or.inl rfl, fun f hf => ?_, q4, q5, q6, fun _ => q7 z, fun z => absurd z (by decide)⟩
        obtain ⟨e, rfl⟩ : ∃ e, f = e + 8 := ⟨f - 8, by omega⟩
        rw [st e hf, b79_43, if_pos z, b79_59, b79_60, x79]
      · obtain ⟨w0, τ3, L3, m3, L2, m2, w1, w2, w3, w4, w5, w6, w7, w8, _⟩ := q8 z
        obtain ⟨b', τ4, ν4, m4, v1, v2, v3, v4, v5, v6, v7⟩ := ih L3 m3 (i + 1) τ3 ν2 (by omega) w5 w6 w4 (BS_cg w7 e4) (by omega) w8
        rw [w0] at q4
        refine ⟨b', τ4, ν4, m4, v1, fun f hf => ?_, MR_tr q4 v3, chg_tr q5 (chg_tr (chg_mo (by decide) w2) v4), chg_tr q6 v5, v6, fun z' => ?_⟩
        · obtain ⟨e, rfl⟩ : ∃ e, f = e + 8 := ⟨f - 8, by omega⟩
          rw [st e hf, b79_43, if_neg (by omega)]
          refine Eq.trans b79_46 ?_
          refine x_bind (w1 _) ?_
          dsimp only
          refine Eq.trans b79_52 ?_
          rw [if_neg (by decide), b79_55, b79_60, xi]
          exact v2 _ hf
        · obtain ⟨u0, L', m5, u1, u2, u3, u4, u5⟩ := v7 z'
          exact ⟨u0, L', m5, u1, u2, u3, fun j hj => (u4 j hj).trans (w7 j hj), u5⟩
    · refine ⟨1, τ, ν, 2, Or.inr rfl, fun f hf => ?_, fun _ _ => rfl, chg_rf, chg_rf, fun z => absurd z (by decide), fun _ => ⟨rfl, L1, m, e3, e1, e2, fun _ _ => rfl, (by rcases e6 with e6 | e6; exact Or.inl (by omega); exact Or.inr e6)⟩⟩
      obtain ⟨e, rfl⟩ : ∃ e, f = e + 8 := ⟨f - 8, by omega⟩
      rw [b79_8]
      by_cases z : (200 : Int) ≤ (i : Int)
      · rw [if_pos z, b79_67 (Or.inr rfl)]
      · rw [if_neg z, b79_15, if_neg (by decide)]
        refine Eq.trans b79_19 ?_
        refine x_bind ((p1 _).trans (by rw [show p = 0 from p0.resolve_right (fun w => y (sw2.mpr w))])) ?_
        dsimp only
        refine Eq.trans b79_28 ?_
        rw [if_pos rfl, b79_67 (Or.inr rfl)]
/-- the whole of it -/
theorem j79 {F : Nat} (hb : ∀ i, 0 ≤ tx i ∧ tx i ≤ 255) (hn : n ≤ 200) (ha : a ≤ 7) (hF : 8 ≤ F) (hJ : JW tx n a h 0 L σ μ) (hs : BS 20 h μ) (fst : GX X tx n md a h L 21 (fun τ ν => sgc ν < 21 ∨ SK X τ ν) σ σ μ (fun b τ => ∀ f, F ≤ f → Ev X f 80 0 [some (vr 10), some (vi a), none, none] [] SH σ = some (some (vi b), SH, τ))) (sub : ∀ h L σ' μ', JW tx n a (h + 1) 0 L σ' μ' → μ' 120 h = 20 → GX X tx n 0 a (h + 1) L 21 (fun τ ν => sgc ν < 21 ∨ SK X τ ν) σ' σ' μ' (fun b τ => ∀ f, F ≤ f → Ev X f 80 0 [some (vr 10), some (vi a), none, none] [] SH σ' = some (some (vi b), SH, τ))) : GX X tx n md a h L 20 (fun τ ν => sgc ν < 20 ∨ SK X τ ν) σ σ μ (fun b τ => ∀ f, F + 1 ≤ f → Ev X f 79 0 [some (vr 10), some (vi a), none, none] [] SH σ = some (some (vi b), SH, τ)) := by
  obtain ⟨b, τ, ν, m', q1, q2, q3, q4, q5, q6, q7⟩ := fst
  have st : ∀ e, F + 1 ≤ e + 8 → Ev X (e + 8) 79 0 [some (vr 10), some (vi a), none, none] [] SH σ = Ev X (e + 8) 79 8 [some (vr 10), some (vi a), some (vi b), some (vi 0)] [] SH τ := by
    intro e he
    refine Eq.trans b79_0 ?_
    refine x_bind (q2 _ (by omega)) ?_
    exact b79_5
  rcases q1 with z | z
  · refine ⟨0, τ, ν, m', Or.inl rfl, fun f hf => ?_, q3, q4, q5, fun _ => q6 z, fun z => absurd z (by decide)⟩
    obtain ⟨e, rfl⟩ : ∃ e, f = e + 8 := ⟨f - 8, by omega⟩
    rw [st e hf, z, x79]
  · obtain ⟨w0, L1, m1, w1, w2, w3, w4, w5⟩ := q7 z
    obtain ⟨b', τ4, ν4, m4, v1, v2, v3, v4, v5, v6, v7⟩ := it79 (X := X) (F := F) (L := L) (σ0 := σ) hb hn ha hF sub 201 L1 m1 0 τ ν (by omega) w2 (PD_le (by decide) w3) w1 (BS_cg w4 hs) (by omega) w5
    rw [w0] at q3
    refine ⟨b', τ4, ν4, m4, v1, fun f hf => ?_, MR_tr q3 v3, chg_tr q4 v4, chg_tr q5 v5, v6, fun z' => ?_⟩
    · obtain ⟨e, rfl⟩ : ∃ e, f = e + 8 := ⟨f - 8, by omega⟩
      rw [st e hf, z]
      exact v2 _ hf
    · obtain ⟨u0, L', m5, u1, u2, u3, u4, u5⟩ := v7 z'
      exact ⟨u0, L', m5, u1, u2, u3, fun j hj => (u4 j hj).trans (w4 j hj), u5⟩
end WRD

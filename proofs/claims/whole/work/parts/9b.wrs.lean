/-! WANTED: sums on both sides -/
section WRS
variable {X : Nat × (Nat → Int)} {σ σ0 μ τ ν ρ : xM} {a h m n t L L1 : Nat} {tx : Nat → Int} {c r md m' v : Int}
theorem x83 {j : Int} {o4 : Option xV} (d : Nat) : Ev X d 83 8 [some (vr 10), some (vi a), some (vi 0), some (vi j), o4] [] SH τ = some (some (vi 0), SH, τ) := by
  rw [b83_8]
  by_cases y : 200 ≤ j
  · rw [if_pos y, b83_92 (Or.inl rfl)]
  · rw [if_neg y, b83_15, if_pos rfl, b83_92 (Or.inl rfl)]
theorem it83 {F : Nat} (hb : ∀ i, 0 ≤ tx i ∧ tx i ≤ 255) (hn : n ≤ 200) (ha : a ≤ 7) (hF : 8 ≤ F) (sub : ∀ h L σ' μ', JW tx n a (h + 1) 0 L σ' μ' → (μ' 120 h = 26 ∨ μ' 120 h = 27) → GX X tx n 1 a (h + 1) L 28 (fun _ ν => sgc ν < 28) σ' σ' μ' (fun b τ => ∀ f, F ≤ f → Ev X f 84 0 [some (vr 10), some (vi a), none, none] [] SH σ' = some (some (vi b), SH, τ))) : ∀ (w L1 m i : Nat) (τ ν : xM) (o4 : Option xV), 201 ≤ L1 + w → JW tx n a h m L1 τ ν → PD 26 h m ν → GR L σ0 τ L1 → BS 26 h ν → i ≤ L1 → sgc ν < 28 → GX X tx n 2 a h L 26 (fun _ ν => sgc ν < 26) σ0 τ ν (fun b τ' => ∀ f, F + 1 ≤ f → Ev X f 83 8 [some (vr 10), some (vi a), some (vi 1), some (vi i), o4] [] SH τ = some (some (vi b), SH, τ')) := by
  intro w
  induction w with
  | zero =>
    intro L1 m i τ ν o4 e0 e1 e2 e3 e4 e5 e6
    have bd := TJ_le e1.1 hn
    have := e1.2.2
    omega
  | succ w ih =>
    intro L1 m i τ ν o4 e0 e1 e2 e3 e4 e5 e6
    have bd := TJ_le e1.1 hn
    have bl := e1.2.2
    have rg := sgc_rg (μ := ν)
    have sg := sgc_s (μ := ν)
    by_cases y : sgc ν = 26 ∨ sgc ν = 27
    · obtain ⟨k0, k4, _, _⟩ := sgc_kd e1.1.2.1 (by omega)
      obtain ⟨k3, _, _, _, _, k8⟩ := TK_kd e1.1.2.1
      have xi : xadd (i : Int) 1 = ((i + 1 : Nat) : Int) := xadd_eq (by omega) (by omega)
      have x8 : ∃ x, xsub (-1000) (τ 1 8) = x ∧ enc x (sgc ν) 0 ∧ dl x = -1 := by
        rcases y with y | y
        · rw [k8 (by omega), sg.1.mp y, y]
          exact ⟨-1043, by decide, by unfold enc; omega, by decide⟩
        · rw [k8 (by omega), sg.2.1.mp y, y]
          exact ⟨-1045, by decide, by unfold enc; omega, by decide⟩
      obtain ⟨x, x1, x2, x3⟩ := x8
      have mo := m_op (X := X) (c := sgc ν) (r := 26) hb hn ha e1 rfl (by omega) e2 e4
      rw [if_neg (by omega)] at mo
      obtain ⟨τ1, b, τ2, ν2, m', q1, q2, q3, q4, q5, q6, q7, q8⟩ := gx_it (X := X) (r := 26) (x := x) hn e3 mo (fun σ' μ' j e => sub h L1 σ' μ' j (by omega)) x2 x3 (by omega) (fun _ _ _ _ z => z)
      have st : ∀ e, F + 1 ≤ e + 8 → Ev X (e + 8) 83 8 [some (vr 10), some (vi a), some (vi 1), some (vi i), o4] [] SH τ = Ev X (e + 8) 83 68 [some (vr 10), some (vi a), some (vi 1), some (vi i), some (vi x)] [vi b] SH τ2 := by
        intro e he
        have tl : Ev X (e + 8) 83 43 [some (vr 10), some (vi a), some (vi 1), some (vi i), o4] [] SH τ = Ev X (e + 8) 83 68 [some (vr 10), some (vi a), some (vi 1), some (vi i), some (vi x)] [vi b] SH τ2 := by
          refine Eq.trans b83_43 ?_
          refine x_bind (q1 _) ?_
          rw [x1]
          dsimp only
          refine Eq.trans b83_63 ?_
          refine x_bind (q3 _ (by omega)) ?_
          rfl
        rw [b83_8, if_neg (by have := bd.2 k0; omega), b83_15, if_neg (by decide)]
        refine Eq.trans b83_19 ?_
        refine x_bind (s171.trans (by rw [tk_is e1.1.2.1 (by decide)])) ?_
        dsimp only
        refine Eq.trans b83_28 ?_
        by_cases z : ν 100 6 = 43
        · rw [if_pos z, if_pos (by decide)]
          exact tl
        · rw [if_neg z, if_neg (by decide)]
          refine Eq.trans b83_31 ?_
          refine x_bind (s171.trans (by rw [tk_is e1.1.2.1 (by decide)])) ?_
          dsimp only
          refine Eq.trans b83_40 ?_
          rw [if_pos (sg.2.1.mp (y.resolve_left (fun q => z (sg.1.mp q)))), if_neg (by decide)]
          exact tl
      rcases q2 with z | z
      · refine ⟨0, τ2, ν2, m', Or.inl rfl, fun f hf => ?_, q4, q5, q6, fun _ => q7 z, fun z => absurd z (by decide)⟩
        obtain ⟨e, rfl⟩ : ∃ e, f = e + 8 := ⟨f - 8, by omega⟩
        rw [st e hf, b83_68, if_pos z, b83_84, b83_85, x83]
      · obtain ⟨w0, τ3, L3, m3, L2, m2, w1, w2, w3, w4, w5, w6, w7, w8, _⟩ := q8 z
        obtain ⟨b', τ4, ν4, m4, v1, v2, v3, v4, v5, v6, v7⟩ := ih L3 m3 (i + 1) τ3 ν2 (some (vi x)) (by omega) w5 w6 w4 (BS_cg w7 e4) (by omega) w8
        rw [w0] at q4
        refine ⟨b', τ4, ν4, m4, v1, fun f hf => ?_, MR_tr q4 v3, chg_tr q5 (chg_tr (chg_mo (by decide) w2) v4), chg_tr q6 v5, v6, fun z' => ?_⟩
        · obtain ⟨e, rfl⟩ : ∃ e, f = e + 8 := ⟨f - 8, by omega⟩
          rw [st e hf, b83_68, if_neg (by omega)]
          refine Eq.trans b83_71 ?_
          refine x_bind (w1 _) ?_
          dsimp only
          refine Eq.trans b83_77 ?_
          rw [if_neg (by decide), b83_80, b83_85, xi]
          exact v2 _ hf
        · obtain ⟨u0, L', m5, u1, u2, u3, u4, u5⟩ := v7 z'
          exact ⟨u0, L', m5, u1, u2, u3, fun j hj => (u4 j hj).trans (w7 j hj), u5⟩
    · refine ⟨1, τ, ν, 2, Or.inr rfl, fun f hf => ?_, fun _ _ => rfl, chg_rf, chg_rf, fun z => absurd z (by decide), fun _ => ⟨rfl, L1, m, e3, e1, e2, fun _ _ => rfl, (by show sgc ν < 26; omega)⟩⟩
      obtain ⟨e, rfl⟩ : ∃ e, f = e + 8 := ⟨f - 8, by omega⟩
      rw [b83_8]
      by_cases z : (200 : Int) ≤ (i : Int)
      · rw [if_pos z, b83_92 (Or.inr rfl)]
      · rw [if_neg z, b83_15, if_neg (by decide)]
        refine Eq.trans b83_19 ?_
        refine x_bind (s171.trans (by rw [tk_is e1.1.2.1 (by decide), if_neg (show ¬ ν 100 6 = 43 by omega)])) ?_
        dsimp only
        refine Eq.trans b83_28 ?_
        rw [if_neg (by decide)]
        refine Eq.trans b83_31 ?_
        refine x_bind (s171.trans (by rw [tk_is e1.1.2.1 (by decide), if_neg (show ¬ ν 100 6 = 45 by omega)])) ?_
        dsimp only
        refine Eq.trans b83_40 ?_
        rw [if_pos rfl, b83_92 (Or.inr rfl)]
theorem j83 {F : Nat} (hb : ∀ i, 0 ≤ tx i ∧ tx i ≤ 255) (hn : n ≤ 200) (ha : a ≤ 7) (hF : 8 ≤ F) (hJ : JW tx n a h 0 L σ μ) (hs : BS 26 h μ) (fst : GX X tx n md a h L 28 (fun _ ν => sgc ν < 28) σ σ μ (fun b τ => ∀ f, F ≤ f → Ev X f 84 0 [some (vr 10), some (vi a), none, none] [] SH σ = some (some (vi b), SH, τ))) (sub : ∀ h L σ' μ', JW tx n a (h + 1) 0 L σ' μ' → (μ' 120 h = 26 ∨ μ' 120 h = 27) → GX X tx n 1 a (h + 1) L 28 (fun _ ν => sgc ν < 28) σ' σ' μ' (fun b τ => ∀ f, F ≤ f → Ev X f 84 0 [some (vr 10), some (vi a), none, none] [] SH σ' = some (some (vi b), SH, τ))) : GX X tx n md a h L 26 (fun _ ν => sgc ν < 26) σ σ μ (fun b τ => ∀ f, F + 1 ≤ f → Ev X f 83 0 [some (vr 10), some (vi a), none, none, none] [] SH σ = some (some (vi b), SH, τ)) := by
  obtain ⟨b, τ, ν, m', q1, q2, q3, q4, q5, q6, q7⟩ := fst
  have st : ∀ e, F + 1 ≤ e + 8 → Ev X (e + 8) 83 0 [some (vr 10), some (vi a), none, none, none] [] SH σ = Ev X (e + 8) 83 8 [some (vr 10), some (vi a), some (vi b), some (vi 0), none] [] SH τ := by
    intro e he
    refine Eq.trans b83_0 ?_
    refine x_bind (q2 _ (by omega)) ?_
    exact b83_5
  rcases q1 with z | z
  · refine ⟨0, τ, ν, m', Or.inl rfl, fun f hf => ?_, q3, q4, q5, fun _ => q6 z, fun z => absurd z (by decide)⟩
    obtain ⟨e, rfl⟩ : ∃ e, f = e + 8 := ⟨f - 8, by omega⟩
    rw [st e hf, z, x83]
  · obtain ⟨w0, L1, m1, w1, w2, w3, w4, w5⟩ := q7 z
    obtain ⟨b', τ4, ν4, m4, v1, v2, v3, v4, v5, v6, v7⟩ := it83 (X := X) (F := F) (L := L) (σ0 := σ) hb hn ha hF sub 201 L1 m1 0 τ ν none (by omega) w2 (PD_le (by decide) w3) w1 (BS_cg w4 hs) (by omega) w5
    rw [w0] at q3
    refine ⟨b', τ4, ν4, m4, v1, fun f hf => ?_, MR_tr q3 v3, chg_tr q4 v4, chg_tr q5 v5, v6, fun z' => ?_⟩
    · obtain ⟨e, rfl⟩ : ∃ e, f = e + 8 := ⟨f - 8, by omega⟩
      rw [st e hf, z]
      exact v2 _ hf
    · obtain ⟨u0, L', m5, u1, u2, u3, u4, u5⟩ := v7 z'
      exact ⟨u0, L', m5, u1, u2, u3, fun j hj => (u4 j hj).trans (w4 j hj), u5⟩
/-- readUnit -/
theorem j85 (hb : ∀ i, 0 ≤ tx i ∧ tx i ≤ 255) (hn : n ≤ 200) (ha : a ≤ 7) {F : Nat} (hF : 8 ≤ F) (hJ : JW tx n a h 0 L σ μ) (h2 : md ≠ 2) (hm : md ≠ 0 ∨ f205 μ 7237492 = 0) (sub : a ≤ 6 → ∀ σ' μ', JW tx n (a + 1) (h + 1) 0 L σ' μ' → μ' 120 h = 30 → GX X tx n 0 (a + 1) (h + 1) L 20 (fun τ ν => sgc ν < 20 ∨ SK X τ ν) σ' σ' μ' (fun b τ => ∀ f, F ≤ f + 1 → Ev X f 79 0 [some (vr 10), some (vi ((a + 1 : Nat) : Int)), none, none] [] SH σ' = some (some (vi b), SH, τ))) : GX X tx n md a h L 29 (fun _ _ => True) σ σ μ (fun b τ => ∀ f, F ≤ f → Ev X f 85 0 [some (vr 10), some (vi a), none, none, none] [] SH σ = some (some (vi b), SH, τ)) := by
  obtain ⟨c, v, l1, l2, l3⟩ := tk_leaf (X := X) (RS_w (by omega) hb) hJ.1.1 hJ.1.2.1
  obtain ⟨k3, k1, k0, k2, k4, k8⟩ := TK_kd hJ.1.2.1
  have x7 : ∀ e, e = μ 100 36 → σ 10 6 = e ∧ 0 ≤ e ∧ e ≤ 40 := by
    obtain ⟨k, _, _, _, _, _, _, e7, _, _⟩ := hJ.2.1
    intro e he
    rw [he]
    exact e7
  have x6 := x7 _ rfl
  have x8 : σ 1 5 = 2 → 0 ≤ σ 1 8 := fun z => (hJ.1.2.2.1.2 z).1
  have st : ∀ e, Ev X (e + 8) 85 0 [some (vr 10), some (vi a), none, none, none] [] SH σ = Ev X (e + 8) 85 14 [some (vr 10), some (vi a), some (vi (if μ 100 6 = 40 then 1 else 0)), none, none] [vi c] SH σ := by
    intro e
    refine Eq.trans b85_0 ?_
    refine x_bind (s171.trans (by rw [tk_is hJ.1.2.1 (by decide)])) ?_
    dsimp only
    refine Eq.trans b85_9 ?_
    refine x_bind (l1 _) ?_
    rfl
  have bad : ((¬ (μ 100 6 = 2 ∨ μ 100 6 = 40 ∨ 0 ≤ v)) ∨ μ 100 36 = 40 ∨ (μ 100 6 = 40 ∧ 7 ≤ a)) → (∀ e, Ev X (e + 8) 85 0 [some (vr 10), some (vi a), none, none, none] [] SH σ = some (some (vi 0), SH, g168 σ)) → GX X tx n md a h L 29 (fun _ _ => True) σ σ μ (fun b τ => ∀ f, F ≤ f → Ev X f 85 0 [some (vr 10), some (vi a), none, none, none] [] SH σ = some (some (vi b), SH, τ)) := by
    intro w run
    obtain ⟨r1, r2, r3, r4, r5⟩ := m_ubad (X := X) hb hn h2 hm hJ l2 w
    refine ⟨0, g168 σ, g206 μ 2, md, Or.inl rfl, fun f hf => ?_, r1, chg_mo (by decide) r4, chg_mo (by decide) r5, fun _ => r3, fun z => absurd z (by decide)⟩
    obtain ⟨e, rfl⟩ : ∃ e, f = e + 8 := ⟨f - 8, by omega⟩
    exact run e
  have rf : ∀ (e : Nat) (o1 o2 o3 o4 : Option xV), f168 σ = 0 → Ev X (e + 8) 85 53 [some (vr 10), o1, o2, o3, o4] [] SH σ = some (some (vi 0), SH, g168 σ) := by
    intro e o1 o2 o3 o4 z
    refine Eq.trans b85_53 ?_
    refine x_bind s168 ?_
    rw [z]
    exact b85_60 (Or.inl rfl)
  obtain ⟨f0, _⟩ := tk_rf (X := X) (RS_w (by omega) hb) hJ.1.2.1 hJ.1.2.2.2
  by_cases y : μ 100 6 = 40
  · have c1 : c = -1000 := by
      clear hm
      omega
    rw [if_pos y] at st
    by_cases z : a ≤ 6
    · by_cases w : μ 100 36 < 40
      · obtain ⟨τ1, ν1, p1, p2, p3, p4, p5, p6, p7, p8⟩ := m_open (X := X) hb hn z h2 hm hJ l2 y w
        obtain ⟨b, τ, ν, m', q1, q2, q3, q4, q5, q6, q7⟩ := sub z τ1 ν1 p3 p4
        have xa : xadd (a : Int) 1 = ((a + 1 : Nat) : Int) := xadd_eq (by omega) (by omega)
        have st2 : ∀ e, F ≤ e + 8 → Ev X (e + 8) 85 0 [some (vr 10), some (vi a), none, none, none] [] SH σ = Ev X (e + 8) 85 95 [some (vr 10), some (vi a), some (vi 1), some (vi c), some (vi 1)] [vi b] SH τ := by
          intro e he
          rw [st, b85_14, if_neg (by decide), b85_19, if_pos (by omega), b85_32, b85_37, if_neg (by decide), b85_44, if_pos (by omega)]
          refine Eq.trans b85_61 ?_
          refine x_bind (p1 _) ?_
          dsimp only
          refine Eq.trans b85_78 ?_
          rw [if_pos (by decide)]
          refine Eq.trans b85_88 ?_
          rw [xa]
          refine x_bind (q2 _ (by omega)) ?_
          rfl
        rcases q1 with b0 | b0
        · refine ⟨0, τ, ν, m', Or.inl rfl, fun f hf => ?_, MR_tr p2 q3, chg_tr p7 q4, chg_tr p8 q5, fun _ => q6 b0, fun z => absurd z (by decide)⟩
          obtain ⟨e, rfl⟩ : ∃ e, f = e + 8 := ⟨f - 8, by omega⟩
          rw [st2 e hf, b85_95, if_pos b0, b85_114, b85_115 (Or.inl rfl)]
        · obtain ⟨w0, L1, m1, w1, w2, w3, w4, w5⟩ := q7 b0
          rw [w0] at q3
          have h30 : ν 120 h = 30 := (w4 h (by omega)).trans p4
          have s170 : ∀ e, Ev X (e + 7) 170 0 [some (vr 1), some (vi 41)] [] SH τ = Ev X (e + 7) 170 5 [some (vr 1), some (vi 41)] [vi (if ν 100 6 = 41 then 1 else 0)] SH τ := by
            intro e
            refine Eq.trans b170_0 ?_
            refine x_bind (s171.trans (by rw [tk_is w2.1.2.1 (by decide)])) ?_
            rfl
          by_cases u : ν 100 6 = 41
          · obtain ⟨τ3, ν3, g1, g2, g3, g4, g5, g6⟩ := m_close (X := X) hb hn (by omega) w2 u h30 (PD_le (by decide) w3)
            refine ⟨1, τ3, ν3, 2, Or.inr rfl, fun f hf => ?_, MR_tr p2 (MR_tr q3 g2), chg_tr p7 (chg_tr q4 (chg_mo (by decide) g5)), chg_tr p8 (chg_tr q5 g6), fun z => absurd z (by decide), fun _ => ⟨rfl, L1, 0, ?_, g3, fun i hi => absurd hi (by omega), fun j hj => (g4 j hj).trans ((w4 j (by omega)).trans (p5 j hj)), trivial⟩⟩
            · obtain ⟨e, rfl⟩ : ∃ e, f = e + 8 := ⟨f - 8, by omega⟩
              rw [st2 e hf, b85_95, if_neg (by omega)]
              refine Eq.trans b85_98 ?_
              have pr : Ev X (e + 7) 170 0 [some (vr 1), some (vi 41)] [] SH τ = some (some (vi 1), SH, τ3) := by
                rw [s170, if_pos u, b170_5, if_pos (by decide)]
                refine Eq.trans b170_13 ?_
                refine x_bind (g1 _) ?_
                exact b170_17
              refine x_bind pr ?_
              dsimp only
              refine Eq.trans b85_107 ?_
              rw [if_neg (by decide), b85_110, b85_115 (Or.inr rfl)]
            · obtain ⟨v1, v2, v3, v4⟩ := w1
              have t12 : τ3 12 = τ 12 := chg_row g5 (fun _ => rfl) rfl
              rw [p6] at v2 v3 v4
              exact ⟨v1, by rw [t12]; exact v2, by rw [t12]; exact v3, by rw [t12]; exact v4⟩
          · obtain ⟨f0', _, f3, _⟩ := tk_rf (X := X) (RS_w (by omega) hb) w2.1.2.1 w2.1.2.2.2
            have cl : ∃ ν', MR X 2 ν 2 ν' ∧ FL (g168 τ) ν' ∧ chg [116, 117, 120] WM ν ν' := by
              rcases w5 with w5 | w5
              · have hh : ν 100 38 = ((h + 1 + m1 : Nat) : Int) ∧ m1 ≤ L1 := by
                  obtain ⟨k, g1, _, _, g4, _⟩ := w2.2.1
                  exact ⟨g4, by omega⟩
                have bd := TJ_le w2.1 hn
                have bl := w2.2.2
                have op := (m_opn (X := X) hh.1 (by omega)).1 ⟨h, by omega, h30⟩
                have rg := sgc_rg (μ := ν)
                obtain ⟨g1, g2, g3, g4, g5⟩ := m_bad (X := X) hb hn w2.1 (by omega) op (Or.inl ⟨rfl, u⟩)
                exact ⟨_, g1, g3, chg_mo (by decide) g5⟩
              · exact w5.2
            obtain ⟨ν', g1, g2, g3⟩ := cl
            refine ⟨0, g168 τ, ν', 2, Or.inl rfl, fun f hf => ?_, MR_tr p2 (MR_tr q3 g1), chg_tr p7 (chg_tr q4 (chg_mo (by decide) f3)), chg_tr p8 (chg_tr q5 g3), fun _ => g2, fun z => absurd z (by decide)⟩
            obtain ⟨e, rfl⟩ : ∃ e, f = e + 8 := ⟨f - 8, by omega⟩
            rw [st2 e hf, b85_95, if_neg (by omega)]
            refine Eq.trans b85_98 ?_
            have pr : Ev X (e + 7) 170 0 [some (vr 1), some (vi 41)] [] SH τ = some (some (vi 0), SH, g168 τ) := by
              rw [s170, if_neg u, b170_5, if_neg (by decide)]
              refine Eq.trans b170_8 ?_
              refine x_bind s168 ?_
              rw [f0']
              exact b170_12 (Or.inl rfl)
            refine x_bind pr ?_
            dsimp only
            refine Eq.trans b85_107 ?_
            rw [if_pos rfl, b85_114, b85_115 (Or.inl rfl)]
      · refine bad (Or.inr (Or.inl (by omega))) (fun e => ?_)
        rw [st, b85_14, if_neg (by decide), b85_19, if_pos (by omega), b85_32, b85_37, if_neg (by decide), b85_44, if_neg (by omega), rf e _ _ _ _ f0]
    · refine bad (Or.inr (Or.inr ⟨y, by omega⟩)) (fun e => ?_)
      rw [st, b85_14, if_neg (by decide), b85_19, if_neg (by omega), b85_25, if_pos c1, b85_36, b85_37, if_pos rfl, rf e _ _ _ _ f0]
  · rw [if_neg y] at st
    by_cases z : c = -1000
    · refine bad (Or.inl ?_) (fun e => ?_)
      · clear hm
        omega
      · rw [st, b85_14, if_pos rfl, b85_25, if_pos z, b85_36, b85_37, if_pos rfl, rf e _ _ _ _ f0]
    · by_cases w : μ 100 36 < 40
      · obtain ⟨τ1, τ, ν, p1, p2, p3, p4, p5, p6, p7, p8⟩ := m_leaf (X := X) (x := c) hb hn h2 hm hJ l2 y w (by
          clear hm
          rcases l3 with l3 | l3 | l3
          · exact Or.inl l3
          · exact Or.inr ⟨l3.1, l3.2.2⟩
          · exact absurd l3.2.1 z)
        refine ⟨1, τ, ν, 2, Or.inr rfl, fun f hf => ?_, p3, p7, p8, fun z => absurd z (by decide), fun _ => ⟨rfl, L + 1, 0, p6, p4, fun i hi => absurd hi (by omega), p5, trivial⟩⟩
        obtain ⟨e, rfl⟩ : ∃ e, f = e + 8 := ⟨f - 8, by omega⟩
        rw [st, b85_14, if_pos rfl, b85_25, if_neg z, b85_32, b85_37, if_neg (by decide), b85_44, if_pos (by omega)]
        refine Eq.trans b85_61 ?_
        refine x_bind (p1 _) ?_
        dsimp only
        refine Eq.trans b85_78 ?_
        rw [if_neg (by decide)]
        refine Eq.trans b85_82 ?_
        refine x_bind (p2 _) ?_
        exact b85_87 (Or.inr rfl)
      · refine bad (Or.inr (Or.inl (by omega))) (fun e => ?_)
        rw [st, b85_14, if_pos rfl, b85_25, if_neg z, b85_32, b85_37, if_neg (by decide), b85_44, if_neg (by omega), rf e _ _ _ _ f0]
end WRS

/-! WANTED: readOne, and all of them together -/
section WRO
variable {X : Nat × (Nat → Int)} {σ σ0 μ τ ν ρ : xM} {a h m n t L L1 : Nat} {tx : Nat → Int} {c r md m' v : Int}
theorem GX_im {l : Int} {E : xM → xM → Prop} {R R' : Int → xM → Prop} (k : ∀ b τ, R b τ → R' b τ) (g : GX X tx n md a h L l E σ0 σ μ R) : GX X tx n md a h L l E σ0 σ μ R' := by
  obtain ⟨b, τ, ν, m', q1, q2, q3⟩ := g
  exact ⟨b, τ, ν, m', q1, k _ _ q2, q3⟩
theorem j81 (hb : ∀ i, 0 ≤ tx i ∧ tx i ≤ 255) (hn : n ≤ 200) (ha : a ≤ 7) {F : Nat} (hF : 8 ≤ F) (hJ : JW tx n a h 0 L σ μ) (hs : BS 23 h μ) (fst : f205 μ 7237492 = 0 → GX X tx n 0 a h L 26 (fun _ ν => sgc ν < 26) σ σ μ (fun b τ => ∀ f, F ≤ f → Ev X f 83 0 [some (vr 10), some (vi a), none, none, none] [] SH σ = some (some (vi b), SH, τ))) (sub : ∀ h L σ' μ', JW tx n a (h + 1) 0 L σ' μ' → (μ' 120 h = 23 ∨ μ' 120 h = 24 ∨ μ' 120 h = 25) → GX X tx n 1 a (h + 1) L 26 (fun _ ν => sgc ν < 26) σ' σ' μ' (fun b τ => ∀ f, F ≤ f → Ev X f 83 0 [some (vr 10), some (vi a), none, none, none] [] SH σ' = some (some (vi b), SH, τ))) (inn : a ≤ 6 → ∀ σ' μ', JW tx n (a + 1) (h + 1) 0 L σ' μ' → μ' 120 h = 22 → GX X tx n 0 (a + 1) (h + 1) L 22 (fun τ ν => sgc ν < 23 ∨ SK X τ ν) σ' σ' μ' (fun b τ => ∀ f, F ≤ f → Ev X f 81 0 [some (vr 10), some (vi ((a + 1 : Nat) : Int)), none] [] SH σ' = some (some (vi b), SH, τ))) : GX X tx n 0 a h L 22 (fun τ ν => sgc ν < 23 ∨ SK X τ ν) σ σ μ (fun b τ => ∀ f, F + 1 ≤ f → Ev X f 81 0 [some (vr 10), some (vi a), none] [] SH σ = some (some (vi b), SH, τ)) := by
  obtain ⟨p, p0, p1, p2, p3⟩ := tk_w (X := X) (k1 := 17) (wd := [110, 111, 116]) (by decide) rfl (by decide) (by decide +kernel) (RS_w (by omega) hb) hJ.1.1 hJ.1.2.1
  have p2 : f205 μ 7237492 = p := p2
  have st : ∀ e, Ev X (e + 8) 81 0 [some (vr 10), some (vi a), none] [] SH σ = Ev X (e + 8) 81 9 [some (vr 10), some (vi a), none] [vi p] SH σ := by
    intro e
    refine Eq.trans b81_0 ?_
    refine x_bind (p1 _) ?_
    rfl
  rcases p0 with y | y
  · obtain ⟨b, τ, ν, m', q1, q2, q3, q4, q5, q6, q7⟩ := fst (by omega)
    have st2 : ∀ e, F + 1 ≤ e + 8 → Ev X (e + 8) 81 0 [some (vr 10), some (vi a), none] [] SH σ = Ev X (e + 8) 81 63 [some (vr 10), some (vi a), none] [vi b] SH τ := by
      intro e he
      rw [st, b81_9, if_pos y]
      refine Eq.trans b81_58 ?_
      refine x_bind (q2 _ (by omega)) ?_
      rfl
    rcases q1 with b0 | b0
    · refine ⟨0, τ, ν, m', Or.inl rfl, fun f hf => ?_, q3, q4, q5, fun _ => q6 b0, fun z => absurd z (by decide)⟩
      obtain ⟨e, rfl⟩ : ∃ e, f = e + 8 := ⟨f - 8, by omega⟩
      rw [st2 e hf, b81_63, if_neg (by omega), b81_66]
    · obtain ⟨w0, L1, m1, w1, w2, w3, w4, w5⟩ := q7 b0
      rw [w0] at q3
      have st3 : ∀ e, F + 1 ≤ e + 8 → Ev X (e + 8) 81 0 [some (vr 10), some (vi a), none] [] SH σ = Ev X (e + 8) 81 77 [some (vr 10), some (vi a), none] [vi (if ν 100 6 = 60 then 1 else 0)] SH τ := by
        intro e he
        rw [st2 e he, b81_63, if_pos (by omega)]
        refine Eq.trans b81_68 ?_
        refine x_bind (s171.trans (by rw [tk_is w2.1.2.1 (by decide)])) ?_
        rfl
      have st4 : ∀ e, ν 100 6 ≠ 60 → Ev X (e + 8) 81 77 [some (vr 10), some (vi a), none] [vi (if ν 100 6 = 60 then 1 else 0)] SH τ = Ev X (e + 8) 81 89 [some (vr 10), some (vi a), none] [vi (if ν 100 6 = 62 then 1 else 0)] SH τ := by
        intro e he
        rw [if_neg he, b81_77, if_neg (by decide)]
        refine Eq.trans b81_80 ?_
        refine x_bind (s171.trans (by rw [tk_is w2.1.2.1 (by decide)])) ?_
        rfl
      have st5 : ∀ e, ν 100 6 ≠ 62 → Ev X (e + 8) 81 89 [some (vr 10), some (vi a), none] [vi (if ν 100 6 = 62 then 1 else 0)] SH τ = Ev X (e + 8) 81 101 [some (vr 10), some (vi a), none] [vi (if ν 100 6 = 61 then 1 else 0)] SH τ := by
        intro e he
        rw [if_neg he, b81_89, if_neg (by decide)]
        refine Eq.trans b81_92 ?_
        refine x_bind (s171.trans (by rw [tk_is w2.1.2.1 (by decide)])) ?_
        rfl
      have sg := sgc_s (μ := ν)
      have rg := sgc_rg (μ := ν)
      by_cases u : sgc ν = 23 ∨ sgc ν = 24 ∨ sgc ν = 25
      · have x8 : ∃ x, xsub (-1000) (τ 1 8) = x ∧ enc x (sgc ν) 0 ∧ dl x = -1 := by
          obtain ⟨_, _, _, _, _, k8⟩ := TK_kd w2.1.2.1
          rcases u with u | u | u
          · have g := sg.2.2.2.1.mp u
            rw [k8 (by omega), g, u]
            exact ⟨-1061, by decide, by unfold enc; omega, by decide⟩
          · have g := sg.2.2.2.2.1.mp u
            rw [k8 (by omega), g, u]
            exact ⟨-1060, by decide, by unfold enc; omega, by decide⟩
          · have g := sg.2.2.2.2.2.mp u
            rw [k8 (by omega), g, u]
            exact ⟨-1062, by decide, by unfold enc; omega, by decide⟩
        obtain ⟨x, x1, x2, x3⟩ := x8
        have six : ν 100 6 = 60 ∨ ν 100 6 = 62 ∨ ν 100 6 = 61 := by omega
        obtain ⟨τ1, b', τ2, ν2, m2', r1, r2, r3, r4, r5, r6, r7, r8⟩ := gx_it (X := X) (r := 23) (x := x) hn w1 (m_cmp (X := X) (c := sgc ν) hb hn ha w2 rfl u w3 (BS_cg w4 hs)) (fun σ' μ' j e => sub h L1 σ' μ' j (by omega)) x2 x3 (by omega) (fun _ _ _ _ z => z)
        have tl : ∀ e, F + 1 ≤ e + 8 → Ev X (e + 8) 81 106 [some (vr 10), some (vi a), none] [] SH τ = Ev X (e + 8) 81 130 [some (vr 10), some (vi a), some (vi x)] [vi b'] SH τ2 := by
          intro e he
          refine Eq.trans b81_106 ?_
          refine x_bind (r1 _) ?_
          rw [x1]
          dsimp only
          refine Eq.trans b81_125 ?_
          refine x_bind (r3 _ (by omega)) ?_
          rfl
        have st6 : ∀ e, F + 1 ≤ e + 8 → Ev X (e + 8) 81 0 [some (vr 10), some (vi a), none] [] SH σ = Ev X (e + 8) 81 130 [some (vr 10), some (vi a), some (vi x)] [vi b'] SH τ2 := by
          intro e he
          rw [st3 e he, ← tl e he]
          by_cases g : ν 100 6 = 60
          · rw [if_pos g, b81_77, if_pos (by decide)]
          · rw [st4 e g]
            by_cases g2 : ν 100 6 = 62
            · rw [if_pos g2, b81_89, if_pos (by decide)]
            · rw [st5 e g2, if_pos ((six.resolve_left g).resolve_left g2), b81_101, if_pos (by decide)]
        rcases r2 with z | z
        · refine ⟨0, τ2, ν2, m2', Or.inl rfl, fun f hf => ?_, MR_tr q3 r4, chg_tr q4 r5, chg_tr q5 r6, fun _ => r7 z, fun z => absurd z (by decide)⟩
          obtain ⟨e, rfl⟩ : ∃ e, f = e + 8 := ⟨f - 8, by omega⟩
          rw [st6 e hf, b81_130, if_pos z, b81_145, b81_146 (Or.inl rfl)]
        · obtain ⟨v0, τ3, L3, m3, L2, m2, v1, v2, v3, v4, v5, v6, v7, v8, v9, v10, v11⟩ := r8 z
          rw [v0] at r4
          refine ⟨1, τ3, ν2, 2, Or.inr rfl, fun f hf => ?_, MR_tr q3 r4, chg_tr q4 (chg_tr r5 (chg_mo (by decide) v2)), chg_tr q5 r6, fun z => absurd z (by decide), fun _ => ⟨rfl, L3, m3, v4, v5, PD_le (by decide) v6, fun j hj => (v7 j hj).trans (w4 j hj), ?_⟩⟩
          · obtain ⟨e, rfl⟩ : ∃ e, f = e + 8 := ⟨f - 8, by omega⟩
            rw [st6 e hf, b81_130, if_neg (by omega)]
            refine Eq.trans b81_133 ?_
            refine x_bind (v1 _) ?_
            dsimp only
            refine Eq.trans b81_138 ?_
            rw [if_neg (by decide), b81_141, b81_146 (Or.inr rfl)]
          · have rg2 := sgc_rg (μ := ν2)
            have v8 : sgc ν2 < 26 := v8
            by_cases g : sgc ν2 < 23
            · exact Or.inl g
            · have g2 : sgc ν2 = 23 ∨ sgc ν2 = 24 ∨ sgc ν2 = 25 := by
                clear fst sub inn r7 r8 q6 q7
                omega
              obtain ⟨ν', g3, g4, g5⟩ := m_sk (X := X) (c := sgc ν2) hb hn ha v9 rfl g2 v10 (by rw [v11]; exact u)
              exact Or.inr (SK_put v2 ⟨g2, ν', g3, g4, g5⟩)
      · refine ⟨1, τ, ν, 2, Or.inr rfl, fun f hf => ?_, q3, q4, q5, fun z => absurd z (by decide), fun _ => ⟨rfl, L1, m1, w1, w2, PD_le (by decide) w3, w4, Or.inl ?_⟩⟩
        · obtain ⟨e, rfl⟩ : ∃ e, f = e + 8 := ⟨f - 8, by omega⟩
          rw [st3 e hf, st4 e (fun g => u (Or.inr (Or.inl (sg.2.2.2.2.1.mpr g)))), st5 e (fun g => u (Or.inr (Or.inr (sg.2.2.2.2.2.mpr g)))), if_neg (fun g => u (Or.inl (sg.2.2.2.1.mpr g))), b81_101, if_neg (by decide), b81_104]
        · have w5 : sgc ν < 26 := w5
          clear fst sub inn q6 q7
          omega
  · obtain ⟨c, v, l1, l2, l3⟩ := tk_leaf (X := X) (RS_w (by omega) hb) hJ.1.1 hJ.1.2.1
    have p3 := p3 y
    simp only [List.length_cons, List.length_nil] at p3
    have v1 : v = -1 := by
      clear fst sub inn
      rcases l3 with l3 | l3 | l3
      · omega
      · omega
      · exact l3.2.2
    rw [v1] at l2
    have w1 : f205 μ 7237492 = 1 := by rw [p2, y]
    by_cases z : a ≤ 6
    · obtain ⟨τ1, ν1, g1, g2, g3, g4, g5, g6, g7⟩ := m_not (X := X) hb hn z hJ w1 l2
      obtain ⟨b, τ, ν, m', q1, q2, q3, q4, q5, q6, q7⟩ := inn z τ1 ν1 g3 g4
      have xa : xadd (a : Int) 1 = ((a + 1 : Nat) : Int) := xadd_eq (by omega) (by omega)
      have st2 : ∀ e, F + 1 ≤ e + 8 → Ev X (e + 8) 81 0 [some (vr 10), some (vi a), none] [] SH σ = Ev X (e + 8) 81 40 [some (vr 10), some (vi a), none] [vi b] SH τ := by
        intro e he
        rw [st, b81_9, if_neg (by omega), b81_12, if_pos (by omega)]
        refine Eq.trans b81_26 ?_
        refine x_bind (g1 _) ?_
        dsimp only
        refine Eq.trans b81_33 ?_
        rw [xa]
        refine x_bind (q2 _ (by omega)) ?_
        rfl
      rcases q1 with b0 | b0
      · refine ⟨0, τ, ν, m', Or.inl rfl, fun f hf => ?_, MR_tr g2 q3, chg_tr (chg_mo (by decide) g6) q4, chg_tr g7 q5, fun _ => q6 b0, fun z => absurd z (by decide)⟩
        obtain ⟨e, rfl⟩ : ∃ e, f = e + 8 := ⟨f - 8, by omega⟩
        rw [st2 e hf, b81_40, if_pos b0, b81_56, b81_57 (Or.inl rfl)]
      · obtain ⟨w0, L1, m1, k1, k2, k3, k4, k5⟩ := q7 b0
        rw [w0] at q3
        have e22 : ν 120 h = 22 := (k4 h (by omega)).trans g4
        obtain ⟨τ3, u1, u2, u3, u4, u5⟩ := sj_put (X := X) (x := -5) (a := a) hn k2 (by rw [if_pos e22]; omega) (by rw [e22]; unfold enc; omega) (by decide)
        have t12 : τ1 12 = σ 12 := chg_row g6 (fun _ => rfl) rfl
        have gr : GR L σ τ L1 := by
          unfold GR at k1 ⊢
          rw [t12] at k1
          exact k1
        refine ⟨1, τ3, ν, 2, Or.inr rfl, fun f hf => ?_, MR_tr g2 q3, chg_tr (chg_mo (by decide) g6) (chg_tr q4 (chg_mo (by decide) u2)), chg_tr g7 q5, fun z => absurd z (by decide), fun _ => ⟨rfl, L1 + 1, m1 + 1, GR_put gr u4 u5 (by decide), u3, PD_cons e22 (by decide) (by decide) k3, fun j hj => (k4 j (by omega)).trans (g5 j hj), k5.elim Or.inl (fun s => Or.inr (SK_put u2 s))⟩⟩
        obtain ⟨e, rfl⟩ : ∃ e, f = e + 8 := ⟨f - 8, by omega⟩
        rw [st2 e hf, b81_40, if_neg (by omega)]
        refine Eq.trans b81_43 ?_
        refine x_bind (u1 _) ?_
        dsimp only
        refine Eq.trans b81_49 ?_
        rw [if_neg (by decide), b81_52, b81_57 (Or.inr rfl)]
    · obtain ⟨g1, g2, g3, g4, g5⟩ := m_nbad (X := X) hb hn (by omega) hJ w1 l2
      refine ⟨0, g168 σ, g206 μ 2, 0, Or.inl rfl, fun f hf => ?_, g1, chg_mo (by decide) g4, chg_mo (by decide) g5, fun _ => g3, fun z => absurd z (by decide)⟩
      obtain ⟨e, rfl⟩ : ∃ e, f = e + 8 := ⟨f - 8, by omega⟩
      rw [st, b81_9, if_neg (by omega), b81_12, if_neg (by omega)]
      refine Eq.trans b81_18 ?_
      refine x_bind s168 ?_
      rw [g2]
      exact b81_25 (Or.inl rfl)
def PJ (X : Nat × (Nat → Int)) (tx : Nat → Int) (n t : Nat) : Prop := (∀ (a h L : Nat) (σ μ : xM), a + t = 7 → JW tx n a h 0 L σ μ → BS 20 h μ → GX X tx n 0 a h L 20 (fun τ ν => sgc ν < 20 ∨ SK X τ ν) σ σ μ (fun b τ => ∀ f, 8 + 6 * t + 5 ≤ f → Ev X f 79 0 [some (vr 10), some (vi a), none, none] [] SH σ = some (some (vi b), SH, τ))) ∧ (∀ (a h L : Nat) (σ μ : xM), a + t = 7 → JW tx n a h 0 L σ μ → BS 23 h μ → GX X tx n 0 a h L 22 (fun τ ν => sgc ν < 23 ∨ SK X τ ν) σ σ μ (fun b τ => ∀ f, 8 + 6 * t + 3 ≤ f → Ev X f 81 0 [some (vr 10), some (vi a), none] [] SH σ = some (some (vi b), SH, τ)))
theorem PJ_st (hb : ∀ i, 0 ≤ tx i ∧ tx i ≤ 255) (hn : n ≤ 200) (prev : ∀ t', t = t' + 1 → PJ X tx n t') : PJ X tx n t := by
  have JU : ∀ (a h L : Nat) (σ μ : xM) (md : Int), a + t = 7 → JW tx n a h 0 L σ μ → md ≠ 2 → (md ≠ 0 ∨ f205 μ 7237492 = 0) → GX X tx n md a h L 29 (fun _ _ => True) σ σ μ (fun b τ => ∀ f, 8 + 6 * t ≤ f → Ev X f 85 0 [some (vr 10), some (vi a), none, none, none] [] SH σ = some (some (vi b), SH, τ)) := by
    intro a h L σ μ md at' hJ h2 hm
    refine j85 hb hn (by omega) (by omega) hJ h2 hm (fun ha σ' μ' j e => ?_)
    obtain ⟨t', rfl⟩ : ∃ t', t = t' + 1 := ⟨t - 1, by omega⟩
    exact GX_im (fun b τ g f hf => g f (by omega)) ((prev t' rfl).1 (a + 1) (h + 1) L σ' μ' (by omega) j (Or.inr (Or.inl e)))
  have JT : ∀ (a h L : Nat) (σ μ : xM) (md : Int), a + t = 7 → JW tx n a h 0 L σ μ → BS 28 h μ → md ≠ 2 → (md ≠ 0 ∨ f205 μ 7237492 = 0) → GX X tx n md a h L 28 (fun _ ν => sgc ν < 28) σ σ μ (fun b τ => ∀ f, 8 + 6 * t + 1 ≤ f → Ev X f 84 0 [some (vr 10), some (vi a), none, none] [] SH σ = some (some (vi b), SH, τ)) := by
    intro a h L σ μ md at' hJ hs h2 hm
    exact j84 hb hn (by omega) (by omega) hJ hs (JU a h L σ μ md at' hJ h2 hm) (fun h L σ' μ' j _ => JU a (h + 1) L σ' μ' 1 at' j (by decide) (Or.inl (by decide)))
  have JS : ∀ (a h L : Nat) (σ μ : xM) (md : Int), a + t = 7 → JW tx n a h 0 L σ μ → BS 26 h μ → md ≠ 2 → (md ≠ 0 ∨ f205 μ 7237492 = 0) → GX X tx n md a h L 26 (fun _ ν => sgc ν < 26) σ σ μ (fun b τ => ∀ f, 8 + 6 * t + 2 ≤ f → Ev X f 83 0 [some (vr 10), some (vi a), none, none, none] [] SH σ = some (some (vi b), SH, τ)) := by
    intro a h L σ μ md at' hJ hs h2 hm
    exact j83 hb hn (by omega) (by omega) hJ hs (JT a h L σ μ md at' hJ (BS_le (by decide) hs) h2 hm) (fun h L σ' μ' j e => JT a (h + 1) L σ' μ' 1 at' j (BS_up rfl (by omega)) (by decide) (Or.inl (by decide)))
  have JO : ∀ (a h L : Nat) (σ μ : xM), a + t = 7 → JW tx n a h 0 L σ μ → BS 23 h μ → GX X tx n 0 a h L 22 (fun τ ν => sgc ν < 23 ∨ SK X τ ν) σ σ μ (fun b τ => ∀ f, 8 + 6 * t + 3 ≤ f → Ev X f 81 0 [some (vr 10), some (vi a), none] [] SH σ = some (some (vi b), SH, τ)) := by
    intro a h L σ μ at' hJ hs
    refine j81 hb hn (by omega) (by omega) hJ hs (fun z => JS a h L σ μ 0 at' hJ (BS_le (by decide) hs) (by decide) (Or.inr z)) (fun h L σ' μ' j e => JS a (h + 1) L σ' μ' 1 at' j (BS_up rfl (by omega)) (by decide) (Or.inl (by decide))) (fun ha σ' μ' j e => ?_)
    obtain ⟨t', rfl⟩ : ∃ t', t = t' + 1 := ⟨t - 1, by omega⟩
    exact GX_im (fun b τ g f hf => g f (by omega)) ((prev t' rfl).2 (a + 1) (h + 1) L σ' μ' (by omega) j (BS_up e (by decide)))
  have JB : ∀ (a h L : Nat) (σ μ : xM), a + t = 7 → JW tx n a h 0 L σ μ → BS 21 h μ → GX X tx n 0 a h L 21 (fun τ ν => sgc ν < 21 ∨ SK X τ ν) σ σ μ (fun b τ => ∀ f, 8 + 6 * t + 4 ≤ f → Ev X f 80 0 [some (vr 10), some (vi a), none, none] [] SH σ = some (some (vi b), SH, τ)) := by
    intro a h L σ μ at' hJ hs
    exact j80 hb hn (by omega) (by omega) hJ hs (JO a h L σ μ at' hJ (BS_le (by decide) hs)) (fun h L σ' μ' j e => JO a (h + 1) L σ' μ' at' j (BS_up e (by decide)))
  refine ⟨fun a h L σ μ at' hJ hs => ?_, JO⟩
  exact j79 hb hn (by omega) (by omega) hJ hs (JB a h L σ μ at' hJ (BS_le (by decide) hs)) (fun h L σ' μ' j e => JB a (h + 1) L σ' μ' at' j (BS_up e (by decide)))
theorem PJ_all (hb : ∀ i, 0 ≤ tx i ∧ tx i ≤ 255) (hn : n ≤ 200) : ∀ t, PJ X tx n t
  | 0 => PJ_st hb hn (fun t' e => absurd e (by omega))
  | t + 1 => PJ_st hb hn (fun t' e => by
      have : t' = t := by omega
      subst this
      exact PJ_all hb hn t')
end WRO

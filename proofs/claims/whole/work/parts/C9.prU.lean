/-! PAIRS: steps, step -/
section PRU
variable {X : Nat × (Nat → Int)} {σ μ τ : xM} {n : Nat}
theorem tru_0 {cs : Nat → Int} : truV cs 0 ≠ 1 := by
  intro h
  have := (tru_ok h).2.1
  change r0 0 = 1 at this
  exact absurd this (by decide)
/-- canHavePath -/
theorem s29 (h : Core σ) : ∃ (b : Int) (τ : xM), (∀ d, Ev X (d + 9) 29 0 [some (vr 0)] [] SH σ = some (some (vi b), SH, τ)) ∧ chg [] [] σ τ ∧ ((b = 1 ∧ canP σ) ∨ (b = 0 ∧ ¬ canP σ)) := by
  obtain ⟨n16, n11⟩ := nM_16 h
  obtain ⟨r1, r2, r3, r4⟩ := h.2.2.2.1
  obtain ⟨g1, g2, g3, g4⟩ := h.2.2.2.2.1
  by_cases lk : σ 23 0 = σ 26 0 ∧ ∀ c : Nat, (c : Int) < σ 23 0 → σ 24 c = σ 27 c
  · have e142 := fun d => s142t (X := X) (d := d) (σ := σ) (k := 23) (k1 := 26) (Or.inl rfl) (by unfold isRow; omega) r1 r2 lk.1 lk.2
    have ro : rowOk σ 23 (nM σ) := ⟨by omega, n11, fun c hc => by
      have := r4 c (by omega)
      exact ⟨this.2.1, this.2.2.2.1, this.2.2.2.2.1⟩⟩
    have ro2 : rowOk σ 26 (nM σ) := ⟨by omega, n11, fun c hc => by
      have := g4 c (by omega)
      exact ⟨this.2.1, this.2.2.2.1, this.2.2.2.2.1⟩⟩
    obtain ⟨τ1, a1, a2⟩ := s17 (X := X) (σ := σ) (k1 := 23) (n := nM σ) (Or.inl rfl) h.2.1 h.2.2.2.2.2.2.2.2.1 ro
    rw [truV_cs (cs' := chM σ 110) (fun c hc => by
      have := r4 c (by omega)
      unfold rwC chM
      rw [this.1, this.2.2.1])] at a1
    by_cases t : truV (chM σ 110) (nM σ) = 1
    · have C1 : Core τ1 := Core_chg h a2 (Or.inl rfl) (Or.inl rfl) (Or.inl rfl) (Or.inl rfl) (Or.inl rfl) (Or.inl rfl) (Or.inl rfl) (Or.inl rfl) (Or.inl rfl) (Or.inl rfl)
      have ro2' : rowOk τ1 26 (nM σ) := by
        unfold rowOk
        rw [show τ1 26 = σ 26 from chg_row a2 (fun _ => rfl) rfl, show τ1 (26 + 1) = σ (26 + 1) from chg_row a2 (fun _ => rfl) rfl, show τ1 (26 + 2) = σ (26 + 2) from chg_row a2 (fun _ => rfl) rfl]
        exact ro2
      obtain ⟨τ2, b1, b2⟩ := s17 (X := X) (σ := τ1) (k1 := 26) (n := nM σ) (by unfold isRow; omega) C1.2.1 C1.2.2.2.2.2.2.2.2.1 ro2'
      rw [truV_cs (cs' := chM σ 111) (fun c hc => by
        have q := g4 c (by omega)
        have q' := r4 c (by omega)
        have l := lk.2 c (by omega)
        unfold rwC chM
        rw [show τ1 102 = σ 102 from chg_row a2 (fun _ => rfl) rfl, show τ1 (26 + 1) = σ 27 from chg_row a2 (fun _ => rfl) rfl, show τ1 (26 + 2) = σ 28 from chg_row a2 (fun _ => rfl) rfl, q'.1, l, q.2.2.1])] at b1
      have go : ∀ d, Ev X (d + 9) 29 0 [some (vr 0)] [] SH σ = Ev X (d + 9) 29 34 [some (vr 0)] [vi (truV (chM σ 111) (nM σ))] SH τ2 := by
        intro d
        refine Eq.trans b29_0 ?_
        refine x_bind (e142 _) ?_
        dsimp only
        refine Eq.trans b29_11 ?_
        rw [if_neg (by decide)]
        refine Eq.trans b29_14 ?_
        refine x_bind (a1 d) ?_
        rw [t]
        dsimp only
        refine Eq.trans b29_22 ?_
        rw [if_neg (by decide)]
        refine Eq.trans b29_26 ?_
        refine x_bind (b1 d) ?_
        rfl
      by_cases t2 : truV (chM σ 111) (nM σ) = 1
      · refine ⟨1, τ2, fun d => ?_, chg_tr a2 b2, Or.inl ⟨rfl, ⟨?_, ?_, fun c hc => ?_⟩, t, t2⟩⟩
        · rw [go, t2, b29_34, if_neg (by decide), b29_38, b29_43 (Or.inr rfl)]
        · have : nM σ ≠ 0 := fun z => by
            rw [z] at t
            exact tru_0 t
          omega
        · omega
        · have q := g4 c (by omega)
          have q' := r4 c (by omega)
          rw [q.1, q'.1]
          exact lk.2 c (by omega)
      · refine ⟨0, τ2, fun d => ?_, chg_tr a2 b2, Or.inr ⟨rfl, fun z => t2 z.2.2⟩⟩
        rw [go, b29_34, if_pos t2, b29_42, b29_43 (Or.inl rfl)]
    · refine ⟨0, τ1, fun d => ?_, a2, Or.inr ⟨rfl, fun z => t z.2.1⟩⟩
      refine Eq.trans b29_0 ?_
      refine x_bind (e142 _) ?_
      dsimp only
      refine Eq.trans b29_11 ?_
      rw [if_neg (by decide)]
      refine Eq.trans b29_14 ?_
      refine x_bind (a1 d) ?_
      dsimp only
      refine Eq.trans b29_22 ?_
      rw [if_pos t, b29_42, b29_43 (Or.inl rfl)]
  · have e142 := fun d => s142f (X := X) (d := d) (σ := σ) (k := 23) (k1 := 26) (Or.inl rfl) (by unfold isRow; omega) r1 r2 (by
      by_cases y : σ 23 0 = σ 26 0
      · refine Or.inr (Classical.byContradiction (fun z => lk ⟨y, fun c hc => Classical.byContradiction (fun w => z ⟨c, hc, w⟩)⟩))
      · exact Or.inl y)
    refine ⟨0, σ, fun d => ?_, chg_rf, Or.inr ⟨rfl, fun z => lk ⟨?_, fun c hc => ?_⟩⟩⟩
    · refine Eq.trans b29_0 ?_
      refine x_bind (e142 _) ?_
      dsimp only
      refine Eq.trans b29_11 ?_
      rw [if_pos rfl, b29_42, b29_43 (Or.inl rfl)]
    · have := z.1.2.1
      omega
    · have k2 := z.1.2.1
      have q := g4 c (by omega)
      have q' := r4 c hc
      rw [← q.1, ← q'.1]
      exact z.1.2.2 c (by omega)
theorem canP_chg {CA : List Nat} {CS : List (Nat × Nat)} (c : chg CA CS σ τ) (o : okc CA CS [102, 107, 108, 110, 111] [(100, 16), (100, 17)] = true) (h : canP σ) : canP τ := by
  have e := eqp_ok o c
  have en : nM τ = nM σ := by unfold nM; rw [eqp_sl e (k := 100) (j := 16) rfl]
  unfold canP lkM chM at h ⊢
  rw [en, eqp_row e (k := 102) rfl, eqp_row e (k := 107) rfl, eqp_row e (k := 108) rfl, eqp_row e (k := 110) rfl, eqp_row e (k := 111) rfl, eqp_sl e (k := 100) (j := 16) rfl, eqp_sl e (k := 100) (j := 17) rfl]
  exact h
theorem PostN_rf (h : Core σ) (hN : CacheN σ) : PostN σ σ := ⟨h, hN, Or.inl (fun _ _ _ => rfl)⟩
theorem PostN_q (h : Core σ) (hN : CacheN σ) (c : chg [113, 114, 115] [] σ τ) : PostN σ τ := ⟨Core_chg h c (Or.inl rfl) (Or.inl rfl) (Or.inl rfl) (Or.inl rfl) (Or.inl rfl) (Or.inl rfl) (Or.inl rfl) (Or.inl rfl) (Or.inl rfl) (Or.inl rfl), CacheN_eqp (eqp_ok rfl c) hN, Or.inl (eqp_ok rfl c)⟩
/-- the class finds its path -/
theorem cls_P (h : Core σ) (hN : CacheN σ) (hc : canP σ) : ∃ τ x0 xa, (∀ d, Ev X (d + 22) 103 0 [some (vr 70), some (vr 23), some (vr 26), none, none, none, none, none] [] SH σ = some (none, SH, τ)) ∧ chg CAp CSp σ τ ∧ Core τ ∧ CacheN τ ∧ canP τ ∧ RWX τ 110 x0 ∧ RWX τ 111 xa ∧ RLC τ (SS τ x0 xa) ∧ τ 70 7 = mvS (SS τ x0 xa) := by
  obtain ⟨τ, a1, a2, ⟨x0, xa, X0, XA, b1, b2⟩, a4⟩ := s103 (X := X) h hN hc.1 (tru_ok hc.2.1) (tru_ok hc.2.2)
  exact ⟨τ, x0, xa, a1, a2, Core_chg h a2 (Or.inl rfl) (Or.inl rfl) (Or.inl rfl) (Or.inl rfl) (Or.inl rfl) (Or.inl rfl) (Or.inl rfl) (Or.inl rfl) (Or.inl rfl) (Or.inl rfl), a4, canP_chg a2 rfl hc, X0, XA, b1, b2⟩
theorem pr_steps (h : Core σ) (hN : CacheN σ) : Pair X 28 263 [some (vr 0)] [some (vr 100), none] σ (PostN σ) := by
  obtain ⟨b, τ1, a1, a2, a3⟩ := s29 (X := X) h
  have C1 : Core τ1 := Core_chg h a2 (Or.inl rfl) (Or.inl rfl) (Or.inl rfl) (Or.inl rfl) (Or.inl rfl) (Or.inl rfl) (Or.inl rfl) (Or.inl rfl) (Or.inl rfl) (Or.inl rfl)
  have N1 : CacheN τ1 := CacheN_eqp (eqp_ok rfl a2) hN
  rcases a3 with ⟨rfl, hc⟩ | ⟨rfl, hc⟩
  · have hc1 := canP_chg a2 rfl hc
    obtain ⟨τ2, x0, xa, b1, b2, C2, N2, hc2, X0, XA, bR, b7⟩ := cls_P (X := X) C1 N1 hc1
    obtain ⟨τ3, d1, d2, C3, dR⟩ := mod_P (X := X) C2 hc2 X0 XA
    refine ⟨mvS (SS τ2 x0 xa), τ2, τ3, fun d => ?_, fun d => ?_, C3, CacheN_eqp (eqp_ok rfl d2) N2, Or.inl ?_⟩
    · refine Eq.trans b28_0 ?_
      refine x_bind (a1 (d + 90)) ?_
      dsimp only
      refine Eq.trans b28_4 ?_
      rw [if_pos (by decide)]
      refine Eq.trans b28_9 ?_
      refine x_bind (b1 (d + 77)) ?_
      dsimp only
      refine Eq.trans b28_24 ?_
      rw [b7]
    · refine Eq.trans b263_0 ?_
      refine x_bind (d1 (d + 92)) ?_
      dsimp only
      by_cases y : (SS τ2 x0 xa).2 = true
      · rw [if_pos y]
        refine Eq.trans b263_4 ?_
        rw [if_neg (by decide)]
        refine Eq.trans b263_9 ?_
        refine x_bind (s268 (dR y) (SS_W X0) y _) ?_
        dsimp only
        refine Eq.trans b263_13 ?_
        rw [b263_17]
        unfold mvS
        rw [if_pos y]
      · rw [if_neg y]
        refine Eq.trans b263_4 ?_
        rw [if_pos, b263_16, b263_17]
        unfold mvS
        rw [if_neg y]
        split <;> decide
    · intro k j hk
      rw [eqp_ok (A := [49, 50, 66, 67, 68, 69, 102, 107, 110, 118, 119, 132, 133, 134, 135, 136]) (S := [(100, 16), (100, 35), (100, 59)]) rfl d2 k j hk, eqp_ok (A := [49, 50, 66, 67, 68, 69, 102, 107, 110, 118, 119, 132, 133, 134, 135, 136]) (S := [(100, 16), (100, 35), (100, 59)]) rfl b2 k j hk, eqp_ok (A := [49, 50, 66, 67, 68, 69, 102, 107, 110, 118, 119, 132, 133, 134, 135, 136]) (S := [(100, 16), (100, 35), (100, 59)]) rfl a2 k j hk]
  · have hc1 : ¬ canP τ1 := fun z => hc (canP_chg (CA := []) (CS := []) (fun k j p q => (a2 k j p q).symm) rfl z)
    obtain ⟨τ2, b1, b2⟩ := mod_Pn (X := X) C1 hc1
    obtain ⟨c1, c2, c3⟩ := PostN_q C1 N1 b2
    refine ⟨-1, τ1, τ2, fun d => ?_, fun d => ?_, c1, c2, Or.inl ?_⟩
    · refine Eq.trans b28_0 ?_
      refine x_bind (a1 (d + 90)) ?_
      dsimp only
      refine Eq.trans b28_4 ?_
      rw [if_neg (by decide), b28_7]
    · refine Eq.trans b263_0 ?_
      refine x_bind (b1 (d + 92)) ?_
      dsimp only
      refine Eq.trans b263_4 ?_
      rw [if_pos (by decide), b263_16, b263_17]
    · intro k j hk
      rw [eqp_ok (A := [49, 50, 66, 67, 68, 69, 102, 107, 110, 118, 119, 132, 133, 134, 135, 136]) (S := [(100, 16), (100, 35), (100, 59)]) rfl b2 k j hk, eqp_ok (A := [49, 50, 66, 67, 68, 69, 102, 107, 110, 118, 119, 132, 133, 134, 135, 136]) (S := [(100, 16), (100, 35), (100, 59)]) rfl a2 k j hk]
theorem s22b {x : Nat} {c : Int} (h : f136 σ 23 c = 0) : ∀ d, Ev X (d + 6) 22 0 [some (vr 0), some (vl (x : Int)), none, some (vi c)] [] SH σ = some (some (vi (-1)), SH, σ) := by
  intro d
  rw [b22_0, if_neg (by unfold lcmp'; rw [if_neg (by omega)]; split <;> omega)]
  refine Eq.trans b22_6 ?_
  refine x_bind (s136 (Or.inl rfl)) ?_
  rw [h]
  dsimp only
  refine Eq.trans b22_14 ?_
  rw [if_neg (by decide), b22_17]
theorem f220_1 {c : Int} (h : f220 σ c ≠ 0) : f220 σ c = 1 ∧ 0 ≤ c ∧ c < σ 100 16 := by
  unfold f220 at h ⊢
  repeat' split at h
  all_goals first | exact absurd rfl h | skip
  rename_i y z
  rw [if_neg y, if_neg z]
  exact ⟨rfl, by omega, by omega⟩
theorem pr_step {a c : Int} (h : Core σ) (hN : CacheN σ) (ha : a < 2147483648) : Pair X 30 269 [some (vr 0), some (vi a), some (vi c)] [some (vr 100), some (vi a), some (vi c), none, none, none] σ (PostN σ) := by
  by_cases neg : a < 0
  · refine ⟨-1, σ, σ, fun d => ?_, fun d => ?_, PostN_rf h hN⟩
    · rw [b30_0, if_pos neg, b30_11]
    · rw [b269_0, if_pos neg, b269_19]
  obtain ⟨sm, rfl⟩ : ∃ sm : Nat, a = sm := ⟨a.toNat, by omega⟩
  obtain ⟨b, τ1, a1, a2, a3⟩ := s29 (X := X) h
  have C1 : Core τ1 := Core_chg h a2 (Or.inl rfl) (Or.inl rfl) (Or.inl rfl) (Or.inl rfl) (Or.inl rfl) (Or.inl rfl) (Or.inl rfl) (Or.inl rfl) (Or.inl rfl) (Or.inl rfl)
  have N1 : CacheN τ1 := CacheN_eqp (eqp_ok rfl a2) hN
  rcases a3 with ⟨rfl, hc⟩ | ⟨rfl, hc⟩
  · have hc1 := canP_chg a2 rfl hc
    obtain ⟨τ2, x0, xa, b1, b2, C2, N2, hc2, X0, XA, bR, b7⟩ := cls_P (X := X) C1 N1 hc1
    have eL : eqp PL σ τ2 := by
      intro k j hk
      rw [eqp_ok (A := [49, 50, 66, 67, 68, 69, 102, 107, 110, 118, 119, 132, 133, 134, 135, 136]) (S := [(100, 16), (100, 35), (100, 59)]) rfl b2 k j hk, eqp_ok (A := [49, 50, 66, 67, 68, 69, 102, 107, 110, 118, 119, 132, 133, 134, 135, 136]) (S := [(100, 16), (100, 35), (100, 59)]) rfl a2 k j hk]
    have WS := SS_W (xa := xa) X0
    have st : ∀ d, Ev X (d + 100) 30 0 [some (vr 0), some (vi sm), some (vi c)] [] SH σ = Ev X (d + 100) 30 28 [some (vr 0), some (vi sm), some (vi c)] [] SH τ2 := by
      intro d
      rw [b30_0, if_neg neg]
      refine Eq.trans b30_4 ?_
      refine x_bind (a1 (d + 90)) ?_
      dsimp only
      refine Eq.trans b30_8 ?_
      rw [if_pos (by decide)]
      refine Eq.trans b30_13 ?_
      refine x_bind (b1 (d + 77)) ?_
      rfl
    by_cases cell : f220 τ2 c = 0
    · refine ⟨-1, τ2, τ2, fun d => ?_, fun d => ?_, C2, N2, Or.inl eL⟩
      · rw [st, b30_28]
        by_cases y : (sm : Int) ≤ τ2 70 7
        · rw [if_pos y]
          have s2 : (SS τ2 x0 xa).2 = true := by
            refine Classical.byContradiction (fun z => ?_)
            rw [b7] at y
            unfold mvS at y
            rw [if_neg z] at y
            split at y <;> omega
          have m7 : τ2 70 7 = ((dpF (ogN (SS τ2 x0 xa)) 151 ((SS τ2 x0 xa).1.length - 1) : Nat) : Int) := by
            rw [b7]
            unfold mvS
            rw [if_pos s2]
          obtain ⟨hh, g⟩ := s107 (X := X) (sm := sm) bR WS m7 (by omega)
          refine Eq.trans b30_43 ?_
          refine x_bind (g _) ?_
          dsimp only
          refine Eq.trans b30_52 ?_
          refine x_bind (s22b (by rw [f136_e C2]; exact cell) (d + 93)) ?_
          exact b30_56
        · rw [if_neg y, b30_39, b30_56]
      · rw [b269_0, if_neg neg]
        refine Eq.trans b269_4 ?_
        refine x_bind s220 ?_
        rw [cell]
        dsimp only
        refine Eq.trans b269_9 ?_
        rw [if_pos rfl, b269_19]
    · obtain ⟨f1, c0, c1⟩ := f220_1 cell
      obtain ⟨q, rfl⟩ : ∃ q : Nat, c = q := ⟨c.toNat, by omega⟩
      have n16 := nM_16 C2
      obtain ⟨τ3, d1, d2, C3, dR⟩ := mod_P (X := X) C2 hc2 X0 XA
      have P3 : PostN σ τ3 := by
        refine ⟨C3, CacheN_eqp (eqp_ok rfl d2) N2, Or.inl (fun k j hk => ?_)⟩
        rw [eqp_ok (A := [49, 50, 66, 67, 68, 69, 102, 107, 110, 118, 119, 132, 133, 134, 135, 136]) (S := [(100, 16), (100, 35), (100, 59)]) rfl d2 k j hk]
        exact eL k j hk
      have sm2 : ∀ d, Ev X (d + 100) 269 0 [some (vr 100), some (vi sm), some (vi q), none, none, none] [] SH τ2 = Ev X (d + 100) 269 16 [some (vr 100), some (vi sm), some (vi q), none, none, none] [vi (if (SS τ2 x0 xa).2 = true then 0 else mvS (SS τ2 x0 xa))] SH τ3 := by
        intro d
        rw [b269_0, if_neg neg]
        refine Eq.trans b269_4 ?_
        refine x_bind s220 ?_
        rw [f1]
        dsimp only
        refine Eq.trans b269_9 ?_
        rw [if_neg (by decide)]
        refine Eq.trans b269_12 ?_
        refine x_bind (d1 (d + 92)) ?_
        rfl
      by_cases s2 : (SS τ2 x0 xa).2 = true
      · have m7 : τ2 70 7 = ((dpF (ogN (SS τ2 x0 xa)) 151 ((SS τ2 x0 xa).1.length - 1) : Nat) : Int) := by
          rw [b7]
          unfold mvS
          rw [if_pos s2]
        have ml := dpF_le (og_lt WS) 151 ((SS τ2 x0 xa).1.length - 1) (by have := WS.2.1; omega)
        have wl := WS.2.1
        have sm3 : ∀ d, Ev X (d + 100) 269 0 [some (vr 100), some (vi sm), some (vi q), none, none, none] [] SH τ2 = Ev X (d + 100) 269 25 [some (vr 100), some (vi sm), some (vi q), none, none, none] [vi ((dpF (ogN (SS τ2 x0 xa)) 151 ((SS τ2 x0 xa).1.length - 1) : Nat) : Int)] SH τ3 := by
          intro d
          rw [sm2, if_pos s2, b269_16, if_pos rfl]
          refine Eq.trans b269_21 ?_
          refine x_bind (s268 (dR s2) WS s2 _) ?_
          rfl
        generalize hM : dpF (ogN (SS τ2 x0 xa)) 151 ((SS τ2 x0 xa).1.length - 1) = M at m7 ml sm3
        by_cases y : sm ≤ M
        · have g0 := s107 (X := X) (sm := sm) bR WS (by rw [hM]; exact m7) (by omega)
          rw [hM] at g0
          obtain ⟨hh, g⟩ := g0
          obtain ⟨hh2, g2⟩ := s269l (X := X) (fg := τ2 107) (w := τ2 102) (c := q) (s := M - sm) (dR s2) WS (by omega) n16.2 (chg_row d2 (fun _ => rfl) rfl) (chg_row d2 (fun _ => rfl) rfl) (fg_01 C2 q (by omega)) (by omega) s2
          have cx := WS.2.2.2.2 _ (List.getElem_mem hh2)
          have cr := s22y (X := X) (σ := τ2) (c := q) (p := dig ((SS τ2 x0 xa).1[itO (ogN (SS τ2 x0 xa)) (M - sm) ((SS τ2 x0 xa).1.length - 1)]'hh2).1) C2 (by omega) (by omega) cx.2
          rw [cd_dig _ cx.1] at cr
          refine ⟨rdB (τ2 102) (τ2 107 q) (BW (τ2 102) (τ2 107) q (dig ((SS τ2 x0 xa).1[itO (ogN (SS τ2 x0 xa)) (M - sm) ((SS τ2 x0 xa).1.length - 1)]'hh2).1 q)), τ2, τ3, fun d => ?_, fun d => ?_, P3⟩
          rotate_left
          · rw [sm3, b269_25, if_pos (by rw [xsub_eq (by omega) (by omega)]; omega), xsub_eq (by omega) (by omega), show ((M : Nat) : Int) - ((sm : Nat) : Int) = ((M - sm : Nat) : Int) by omega]
            exact g2 (d + 98) _ _ _
          · rw [st, b30_28, if_pos (by rw [m7]; omega)]
            refine Eq.trans b30_43 ?_
            refine x_bind (g _) ?_
            dsimp only
            refine Eq.trans b30_52 ?_
            refine x_bind (cr (d + 93)) ?_
            exact b30_56
        · refine ⟨-1, τ2, τ3, fun d => ?_, fun d => ?_, P3⟩
          · rw [st, b30_28, if_neg (by rw [m7]; omega), b30_39, b30_56]
          · rw [sm3, b269_25, if_neg (by rw [xsub_eq (by omega) (by omega)]; omega), b269_32]
      · have mn : mvS (SS τ2 x0 xa) < 0 := by
          unfold mvS
          rw [if_neg s2]
          split <;> decide
        refine ⟨-1, τ2, τ3, fun d => ?_, fun d => ?_, P3⟩
        · rw [st, b30_28, if_neg (by rw [b7]; omega), b30_39, b30_56]
        · rw [sm2, if_neg s2, b269_16, if_neg (by omega), b269_19]
  · have hc1 : ¬ canP τ1 := fun z => hc (canP_chg (CA := []) (CS := []) (fun k j p q => (a2 k j p q).symm) rfl z)
    have st : ∀ d, Ev X (d + 100) 30 0 [some (vr 0), some (vi sm), some (vi c)] [] SH σ = some (some (vi (-1)), SH, τ1) := by
      intro d
      rw [b30_0, if_neg neg]
      refine Eq.trans b30_4 ?_
      refine x_bind (a1 (d + 90)) ?_
      dsimp only
      refine Eq.trans b30_8 ?_
      rw [if_neg (by decide), b30_11]
    by_cases cell : f220 τ1 c = 0
    · refine ⟨-1, τ1, τ1, st, fun d => ?_, C1, N1, Or.inl (eqp_ok rfl a2)⟩
      rw [b269_0, if_neg neg]
      refine Eq.trans b269_4 ?_
      refine x_bind s220 ?_
      rw [cell]
      dsimp only
      refine Eq.trans b269_9 ?_
      rw [if_pos rfl, b269_19]
    · obtain ⟨τ2, b1, b2⟩ := mod_Pn (X := X) C1 hc1
      obtain ⟨c1, c2, c3⟩ := PostN_q C1 N1 b2
      refine ⟨-1, τ1, τ2, st, fun d => ?_, c1, c2, Or.inl (fun k j hk => ?_)⟩
      · rw [b269_0, if_neg neg]
        refine Eq.trans b269_4 ?_
        refine x_bind s220 ?_
        rw [(f220_1 cell).1]
        dsimp only
        refine Eq.trans b269_9 ?_
        rw [if_neg (by decide)]
        refine Eq.trans b269_12 ?_
        refine x_bind (b1 (d + 92)) ?_
        dsimp only
        refine Eq.trans b269_16 ?_
        rw [if_neg (by decide), b269_19]
      · rw [eqp_ok (A := [49, 50, 66, 67, 68, 69, 102, 107, 110, 118, 119, 132, 133, 134, 135, 136]) (S := [(100, 16), (100, 35), (100, 59)]) rfl b2 k j hk, eqp_ok (A := [49, 50, 66, 67, 68, 69, 102, 107, 110, 118, 119, 132, 133, 134, 135, 136]) (S := [(100, 16), (100, 35), (100, 59)]) rfl a2 k j hk]
end PRU

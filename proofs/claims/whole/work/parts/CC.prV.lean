/-! PAIR: puzzle -/
section PRV
variable {X : Nat × (Nat → Int)} {σ μ τ : xM} {k : Nat}
theorem mod_Z {x0 c : Nat} (h : Core σ) (hn : 0 < σ 100 16) (hk : k = 1 ∨ k = 2) (X0 : RWX σ 110 x0) (t : truV (chM σ 110) (nM σ) = 1) (hc : c < nM σ) : ∃ τ, (∀ d, Ev X (d + 8) 270 0 [some (vr 100), some (vi k), some (vi c), none, none, none, none, none] [] SH σ = some (some (vi (pzR (σ 102) (σ 107) c (((nbC (σ 102) (nM σ) (σ 107) 2 k x0).take 200).find? (pzB (σ 102) (nM σ) (σ 107) k)))), SH, τ)) ∧ chg [113, 114, 115, 122, 123, 124, 125, 126, 127, 128, 131] [(100, 47), (100, 48), (100, 49), (100, 51)] σ τ ∧ Core τ := by
  obtain ⟨n16, n11⟩ := nM_16 h
  have hf := fg_01 h
  obtain ⟨τ1, a1, a2⟩ := s249 (X := X) (μ := σ) (n := nM σ) (k1 := 110) rfl (by decide) n16 n11 hf
  have C1 : Core τ1 := Core_chg h a2 (Or.inl rfl) (Or.inl rfl) (Or.inl rfl) (Or.inl rfl) (Or.inl rfl) (Or.inl rfl) (Or.inl rfl) (Or.inl rfl) (Or.inl rfl) (Or.inl rfl)
  obtain ⟨μ1, z, d1, d2, d3, d4⟩ := ofr_x (X := X) C1 (by rw [chg_at a2 rfl rfl]; exact hn)
  have en : nM τ1 = nM σ := by unfold nM; rw [chg_at a2 rfl rfl]
  rw [en, show τ1 102 = σ 102 from chg_row a2 (fun _ => rfl) rfl, show τ1 107 = σ 107 from chg_row a2 (fun _ => rfl) rfl] at d4
  obtain ⟨μ2, e1, e2, e3⟩ := s244 (X := X) (μ := μ1) (k1 := 110) rfl (by decide) d4.1.2.2 n11
  have M2 := MBS_chg d4 (chs_g e2) rfl
  have r110 : μ1 110 = σ 110 := (chg_row d2 (fun _ => rfl) rfl).trans (chg_row a2 (fun _ => rfl) rfl)
  obtain ⟨μ3, b1, b2, b3, b4⟩ := bgn_x (X := X) (k := k) (x := x0) M2 X0.1 (fun q hq => by
    rw [e3 q hq, r110]
    exact (X0.2 q hq).symm)
  have M3 := MBS_chg M2 b2 rfl
  obtain ⟨μ4, f1, f2, f3⟩ := it270a (X := X) (a2 := (c : Int)) _ [] μ3 b3 b4 (fun j hj => absurd hj (by simp)) (by simp)
  rw [List.nil_append, nb_eq (so := 2) (v := 0) (Or.inr ⟨rfl, rfl⟩)] at f2 f3
  have M4 := MBS_chg M3 f1 rfl
  change RLZ (σ 102) (σ 107) (nM σ) μ4 ((nbC (σ 102) (nM σ) (σ 107) 2 k x0).take 200) at f2
  obtain ⟨τ, p1, p2⟩ := it270o (X := X) (k := k) (L := (nbC (σ 102) (nM σ) (σ 107) 2 k x0).take 200) (c := c) (by rw [List.length_take]; omega) (fun y hy => nbC_CD y (List.mem_of_mem_take hy)) hc _ 0 μ4 (Nat.zero_add _) M4 f2
  have cT : chg [113, 114, 115, 122, 123, 124, 125, 126, 127, 128, 131] [(100, 47), (100, 48), (100, 49), (100, 51)] σ τ := chg_tr (chg_mo (by decide) a2) (chg_tr (chg_mo (by decide) d2) (chg_tr (chg_mo (by decide) (chs_g e2)) (chg_tr (chg_mo (by decide) b2) (chg_tr (chg_mo (by decide) f1) (chg_mo (by decide) p1)))))
  refine ⟨τ, fun d => ?_, cT, Core_chg h cT (Or.inl rfl) (Or.inl rfl) (Or.inl rfl) (Or.inl rfl) (Or.inl rfl) (Or.inl rfl) (Or.inl rfl) (Or.inl rfl) (Or.inl rfl) (Or.inr ⟨by
    rw [chg_at p1 rfl rfl, chg_at f1 rfl rfl, chg_at b2 rfl rfl, e2 100 51 rfl]
    exact d3, fun g hg => by
    rw [show τ 104 = σ 104 from chg_row cT (fun _ => rfl) rfl]
    exact h.2.2.2.2.2.2.2.2.2.2 g hg⟩)⟩
  have fc : f220 σ (c : Int) = 1 := by
    unfold f220
    rw [if_neg (by omega), if_neg (by omega)]
  rw [b270_0, if_neg (by omega), b270_5, if_neg (by omega)]
  refine Eq.trans b270_10 ?_
  refine x_bind s220 ?_
  rw [fc]
  dsimp only
  refine Eq.trans b270_15 ?_
  rw [if_neg (by decide)]
  refine Eq.trans b270_18 ?_
  refine x_bind (a1 (d + 4)) ?_
  rw [t]
  dsimp only
  refine Eq.trans b270_26 ?_
  rw [if_pos (by decide)]
  refine Eq.trans b270_31 ?_
  refine x_bind (d1 (d + 5)) ?_
  dsimp only
  refine Eq.trans (b270_40 (t0 := z)) ?_
  refine x_bind (e1 _) ?_
  dsimp only
  refine Eq.trans b270_49 ?_
  refine x_bind (b1 _) ?_
  dsimp only
  refine Eq.trans b270_55 ?_
  obtain ⟨o4, o6, e⟩ := f3 (d + 3) (some (vl z)) (xkill none) none none
  refine Eq.trans e ?_
  rw [b270_138]
  have := p2 (d + 2) (some (vl z)) o4 none
  rw [List.drop_zero] at this
  exact this
theorem pr_puzzle {a c : Int} (h : Core σ) (hN : CacheN σ) : Pair X 31 270 [some (vr 0), some (vi a), some (vi c)] [some (vr 100), some (vi a), some (vi c), none, none, none, none, none] σ (PostN σ) := by
  by_cases bad : a < 1 ∨ 2 < a
  · refine ⟨-1, σ, σ, fun d => ?_, fun d => ?_, PostN_rf h hN⟩
    · rw [b31_0]
      by_cases y : a < 1
      · rw [if_pos y, b31_33]
      · rw [if_neg y, b31_5, if_pos (bad.resolve_left y), b31_33]
    · rw [b270_0]
      by_cases y : a < 1
      · rw [if_pos y, b270_29]
      · rw [if_neg y, b270_5, if_pos (bad.resolve_left y), b270_29]
  obtain ⟨k, rfl⟩ : ∃ k : Nat, a = k := ⟨a.toNat, by omega⟩
  have k1 : ¬ (k : Int) < 1 := fun z => bad (Or.inl z)
  have k2 : ¬ 2 < (k : Int) := fun z => bad (Or.inr z)
  have hk : k = 1 ∨ k = 2 := by omega
  by_cases cell : f220 σ c = 0
  · refine ⟨-1, σ, σ, fun d => ?_, fun d => ?_, PostN_rf h hN⟩
    · rw [b31_0, if_neg k1, b31_5, if_neg k2]
      refine Eq.trans b31_10 ?_
      refine x_bind (s136 (Or.inl rfl)) ?_
      rw [f136_e h, cell]
      dsimp only
      refine Eq.trans b31_18 ?_
      rw [if_pos rfl, b31_33]
    · rw [b270_0, if_neg k1, b270_5, if_neg k2]
      refine Eq.trans b270_10 ?_
      refine x_bind s220 ?_
      rw [cell]
      dsimp only
      refine Eq.trans b270_15 ?_
      rw [if_pos rfl, b270_29]
  obtain ⟨f1, c0, c1⟩ := f220_1 cell
  obtain ⟨q, rfl⟩ : ∃ q : Nat, c = q := ⟨c.toNat, by omega⟩
  obtain ⟨n16, n11⟩ := nM_16 h
  obtain ⟨r1, r2, r3, r4⟩ := h.2.2.2.1
  have ro : rowOk σ 23 (nM σ) := ⟨by omega, n11, fun c hc => by
    have := r4 c (by omega)
    exact ⟨this.2.1, this.2.2.2.1, this.2.2.2.2.1⟩⟩
  obtain ⟨τ1, a1, a2⟩ := s17 (X := X) (σ := σ) (k1 := 23) (n := nM σ) (Or.inl rfl) h.2.1 h.2.2.2.2.2.2.2.2.1 ro
  rw [truV_cs (cs' := chM σ 110) (fun c hc => by
    have := r4 c (by omega)
    unfold rwC chM
    rw [this.1, this.2.2.1])] at a1
  have C1 : Core τ1 := Core_chg h a2 (Or.inl rfl) (Or.inl rfl) (Or.inl rfl) (Or.inl rfl) (Or.inl rfl) (Or.inl rfl) (Or.inl rfl) (Or.inl rfl) (Or.inl rfl) (Or.inl rfl)
  have N1 : CacheN τ1 := CacheN_eqp (eqp_ok rfl a2) hN
  have e16 : τ1 100 16 = σ 100 16 := chg_at a2 rfl rfl
  have en : nM τ1 = nM σ := by unfold nM; rw [e16]
  have ec : chM τ1 110 = chM σ 110 := chM_chg a2 rfl (chg_row a2 (fun _ => rfl) rfl)
  have st : ∀ d, Ev X (d + 100) 31 0 [some (vr 0), some (vi k), some (vi q)] [] SH σ = Ev X (d + 100) 31 29 [some (vr 0), some (vi k), some (vi q)] [vi (truV (chM σ 110) (nM σ))] SH τ1 := by
    intro d
    rw [b31_0, if_neg k1, b31_5, if_neg k2]
    refine Eq.trans b31_10 ?_
    refine x_bind (s136 (Or.inl rfl)) ?_
    rw [f136_e h, f1]
    dsimp only
    refine Eq.trans b31_18 ?_
    rw [if_neg (by decide)]
    refine Eq.trans b31_21 ?_
    refine x_bind (a1 (d + 91)) ?_
    rfl
  by_cases t : truV (chM σ 110) (nM σ) = 1
  · have t1 : truV (chM τ1 110) (nM τ1) = 1 := by rw [ec, en]; exact t
    obtain ⟨τ2, x0, b1, b2, N2, X0, b10⟩ := s108 (X := X) (k := k) C1 N1 (by omega) hk (tru_ok t1)
    have C2 : Core τ2 := Core_chg C1 b2 (Or.inl rfl) (Or.inl rfl) (Or.inl rfl) (Or.inl rfl) (Or.inl rfl) (Or.inl rfl) (Or.inl rfl) (Or.inl rfl) (Or.inl rfl) (Or.inl rfl)
    have e16' : τ2 100 16 = τ1 100 16 := chg_at b2 rfl rfl
    have en2 : nM τ2 = nM τ1 := by unfold nM; rw [e16']
    have ec2 : chM τ2 110 = chM τ1 110 := chM_chg b2 rfl (chg_row b2 (fun _ => rfl) rfl)
    obtain ⟨τ3, d1, d2, C3⟩ := mod_Z (X := X) (k := k) (c := q) C2 (by omega) hk X0 (by rw [ec2, en2]; exact t1) (by omega)
    refine ⟨pzR (τ2 102) (τ2 107) q (((nbC (τ2 102) (nM τ2) (τ2 107) 2 k x0).take 200).find? (pzB (τ2 102) (nM τ2) (τ2 107) k)), τ2, τ3, fun d => ?_, fun d => d1 (d + 92), C3, CacheN_eqp (eqp_ok rfl d2) N2, Or.inl (fun k j hk => ?_)⟩
    · rw [st, t, b31_29, if_pos rfl]
      refine Eq.trans b31_35 ?_
      refine x_bind (b1 (d + 77)) ?_
      dsimp only
      refine Eq.trans b31_47 ?_
      rw [b10, pzF_e]
      generalize hL : (nbC (τ2 102) (nM τ2) (τ2 107) 2 k x0).take 200 = L
      cases hfd : L.find? (pzB (τ2 102) (nM τ2) (τ2 107) k) with
      | none =>
        refine x_bind (s22n (d + 93)) ?_
        exact b31_59
      | some y =>
        have ym := List.mem_of_find?_eq_some hfd
        rw [← hL] at ym
        have cy := nbC_CD y (List.mem_of_mem_take ym)
        have cr := s22y (X := X) (σ := τ2) (c := q) (p := dig y) C2 (by omega) (by omega) cy.2
        rw [cd_dig _ cy.1] at cr
        refine x_bind (cr (d + 93)) ?_
        exact b31_59
    · rw [eqp_ok (A := [49, 50, 66, 67, 68, 69, 102, 107, 110, 118, 119, 132, 133, 134, 135, 136]) (S := [(100, 16), (100, 35), (100, 59)]) rfl d2 k j hk, eqp_ok (A := [49, 50, 66, 67, 68, 69, 102, 107, 110, 118, 119, 132, 133, 134, 135, 136]) (S := [(100, 16), (100, 35), (100, 59)]) rfl b2 k j hk, eqp_ok (A := [49, 50, 66, 67, 68, 69, 102, 107, 110, 118, 119, 132, 133, 134, 135, 136]) (S := [(100, 16), (100, 35), (100, 59)]) rfl a2 k j hk]
  · obtain ⟨τ2, b1, b2⟩ := s249 (X := X) (μ := τ1) (n := nM τ1) (k1 := 110) rfl (by decide) (nM_16 C1).1 (nM_16 C1).2 (fg_01 C1)
    rw [ec, en] at b1
    obtain ⟨c1, c2, c3⟩ := PostN_q C1 N1 b2
    refine ⟨-1, τ1, τ2, fun d => ?_, fun d => ?_, c1, c2, Or.inl (fun k j hk => ?_)⟩
    · rw [st, b31_29, if_neg t, b31_33]
    · rw [b270_0, if_neg k1, b270_5, if_neg k2]
      refine Eq.trans b270_10 ?_
      refine x_bind s220 ?_
      rw [show f220 τ1 (q : Int) = 1 by
        rw [← f1]
        unfold f220
        rw [e16]]
      dsimp only
      refine Eq.trans b270_15 ?_
      rw [if_neg (by decide)]
      refine Eq.trans b270_18 ?_
      refine x_bind (b1 (d + 96)) ?_
      rw [show tV1 (truV (chM σ 110) (nM σ)) = 0 from if_neg t]
      dsimp only
      refine Eq.trans b270_26 ?_
      rw [if_neg (by decide), b270_29]
    · rw [eqp_ok (A := [49, 50, 66, 67, 68, 69, 102, 107, 110, 118, 119, 132, 133, 134, 135, 136]) (S := [(100, 16), (100, 35), (100, 59)]) rfl b2 k j hk, eqp_ok (A := [49, 50, 66, 67, 68, 69, 102, 107, 110, 118, 119, 132, 133, 134, 135, 136]) (S := [(100, 16), (100, 35), (100, 59)]) rfl a2 k j hk]
end PRV

/-! COULD: find in the class, allows in the model -/
section COF
variable {X : Nat × (Nat → Int)} {σ τ : xM}
/-- find, of what could be -/
theorem find_C {a fr : Int} (h : Core σ) (hL : CacheL σ) (hn : 0 < σ 100 16) (hfr : 0 ≤ fr ∧ fr < 2147483648) : ∃ τ, (∀ d, Ev X (d + 20) 95 0 [some (vr 49), some (vi 2), some (vi a), some (vi 0), some (vi fr)] [] SH σ = some (none, SH, τ)) ∧ chg CAf CSf σ τ ∧ Core τ ∧ CacheL τ ∧ τ 49 3 = 2 ∧ τ 49 4 = a ∧ τ 49 5 = 0 ∧ τ 50 16 = fr ∧ ((200000 < prW (σ 102) (nM σ) (σ 107) (FSn σ a) ∧ τ 49 6 = -2) ∨ (prW (σ 102) (nM σ) (σ 107) (FSn σ a) ≤ 200000 ∧ τ 49 6 = ((LG σ (FSn σ a) (-1)).length : Int) ∧ REs τ (LG σ (FSn σ a) (-1)))) := by
  obtain ⟨hw, hrow, hcd⟩ := WST_of h hn
  have hw' := hw
  obtain ⟨hW, hF, hn0, hn1, e23, _, _, hf, hb, _, e10, hwf, hlen, hR⟩ := hw'
  have fr' := frm_of hW hF
  have hS : Csee σ := h.2.2.2.2.2.2.1
  have q1 := fun c : Nat => s149 (X := X) (σ := σ) (k := a) (ly := 1) (c := c) hS
  have q0 := fun c : Nat => s149 (X := X) (σ := σ) (k := a) (ly := 0) (c := c) hS
  have hld : ∃ ld : Nat → Nat, ∀ c, ld c < 128 ∧ (∀ d, Ev X (d + 1) 149 0 [some (vr 41), some (vi a), some (vi c), some (vi 1), none, none] [] SH σ = some (some (vi (ld c : Int)), SH, σ)) ∧ ∀ p, (ld c).testBit p = true ↔ ∃ s : Nat, (s : Int) < σ 41 1 ∧ cnS σ a c 1 s ∧ σ 43 s = (p : Int) := ⟨fun c => (q1 c).choose, fun c => (q1 c).choose_spec⟩
  have hbr : ∃ br : Nat → Nat, ∀ c, br c < 128 ∧ (∀ d, Ev X (d + 1) 149 0 [some (vr 41), some (vi a), some (vi c), some (vi 0), none, none] [] SH σ = some (some (vi (br c : Int)), SH, σ)) ∧ ∀ p, (br c).testBit p = true ↔ ∃ s : Nat, (s : Int) < σ 41 1 ∧ cnS σ a c 0 s ∧ σ 43 s = (p : Int) := ⟨fun c => (q0 c).choose, fun c => (q0 c).choose_spec⟩
  obtain ⟨ld, hld⟩ := hld
  obtain ⟨br, hbr⟩ := hbr
  have seeC : ∀ τ : xM, (∀ q, q ≠ 49 → q ≠ 50 → ¬ (50 + 10 ≤ q ∧ q ≤ 50 + 14) → τ q = σ q) → Csee τ ∧ τ 41 = σ 41 ∧ τ 42 = σ 42 ∧ τ 43 = σ 43 ∧ τ 44 = σ 44 ∧ τ 45 = σ 45 ∧ τ 46 = σ 46 := by
    intro τ hτ
    have r : ∀ q, q ≠ 49 → q ≠ 50 → ¬ (60 ≤ q ∧ q ≤ 64) → τ q = σ q := fun q h1 h2 h3 => hτ q h1 h2 h3
    refine ⟨?_, r 41 (by decide) (by decide) (by decide), r 42 (by decide) (by decide) (by decide), r 43 (by decide) (by decide) (by decide), r 44 (by decide) (by decide) (by decide), r 45 (by decide) (by decide) (by decide), r 46 (by decide) (by decide) (by decide)⟩
    unfold Csee at hS ⊢
    rw [r 41 (by decide) (by decide) (by decide), r 42 (by decide) (by decide) (by decide), r 43 (by decide) (by decide) (by decide), r 44 (by decide) (by decide) (by decide), r 45 (by decide) (by decide) (by decide), r 46 (by decide) (by decide) (by decide), r 100 (by decide) (by decide) (by decide), r 132 (by decide) (by decide) (by decide), r 133 (by decide) (by decide) (by decide), r 134 (by decide) (by decide) (by decide), r 135 (by decide) (by decide) (by decide), r 136 (by decide) (by decide) (by decide), r 23 (by decide) (by decide) (by decide)]
    exact hS
  have same : ∀ (τ : xM) (c : Nat) (ly : Int) (M : Nat), (∀ q, q ≠ 49 → q ≠ 50 → ¬ (50 + 10 ≤ q ∧ q ≤ 50 + 14) → τ q = σ q) → (∀ p, M.testBit p = true ↔ ∃ s : Nat, (s : Int) < σ 41 1 ∧ cnS σ a c ly s ∧ σ 43 s = (p : Int)) → ∀ d, Ev X (d + 1) 149 0 [some (vr 41), some (vi a), some (vi c), some (vi ly), none, none] [] SH τ = some (some (vi (M : Int)), SH, τ) := by
    intro τ c ly M hτ hM d
    obtain ⟨cs, e1, e2, e3, e4, e5, e6⟩ := seeC τ hτ
    obtain ⟨M', m1, m2, m3⟩ := s149 (X := X) (σ := τ) (k := a) (ly := ly) (c := c) cs
    have : M' = M := Nat.eq_of_testBit_eq (fun p => by
      rw [Bool.eq_iff_iff, m3 p, hM p]
      unfold cnS f150
      rw [e1, e2, e3, e4, e5, e6])
    rw [← this]
    exact m2 d
  obtain ⟨τ, a1, a2, a3, a4, a5, a7, a8⟩ := s95g (X := X) (kd := 2) (a := a) (b := 0) (fr := fr) (ld := fun c => (ld c : Int)) (br := fun c => (br c : Int)) (F := fun c i => decide (xand (f71 σ (σ 24 c) (i : Int)) (ld c : Int) = (ld c : Int) ∧ xand (f71 σ (σ 24 c) (i : Int)) (br c : Int) = 0)) hw (Or.inr rfl) hfr (Or.inr ⟨rfl, fun c τ hc hτ d => ⟨same τ c 1 (ld c) hτ (hld c).2.2 d, same τ c 0 (br c) hτ (hbr c).2.2 d⟩⟩) (fun c i => rfl)
  rw [if_neg (by decide)] at a8
  obtain ⟨l1, l2⟩ := lsG_W (σ := σ) (n := nM σ) (len := (σ 100 35).toNat) (fg := σ 24) (fg' := σ 107) (cd := σ 11) (cd' := cdM σ) (on := -1) (F := fun c i => decide (xand (f71 σ (σ 24 c) (i : Int)) (ld c : Int) = (ld c : Int) ∧ xand (f71 σ (σ 24 c) (i : Int)) (br c : Int) = 0)) (F' := FSn σ a) hW hF hf (fun c hc => (hrow c hc).1) hcd (fun c hc i hi => by
    have rb := f71_rg fr' (σ 24 c) (i : Int)
    have eb : BW (σ 102) (σ 107) c i = f71 σ (σ 24 c) (i : Int) := by
      rw [← BW_f71 hF (hf c hc) hi]
      unfold BW
      rw [(hrow c hc).1]
    have m := msk_al (σ := σ) (k := a) (c := c) (V := (f71 σ (σ 24 c) (i : Int)).toNat) (ld := ld c) (br := br c) hS (by omega) (hld c).2.2 (hbr c).2.2
    rw [Int.toNat_of_nonneg rb.1] at m
    unfold FSn
    rw [eb, Bool.eq_iff_iff, decide_eq_true_iff, @decide_eq_true_iff _ (Classical.propDecidable _)]
    exact m)
  rw [l1, l2] at a8
  have c := frm_chg a2
  obtain ⟨_, g2, g3, g4, g5, g6, g7, _⟩ := LM_cg (t := 0) (l := 0) c rfl
  obtain ⟨eG, eP⟩ := LG_cg c rfl
  have eF : ∀ k, FSn τ k = FSn σ k := by
    intro k
    funext c' i
    unfold FSn alS
    rw [g3, g4, show τ 132 = σ 132 from chg_row c (fun _ => rfl) rfl, show τ 133 = σ 133 from chg_row c (fun _ => rfl) rfl, show τ 134 = σ 134 from chg_row c (fun _ => rfl) rfl, show τ 135 = σ 135 from chg_row c (fun _ => rfl) rfl, show τ 136 = σ 136 from chg_row c (fun _ => rfl) rfl, show τ 100 59 = σ 100 59 from chg_at c rfl rfl]
  have a9 : (200000 < prW (σ 102) (nM σ) (σ 107) (FSn σ a) ∧ τ 49 6 = -2) ∨ (prW (σ 102) (nM σ) (σ 107) (FSn σ a) ≤ 200000 ∧ τ 49 6 = ((LG σ (FSn σ a) (-1)).length : Int) ∧ REs τ (LG σ (FSn σ a) (-1))) := by
    rcases a8 with a8 | ⟨x1, x2, x3⟩
    · exact Or.inl a8
    · refine Or.inr ⟨x1, x2, ?_⟩
      unfold REs
      rw [g2, g3, g4]
      refine RES_cg x3 (fun p hp => ?_)
      unfold lgW at hp
      obtain ⟨_, qm⟩ := mem_enumF _ _ _ p (List.mem_filter.mp hp).1
      exact wt_W hW hF hf (fun c hc => (hrow c hc).1) (fun c hc => (List.mem_filter.mp (qm c (by omega) (by omega))).1)
  refine ⟨τ, a1, c, Core_chg h c (Or.inl rfl) (Or.inl rfl) (Or.inl rfl) (Or.inl rfl) (Or.inl rfl) (Or.inl rfl) (Or.inl rfl) (Or.inl rfl) (Or.inl rfl) (Or.inl rfl), ⟨Or.inr ⟨by rw [g7]; exact hn, by rw [a7]; exact hfr.1, Or.inr (Or.inr ⟨a3, a5, ?_⟩)⟩, ?_⟩, a3, a4, a5, a7, a9⟩
  · unfold SPN
    rw [a4, eF, eG, eP]
    exact a9
  · have e7 : τ 49 7 = σ 49 7 := chg_at c rfl rfl
    have e8 : τ 49 8 = σ 49 8 := chg_at c rfl rfl
    have e69 : τ 69 = σ 69 := chg_row c (fun _ => rfl) rfl
    have := hL.2
    unfold KNS at this ⊢
    rw [e7, e8, e69, eP, eG, g2, g3, g4, g7]
    exact this
end COF

/-! MENDS: the pair -/
def CAf : List Nat := [13, 60, 61, 62, 63, 64, 65, 66, 67, 68]
def CSf : List (Nat × Nat) := [(50, 9), (50, 10), (50, 11), (50, 12), (50, 13), (50, 14), (50, 15), (50, 16), (10, 8), (49, 3), (49, 4), (49, 5), (49, 6)]
def PostC (σ τ : xM) : Prop := Core τ ∧ CacheL τ ∧ (eqp PN σ τ ∨ ForgN τ)
section MNS
variable {X : Nat × (Nat → Int)} {σ τ : xM} {t l : Nat}
theorem frm_chg (h : ∀ q j, q ≠ 13 → ¬ (60 ≤ q ∧ q ≤ 68) → ¬ (q = 50 ∧ 9 ≤ j ∧ j ≤ 16) → ¬ (q = 10 ∧ j = 8) → (52 ≤ q ∧ q ≤ 59 → j = 0) → ¬ (q = 49 ∧ 3 ≤ j ∧ j ≤ 6) → τ q j = σ q j) : chg CAf CSf σ τ := by
  intro q j hp hr
  refine h q j (fun z => ?_) (fun z => ?_) (fun z => ?_) (fun z => ?_) (fun z => hr ?_) (fun z => ?_)
  · subst z
    exact Bool.noConfusion (show true = false from hp)
  · have : q = 60 ∨ q = 61 ∨ q = 62 ∨ q = 63 ∨ q = 64 ∨ q = 65 ∨ q = 66 ∨ q = 67 ∨ q = 68 := by omega
    rcases this with y | y | y | y | y | y | y | y | y <;> subst y <;> exact Bool.noConfusion (show true = false from hp)
  · obtain ⟨z1, z2, z3⟩ := z
    subst z1
    have : j = 9 ∨ j = 10 ∨ j = 11 ∨ j = 12 ∨ j = 13 ∨ j = 14 ∨ j = 15 ∨ j = 16 := by omega
    rcases this with y | y | y | y | y | y | y | y <;> subst y <;> exact Bool.noConfusion (show true = false from hp)
  · obtain ⟨z1, z2⟩ := z
    subst z1 z2
    exact Bool.noConfusion (show true = false from hp)
  · unfold rdC
    simp only [Bool.or_eq_true, Bool.and_eq_true, Nat.ble_eq]
    omega
  · obtain ⟨z1, z2, z3⟩ := z
    subst z1
    have : j = 3 ∨ j = 4 ∨ j = 5 ∨ j = 6 := by omega
    rcases this with y | y | y | y <;> subst y <;> exact Bool.noConfusion (show true = false from hp)
/-- the weights are the same -/
theorem wt_W (hW : WF (σ 102)) (hF : FC (σ 102) (σ 3 5) (σ 6) (σ 7) (σ 8)) {n : Nat} {fg fg' : Nat → Int} (hf : ∀ c, c < n → fg c = 0 ∨ fg c = 1) (e1 : ∀ c, c < n → fg' c = fg c) {q : Nat → Nat} (qm : ∀ c, c < n → q c ∈ moW (σ 102) fg' c) : ∀ c, c < n → wtF σ fg c (q c) = wtB (BW (σ 102) fg') c (q c) := by
  intro c hc
  have qc := qm c hc
  unfold moW at qc
  rw [e1 c hc] at qc
  have qc := List.mem_range.mp qc
  have fb := (frm_B hF (hf c hc)).1
  have b := BW_f71 hF (hf c hc) (i := q c) (by omega)
  unfold wtF wtB
  rw [← b]
  unfold BW
  rw [e1 c hc]
theorem LM_cg {CA : List Nat} {CS : List (Nat × Nat)} (c : chg CA CS σ τ) (o : okc CA CS [102, 107, 110, 118, 119] [(100, 16), (100, 35)] = true) : LM τ t l = LM σ t l ∧ nM τ = nM σ ∧ τ 102 = σ 102 ∧ τ 107 = σ 107 ∧ cdM τ = cdM σ ∧ τ 100 35 = σ 100 35 ∧ τ 100 16 = σ 100 16 ∧ τ 110 = σ 110 := by
  have e := eqp_ok o c
  have r : ∀ k, k ∈ [102, 107, 110, 118, 119] → τ k = σ k := fun k hk => funext (fun j => (e k j (by
    unfold pin
    rw [Bool.or_eq_true]
    exact Or.inl (by simpa using hk))))
  have e16 : τ 100 16 = σ 100 16 := e 100 16 (by
    unfold pin
    rw [Bool.or_eq_true]
    exact Or.inr (by decide))
  have e35 : τ 100 35 = σ 100 35 := e 100 35 (by
    unfold pin
    rw [Bool.or_eq_true]
    exact Or.inr (by decide))
  have en : nM τ = nM σ := by unfold nM; rw [e16]
  have ec : cdM τ = cdM σ := by unfold cdM; rw [r 118 (by decide), r 119 (by decide)]
  refine ⟨?_, en, r 102 (by decide), r 107 (by decide), ec, e35, e16, r 110 (by decide)⟩
  unfold LM
  rw [en, ec, e35, r 102 (by decide), r 107 (by decide), r 110 (by decide)]
/-- find, of mends -/
theorem find_M {fr : Int} (h : Core σ) (hL : CacheL σ) (hn : 0 < σ 100 16) (hfr : 0 ≤ fr ∧ fr < 2147483648) (ht : t ≤ 3) (hl : l ≤ 3) : ∃ τ, (∀ d, Ev X (d + 20) 95 0 [some (vr 49), some (vi 0), some (vi t), some (vi l), some (vi fr)] [] SH σ = some (none, SH, τ)) ∧ chg CAf CSf σ τ ∧ Core τ ∧ CacheL τ ∧ τ 49 3 = 0 ∧ τ 49 4 = (t : Int) ∧ τ 49 5 = (l : Int) ∧ τ 49 6 = ((LM σ t l).length : Int) ∧ τ 50 16 = fr ∧ REs τ (LM σ t l) := by
  obtain ⟨hw, hrow, hcd⟩ := WST_of h hn
  have hw' := hw
  obtain ⟨hW, hF, hn0, hn1, e23, _, _, hf, hb, _, e10, hwf, hlen, hR⟩ := hw'
  obtain ⟨τ, a1, a2, a3, a4, a5, a6, a7, a8⟩ := s95m (X := X) hw hfr ht hl
  have eq : lsM σ (nM σ) (σ 24) (σ 25) (σ 11) (σ 100 35).toNat t l = LM σ t l := lsM_W hW hF hf hrow hcd
  rw [eq] at a6 a8
  have c := frm_chg a2
  obtain ⟨g1, g2, g3, g4, g5, g6, g7, g8⟩ := LM_cg (t := t) (l := l) c rfl
  have re : REs τ (LM σ t l) := by
    unfold REs
    rw [g2, g3, g4]
    refine RES_cg a8 (fun p hp => ?_)
    unfold LM lmW at hp
    obtain ⟨_, qm⟩ := mem_enumF _ _ _ p (List.mem_filter.mp hp).1
    exact wt_W hW hF hf (fun c hc => (hrow c hc).1) (fun c hc => qm c (by omega) (by omega))
  refine ⟨τ, a1, c, Core_chg h c (Or.inl rfl) (Or.inl rfl) (Or.inl rfl) (Or.inl rfl) (Or.inl rfl) (Or.inl rfl) (Or.inl rfl) (Or.inl rfl) (Or.inl rfl) (Or.inl rfl), ⟨Or.inr ⟨by rw [g7]; exact hn, by rw [a7]; exact hfr.1, Or.inl ⟨a3, t, l, ht, hl, a4, a5, by rw [g1]; exact a6, by rw [g1]; exact re⟩⟩, ?_⟩, a3, a4, a5, a6, a7, re⟩
  have e7 : τ 49 7 = σ 49 7 := chg_at c rfl rfl
  have e8 : τ 49 8 = σ 49 8 := chg_at c rfl rfl
  have e69 : τ 69 = σ 69 := chg_row c (fun _ => rfl) rfl
  have eG : LG τ Fall (-1) = LG σ Fall (-1) := by
    unfold LG
    rw [g2, g3, g4, g5, g6]
  have := hL.2
  unfold KNS at this ⊢
  rw [e7, e8, e69, g2, g3, g4, g7, eG]
  exact this
/-- countOf, of mends -/
theorem cnt_M (h : Core σ) (hL : CacheL σ) (hn : 0 < σ 100 16) (ht : t ≤ 3) (hl : l ≤ 3) : ∃ τ, (∀ d, Ev X (d + 21) 93 0 [some (vr 49), some (vi 0), some (vi t), some (vi l)] [] SH σ = some (some (vi ((LM σ t l).length : Int)), SH, τ)) ∧ chg CAf CSf σ τ ∧ Core τ ∧ CacheL τ := by
  by_cases kn : σ 49 3 = 0 ∧ σ 49 4 = (t : Int) ∧ σ 49 5 = (l : Int)
  · obtain ⟨k1, k2, k3⟩ := kn
    have cnt : σ 49 6 = ((LM σ t l).length : Int) := by
      rcases hL.1 with z | ⟨_, _, z⟩
      · omega
      · rcases z with ⟨_, t', l', _, _, z1, z2, z3, _⟩ | ⟨z, _⟩ | ⟨z, _⟩
        · have e1 : t' = t := by omega
          have e2 : l' = l := by omega
          rw [e1, e2] at z3
          exact z3
        · omega
        · omega
    refine ⟨σ, fun d => ?_, chg_rf, h, hL⟩
    refine Eq.trans b93_0 ?_
    have r94 : Ev X (d + 20) 94 0 [some (vr 49), some (vi 0), some (vi t), some (vi l)] [] SH σ = some (some (vi 1), SH, σ) := by
      rw [b94_0, if_neg (fun z => z k1), b94_8, if_neg (fun z => z k2), b94_16, if_neg (fun z => z k3), b94_24, b94_29 (Or.inr rfl)]
    refine x_bind r94 ?_
    dsimp only
    refine Eq.trans b93_7 ?_
    rw [if_pos (by decide), b93_18, cnt]
  · obtain ⟨τ, a1, a2, a3, a4, _, _, _, a6, _, _⟩ := find_M (X := X) (fr := 0) h hL hn (by decide) ht hl
    refine ⟨τ, fun d => ?_, a2, a3, a4⟩
    refine Eq.trans b93_0 ?_
    have r94 : Ev X (d + 20) 94 0 [some (vr 49), some (vi 0), some (vi t), some (vi l)] [] SH σ = some (some (vi 0), SH, σ) := by
      rw [b94_0]
      by_cases y1 : σ 49 3 = 0
      · rw [if_neg (fun z => z y1), b94_8]
        by_cases y2 : σ 49 4 = (t : Int)
        · rw [if_neg (fun z => z y2), b94_16, if_pos (fun y3 => kn ⟨y1, y2, y3⟩), b94_28, b94_29 (Or.inl rfl)]
        · rw [if_pos y2, b94_28, b94_29 (Or.inl rfl)]
      · rw [if_pos y1, b94_28, b94_29 (Or.inl rfl)]
    refine x_bind r94 ?_
    dsimp only
    refine Eq.trans b93_7 ?_
    rw [if_neg (by decide)]
    refine Eq.trans b93_10 ?_
    refine x_bind (a1 d) ?_
    dsimp only
    refine Eq.trans b93_18 ?_
    rw [a6]
/-- seekMends, out of what holds between calls -/
theorem mod_M {nth : Int} (h : Core σ) (hn : 0 < σ 100 16) (ht : t ≤ 3) (hl : l ≤ 3) : ∃ (r : Int) (τ : xM), (∀ d, Ev X (d + 5) 241 0 [some (vr 100), some (vi t), some (vi l), some (vi nth), none, none, none] [] SH σ = some (some (vi r), SH, τ)) ∧ chg [113, 114, 115, 121, 122, 123, 124, 125, 126, 127, 128] [(100, 47), (100, 48), (100, 49), (100, 51)] σ τ ∧ Core τ ∧ (nth < 0 → r = ((LM σ t l).length : Int)) ∧ (∀ i : Nat, nth = (i : Int) → ∀ hi : i < (LM σ t l).length, r = nth ∧ ∀ c, c < nM σ → τ 125 c = BW (σ 102) (σ 107) c ((LM σ t l)[i] c)) ∧ (∀ i : Nat, nth = (i : Int) → (LM σ t l).length ≤ i → r = -1) := by
  obtain ⟨hw, hrow, hcd⟩ := WST_of h hn
  have hw' := hw
  obtain ⟨hW, hF, hn0, hn1, e23, _, _, hf, hb, _, e10, hwf, hlen, hR⟩ := hw'
  obtain ⟨w1, w2, w3, w4, w5, w6⟩ := h.2.2.1
  have hn' : σ 100 16 = (nM σ : Int) := by unfold nM; omega
  have hf' : ∀ c, c < nM σ → σ 107 c = 0 ∨ σ 107 c = 1 := fun c hc => by rw [(hrow c hc).1]; exact hf c hc
  have lt := lsM_lt (cd := σ 11) (len := (σ 100 35).toNat) hW hF hn1 hf hb ht hl
  have eq : lsM σ (nM σ) (σ 24) (σ 25) (σ 11) (σ 100 35).toNat t l = LM σ t l := lsM_W hW hF hf hrow hcd
  rw [eq] at lt
  have fr := frm_of hW hF
  have hBi : ∀ c, c < nM σ → ∀ i, i ∈ moW (σ 102) (σ 107) c → BW (σ 102) (σ 107) c i = f71 σ (σ 107 c) (i : Int) ∧ (i : Int) < f72 σ (σ 107 c) := by
    intro c hc i hi
    unfold moW at hi
    have hi := List.mem_range.mp hi
    have fb := (frm_B hF (hf' c hc)).1
    exact ⟨BW_f71 hF (hf' c hc) (by omega), by omega⟩
  have hcdW : WFP (cdM σ) (σ 100 35).toNat := WFP_cg hcd hwf
  have L0 : LM σ t l = lmW (σ 102) (nM σ) (σ 107) (σ 110) (cdM σ) (σ 100 35).toNat t l := rfl
  rw [L0, lmW_eq] at lt ⊢
  obtain ⟨r, τ, p1, p2, p2', p3, p4, p5⟩ := s241 (X := X) (μ := σ) (n := nM σ) (len := (σ 100 35).toNat) (fg := σ 107) (w := σ 102) (B := BW (σ 102) (σ 107)) (sy := syW (σ 102) (σ 107)) (cd := cdM σ) (ct := ctW (σ 102) (σ 107) (σ 110)) (cl := clW (σ 102) (σ 107) (σ 110)) (t := (t : Int)) (l := (l : Int)) (nth := nth) (bs := σ 110) (moW (σ 102) (σ 107)) (fun c hc => rfl) hn0 hn1 hn' rfl rfl hf' (fun c hc => ⟨rfl, by rw [(hrow c hc).2]; exact hb c hc⟩) (fun c hc k hk hv => by
    have b := (frm_B hF (hf' c hc)).2 k hk hv
    have lt := nz_lt (w := wF (σ 107 c) (σ 102)) hk hv
    have fb := (frm_B hF (hf' c hc)).1
    rw [BW_f71 hF (hf' c hc) (by omega)]
    exact b) (fun c hc i hi => ⟨by rw [(hBi c hc i hi).1]; exact f71_rg fr _ _, rfl⟩) (fun c i => rfl) (fun c i => rfl) hcdW hlen (fun i hi => by
    rw [← hcd i hi]
    exact w5 i (by omega)) (by omega) (gdB (fun q => fit (t : Int) (l : Int) (nsum (fun c => ctW (σ 102) (σ 107) (σ 110) c (q c)) (nM σ)) (nsum (fun c => clW (σ 102) (σ 107) (σ 110) c (q c)) (nM σ)))) (fun q => gdB_iff) (by omega) (by omega)
  refine ⟨r, τ, p1, p2, Core_chg h p2 (Or.inl rfl) (Or.inl rfl) (Or.inl rfl) (Or.inl rfl) (Or.inl rfl) (Or.inl rfl) (Or.inl rfl) (Or.inl rfl) (Or.inl rfl) (Or.inr ⟨p2', fun g hg => ?_⟩), p3, p4, p5⟩
  rw [show τ 104 = σ 104 from chg_row p2 (fun _ => rfl) rfl]
  exact h.2.2.2.2.2.2.2.2.2.2 g hg
end MNS

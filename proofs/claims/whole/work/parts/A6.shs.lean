/-! SHAPE: one list on both sides -/
section SHS
variable {X : Nat × (Nat → Int)} {σ τ : xM} {n len : Nat} {fg fg' cd cd' w : Nat → Int} {on : Int}
theorem xand_0 {a : Int} (h0 : 0 ≤ a) (h1 : a < 128) : xand a 0 = 0 := by
  obtain ⟨b, rfl⟩ : ∃ b : Nat, a = b := ⟨a.toNat, by omega⟩
  have := xand_nat (a := b) (b := 0) (by omega)
  rw [Nat.and_zero] at this
  exact this
theorem lsG_W {F F' : Nat → Nat → Bool} (hW : WF (σ 102)) (hF : FC (σ 102) (σ 3 5) (σ 6) (σ 7) (σ 8)) (hf : ∀ c, c < n → fg c = 0 ∨ fg c = 1) (e1 : ∀ c, c < n → fg' c = fg c) (e2 : ∀ i, i < len → cd i = cd' i) (eF : ∀ c, c < n → ∀ i : Nat, (i : Int) < f72 σ (fg c) → F c i = F' c i) : lsG σ n fg cd len F on = lgW (σ 102) n fg' cd' len F' on ∧ nprod (fun c => (opF σ fg F c).length) n = prW (σ 102) n fg' F' := by
  have eo : ∀ c, c < n → opF σ fg F c = (moW (σ 102) fg' c).filter (F' c) := by
    intro c hc
    have fb := (frm_B hF (hf c hc)).1
    unfold opF moW
    rw [e1 c hc, ← fb, Int.toNat_natCast]
    exact List.filter_congr (fun i hi => eF c hc i (by have := List.mem_range.mp hi; omega))
  refine ⟨?_, ?_⟩
  · unfold lsG lgW
    rw [enumF_op (op := opF σ fg F) (op' := fun c => (moW (σ 102) fg' c).filter (F' c)) n 0 (fun _ => 0) (fun j _ hj => eo j (by omega))]
    refine List.filter_congr (fun q hq => ?_)
    obtain ⟨_, qm⟩ := mem_enumF n 0 _ q hq
    have nb : ∀ c, c < n → nil2 c (q c) = nil2 c (q c) ∧ nil2 c (q c) = nil2 c (q c) ∧ syF σ fg c (q c) = syW (σ 102) fg' c (q c) ∧ wtF σ fg c (q c) = wtB (BW (σ 102) fg') c (q c) := by
      intro c hc
      have qc := (List.mem_filter.mp (qm c (by omega) (by omega))).1
      have qc' := qc
      unfold moW at qc
      rw [e1 c hc] at qc
      have qc := List.mem_range.mp qc
      have fb := (frm_B hF (hf c hc)).1
      have hq72 : ((q c : Nat) : Int) < f72 σ (fg c) := by omega
      have b := BW_f71 hF (hf c hc) hq72
      have b' : BW (σ 102) fg' c (q c) = f71 σ (fg c) (q c : Int) := by
        rw [← b]
        unfold BW
        rw [e1 c hc]
      refine ⟨rfl, rfl, ?_, ?_⟩
      · unfold syF syW
        rw [b', e1 c hc, (frm_S hW hF (hf c hc) hq72).1]
      · unfold wtF wtB
        rw [b']
    have fe : isum (fun c => if fg c = 0 then (0 : Int) else 1) n = isum (fun c => if fg' c = 0 then 0 else 1) n := isum_congr n (fun c hc => by rw [e1 c hc])
    rw [Bool.eq_iff_iff, gdB_iff, gdB_iff]
    exact ⟨GD_cg nb fe e2, GD_cg (fun c hc => ⟨rfl, rfl, (nb c hc).2.2.1.symm, (nb c hc).2.2.2.symm⟩) fe.symm (fun i hi => (e2 i hi).symm)⟩
  · unfold prW
    have : ∀ K, K ≤ n → nprod (fun c => (opF σ fg F c).length) K = nprod (fun c => ((moW (σ 102) fg' c).filter (F' c)).length) K := by
      intro K hK
      induction K with
      | zero => rfl
      | succ K ih => rw [nprod, nprod, ih (by omega), eo K (by omega)]
    exact this n (Nat.le_refl _)
theorem nil_0 {q : Nat → Nat} : ∀ n, nsum (fun c => nil2 c (q c)) n = 0
  | 0 => rfl
  | n + 1 => by
    rw [nsum, nil_0 n]
    rfl
/-- as the model finds it -/
theorem lgW_eq {F : Nat → Nat → Bool} {G : (Nat → Nat) → Bool} (hG : ∀ q, G q = true) : lgW w n fg cd len F on = ((enumF (fun c => (moW w fg c).filter (F c)) n 0 (fun _ => 0)).filter G).filter (gdB (GDM n (BW w fg) fg (syW w fg) cd len on)) := by
  unfold lgW
  rw [List.filter_filter]
  refine List.filter_congr (fun q _ => ?_)
  rw [Bool.eq_iff_iff, Bool.and_eq_true, gdB_iff, gdB_iff, hG q]
  unfold GD GDM
  rw [nil_0]
  exact ⟨fun h => ⟨h.2.2, rfl⟩, fun h => ⟨rfl, rfl, h.1⟩⟩
theorem mo_all {c : Nat} : (moW w fg c).filter (Fall c) = moW w fg c := List.filter_eq_self.mpr (fun _ _ => rfl)
theorem lgW_le {F : Nat → Nat → Bool} : (lgW w n fg cd len F on).length ≤ prW w n fg F := by
  refine Nat.le_trans (List.length_filter_le _ _) ?_
  have := enumF_len (op := fun c => (moW w fg c).filter (F c)) n 0 (fun _ => 0)
  rw [nprod, Nat.mul_one, Nat.zero_add] at this
  exact Nat.le_of_eq this
/-- seekShape, out of what holds between calls -/
theorem mod_S {nth my : Int} (h : Core σ) (hn : 0 < σ 100 16) (hon : (my < 0 ∧ on = -1) ∨ (0 ≤ my ∧ on = my)) : ∃ (r : Int) (τ : xM), (∀ d, Ev X (d + 6) 258 0 [some (vr 100), some (vi my), some (vi nth), none, none] [] SH σ = some (some (vi r), SH, τ)) ∧ chg [113, 114, 115, 121, 122, 123, 124, 125, 126, 127, 128] [(100, 47), (100, 48), (100, 49), (100, 51), (100, 52), (100, 53)] σ τ ∧ Core τ ∧ (200000 < prW (σ 102) (nM σ) (σ 107) Fall → r = -2) ∧ (prW (σ 102) (nM σ) (σ 107) Fall ≤ 200000 → (nth < 0 → r = ((LG σ Fall on).length : Int) ∧ τ 100 52 = ((LG σ Fall on).map (stkB (BW (σ 102) (σ 107)) (nM σ))).foldl fstS (-1) ∧ τ 100 53 = ((LG σ Fall on).map (stkB (BW (σ 102) (σ 107)) (nM σ))).foldl mstS (-1)) ∧ (∀ i : Nat, nth = (i : Int) → ∀ hi : i < (LG σ Fall on).length, r = nth ∧ ∀ c, c < nM σ → τ 125 c = BW (σ 102) (σ 107) c ((LG σ Fall on)[i] c)) ∧ (∀ i : Nat, nth = (i : Int) → (LG σ Fall on).length ≤ i → r = -1)) := by
  obtain ⟨hw, hrow, hcd⟩ := WST_of h hn
  have hw' := hw
  obtain ⟨hW, hF, hn0, hn1, e23, _, _, hf, hb, _, e10, hwf, hlen, hR⟩ := hw'
  obtain ⟨w1, w2, w3, w4, w5, w6⟩ := h.2.2.1
  have hn' : σ 100 16 = (nM σ : Int) := by unfold nM; omega
  have hf' : ∀ c, c < nM σ → σ 107 c = 0 ∨ σ 107 c = 1 := fun c hc => by rw [(hrow c hc).1]; exact hf c hc
  have fr := frm_of hW hF
  have hcdW : WFP (cdM σ) (σ 100 35).toNat := WFP_cg hcd hwf
  have hBi : ∀ c, c < nM σ → ∀ i, i ∈ moW (σ 102) (σ 107) c → BW (σ 102) (σ 107) c i = f71 σ (σ 107 c) (i : Int) := by
    intro c hc i hi
    unfold moW at hi
    have hi := List.mem_range.mp hi
    have fb := (frm_B hF (hf' c hc)).1
    exact BW_f71 hF (hf' c hc) (by omega)
  have core : ∀ τ : xM, chg [113, 114, 115, 121, 122, 123, 124, 125, 126, 127, 128] [(100, 47), (100, 48), (100, 49), (100, 51), (100, 52), (100, 53)] σ τ → τ 100 51 = 1 → Core τ := by
    intro τ c e51
    refine Core_chg h c (Or.inl rfl) (Or.inl rfl) (Or.inl rfl) (Or.inl rfl) (Or.inl rfl) (Or.inl rfl) (Or.inl rfl) (Or.inl rfl) (Or.inl rfl) (Or.inr ⟨e51, fun g hg => ?_⟩)
    rw [show τ 104 = σ 104 from chg_row c (fun _ => rfl) rfl]
    exact h.2.2.2.2.2.2.2.2.2.2 g hg
  obtain ⟨μ1, a1, a2, a3⟩ := s242 (X := X) (μ := xwr σ 100 51 1) (n := nM σ) (fg := σ 107) (w := σ 102) (B := BW (σ 102) (σ 107)) (alw := fun _ _ => 1) hn1 (by rw [xwr_nj (by decide)]; exact hn') (xwr_row (by decide)) (xwr_row (by decide)) (fun c hc k hk hv => by
    have b := (frm_B hF (hf' c hc)).2 k hk hv
    have lt := nz_lt (w := wF (σ 107 c) (σ 102)) hk hv
    have fb := (frm_B hF (hf' c hc)).1
    rw [BW_f71 hF (hf' c hc) (by omega)]
    exact b) (fun c k τ hc hk hv hs d => s243f (by rw [hs 100 51 rfl, xwr_eq]; decide) d) (moW (σ 102) (σ 107)) (fun c hc => (List.filter_eq_self.mpr (fun i hi => by decide)).symm)
  have c1 : chg [122, 123] [(100, 51)] σ μ1 := chg_tr (chg_wr rfl chg_rf) (chg_mo (by decide) (chs_g a2))
  have e51 : μ1 100 51 = 1 := by rw [a2 100 51 rfl, xwr_eq]
  have pe : nprod (fun c => (moW (σ 102) (σ 107) c).length) (nM σ) = prW (σ 102) (nM σ) (σ 107) Fall := by
    unfold prW
    simp only [mo_all]
  rw [pe] at a1
  by_cases big : prW (σ 102) (nM σ) (σ 107) Fall ≤ 200000
  · obtain ⟨μ2, μ3, b1, b2, b3, b4, b5, z1, z2, z3, z4⟩ := see_0 (X := X) (μ := μ1) (n := nM σ) (len := (σ 100 35).toNat) (fg := σ 107) (w := σ 102) (B := BW (σ 102) (σ 107)) (sy := syW (σ 102) (σ 107)) (cd := cdM σ) (mo := moW (σ 102) (σ 107)) (ct := ctW (σ 102) (σ 107) (σ 110)) (cl := clW (σ 102) (σ 107) (σ 110)) (mg := -1) (ml := -1) (bs := σ 110) hn0 hn1 ((chg_at c1 rfl rfl).trans hn') (chg_row c1 (fun _ => rfl) rfl) (chg_row c1 (fun _ => rfl) rfl) hf' (fun c hc => ⟨by rw [show μ1 110 = σ 110 from chg_row c1 (fun _ => rfl) rfl], by rw [(hrow c hc).2]; exact hb c hc⟩) a3 (fun c hc i hi => ⟨by rw [hBi c hc i hi]; exact f71_rg fr _ _, rfl⟩) (fun c i => rfl) (fun c i => rfl) hcdW hlen (fun i hi => by
      rw [show μ1 118 = σ 118 from chg_row c1 (fun _ => rfl) rfl, show μ1 119 = σ 119 from chg_row c1 (fun _ => rfl) rfl, ← hcd i hi]
      exact w5 i (by omega)) (by rw [chg_at c1 rfl rfl]; omega) (fun _ => true) (fun q => ⟨fun _ => Or.inl (by decide), fun _ => rfl⟩)
    have lq : ((enumF (moW (σ 102) (σ 107)) (nM σ) 0 (fun _ => 0)).filter (fun _ => true)).filter (gdB (GDM (nM σ) (BW (σ 102) (σ 107)) (σ 107) (syW (σ 102) (σ 107)) (cdM σ) (σ 100 35).toNat on)) = LG σ Fall on := by
      have := lgW_eq (w := σ 102) (n := nM σ) (fg := σ 107) (cd := cdM σ) (len := (σ 100 35).toNat) (F := Fall) (on := on) (G := fun _ => true) (fun _ => rfl)
      simp only [mo_all] at this
      exact this.symm
    generalize hμ : xwr (xwr μ3 100 52 (-1)) 100 53 (-1) = μ4
    have c4 : chg [] [(100, 52), (100, 53)] μ3 μ4 := by
      rw [← hμ]
      exact chg_wr rfl (chg_wr rfl chg_rf)
    have A4 : ADVB X (nM σ) (moW (σ 102) (σ 107)) (ctW (σ 102) (σ 107) (σ 110)) (clW (σ 102) (σ 107) (σ 110)) (BW (σ 102) (σ 107)) (fun _ => true) ((enumF (moW (σ 102) (σ 107)) (nM σ) 0 (fun _ => 0)).filter (fun _ => true)) μ4 := by
      have S4 := SCN_chg b4 c4 rfl
      exact ADVB_1 S4 (fun q => ⟨fun _ => Or.inl (by decide), fun _ => rfl⟩) (by rw [chg_at c4 rfl rfl]; exact z1) (by rw [show μ4 124 = μ3 124 from chg_row c4 (fun _ => rfl) rfl]; exact z2) (by rw [show μ4 127 = μ3 127 from chg_row c4 (fun _ => rfl) rfl]; exact z3) (by rw [show μ4 128 = μ3 128 from chg_row c4 (fun _ => rfl) rfl]; exact z4)
    have ll : (LG σ Fall on).length ≤ 200000 := Nat.le_trans lgW_le big
    obtain ⟨r, τ, p1, p2, p3, p4, p5⟩ := it258 (X := X) (nth := nth) (my := my) (on := on) (fun q => ⟨fun _ => Or.inl (by decide), fun _ => rfl⟩) hon ((enumF (moW (σ 102) (σ 107)) (nM σ) 0 (fun _ => 0)).filter (fun _ => true)) μ4 0 (-1) (-1) (SCN_chg b4 c4 rfl) A4 (by rw [← hμ, xwr_nj (by decide), xwr_eq]) (by rw [← hμ, xwr_eq]) (by omega) (by rw [lq]; omega)
    rw [lq] at p3 p4 p5
    have cc : chg [113, 114, 115, 121, 122, 123, 124, 125, 126, 127, 128] [(100, 47), (100, 48), (100, 49), (100, 51), (100, 52), (100, 53)] σ τ := chg_tr (chg_mo (by decide) c1) (chg_tr (chg_mo (by decide) b3) (chg_tr (chg_mo (by decide) c4) (chg_mo (by decide) p2)))
    refine ⟨r, τ, fun d => ?_, cc, core τ cc (by rw [chg_at p2 rfl rfl, chg_at c4 rfl rfl, chg_at b3 rfl rfl]; exact e51), fun z => by omega, fun _ => ⟨fun y => ?_, fun i hi h => p4 i (by rw [Nat.zero_add]; exact hi) h, fun i hi h => p5 i (by rw [Nat.zero_add]; exact hi) h⟩⟩
    · refine Eq.trans b258_0 ?_
      refine x_bind (a1 (d + 3)) ?_
      dsimp only
      refine Eq.trans b258_9 ?_
      rw [if_pos (by unfold lcmp'; split; omega; split <;> omega)]
      refine Eq.trans b258_19 ?_
      refine x_bind (b1 _) ?_
      dsimp only
      refine Eq.trans b258_27 ?_
      refine x_bind (b2 _) ?_
      dsimp only
      refine Eq.trans b258_33 ?_
      rw [hμ]
      exact p1 (d + 1) _
    · obtain ⟨q1, q2, q3⟩ := p3 y
      exact ⟨by rw [q1]; omega, q2, q3⟩
  · have cc : chg [113, 114, 115, 121, 122, 123, 124, 125, 126, 127, 128] [(100, 47), (100, 48), (100, 49), (100, 51), (100, 52), (100, 53)] σ μ1 := chg_mo (by decide) c1
    refine ⟨-2, μ1, fun d => ?_, cc, core μ1 cc e51, fun _ => rfl, fun z => absurd z big⟩
    refine Eq.trans b258_0 ?_
    refine x_bind (a1 (d + 3)) ?_
    dsimp only
    refine Eq.trans b258_9 ?_
    rw [if_neg (by unfold lcmp'; rw [if_neg (by omega), if_neg (by omega)]; decide), b258_16]
end SHS
